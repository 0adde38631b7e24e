/-! ===== spoken ===== -/
section CSPOKEN
variable {z : Nat} {kc : KC} {σ : Sg} {im : Nat → Option (Nat × Sg)} {M : Mem}
theorem tx_same {t u cap cap' n n' : Nat} {L T : Nat → Int32} (hT : TX t cap n L M) (hU : TX u cap' n' T M) (hc : cap < 10000) (hc' : cap' < 10000) : fX4_sameAs t u M = some (bI (decide (n = n' ∧ ∀ k, k < n → L k = T k)), M) := by
  have h1 := hT.1
  have h2 := hU.1
  have loop : ∀ (d j f : Nat), j + d = n → d < f → n = n' → (∀ k, k < j → L k = T k) → fX4_sameAs_15 f t u (nI j) M = some (bI (decide (n = n' ∧ ∀ k, k < n → L k = T k)), M) := by
    intro d
    induction d with
    | zero =>
      intro j f hj hf hn hall
      obtain ⟨f, rfl⟩ : ∃ g, f = g + 1 := ⟨f - 1, by omega⟩
      have hq : n = n' ∧ ∀ k, k < n → L k = T k := ⟨hn, fun k hk => hall k (by omega)⟩
      rw [fX4_sameAs_15, tx_n hT, Option.bind_some, if_pos (nI_le (by omega) (by omega)), nz1, Option.bind_some, decide_eq_true hq]
      rfl
    | succ d ih =>
      intro j f hj hf hn hall
      obtain ⟨f, rfl⟩ : ∃ g, f = g + 1 := ⟨f - 1, by omega⟩
      rw [fX4_sameAs_15, tx_n hT, Option.bind_some, if_neg (nI_ge (by omega) (by omega)), tx_b hT, Option.bind_some, tx_a hT (by omega) (show j < n by omega), Option.bind_some, tx_ck hU, Option.bind_some, tx_byte hU (by omega) (show j < n' by omega), Option.bind_some]
      dsimp only
      by_cases hb : L j = T j
      · rw [if_pos hb, nI_1]
        refine ih (j + 1) f (by omega) (by omega) hn (fun k hk => ?_)
        by_cases hkj : k = j
        · rw [hkj]; exact hb
        · exact hall k (by omega)
      · have hq : ¬ (n = n' ∧ ∀ k, k < n → L k = T k) := fun q => hb (q.2 j (by omega))
        rw [if_neg hb, nz0, Option.bind_some, decide_eq_false hq]
        rfl
  unfold fX4_sameAs
  rw [tx_n hT, Option.bind_some, tx_n hU, Option.bind_some]
  by_cases hn : n = n'
  · rw [if_pos (by rw [hn])]
    exact loop n 0 FU (by omega) (by unfold FU; omega) hn (fun k hk => absurd hk (Nat.not_lt_zero k))
  · have hq : ¬ (n = n' ∧ ∀ k, k < n → L k = T k) := fun q => hn q.1
    rw [if_neg (fun q => hn ((nI_eq (by omega) (by omega)).mp q)), nz0, Option.bind_some, decide_eq_false hq]
    rfl
theorem c_meanW {t cap n : Nat} {T : Nat → Int32} (h : TX t cap n T M) (hc : cap < 10000) (hS : StrOk M.2.2) {K : Nat} (hK : K < 10 ^ 9) (hs : Suf T n 0 (tkW K)) : fX5_meaning t M = some (nI K, M) := by
  have hn := h.1
  have hv := tkW_lt hK
  have e := mf_tkW hK
  cases hW : tkW K with
  | nil =>
    rw [hW] at e
    have e' : 0 = K := e
    rw [← e'] at hW
    cases hW
  | cons u ts =>
    rw [hW] at hs hv e
    have := c_mean h (by omega) (by omega) hS ts u 0 0 0 FU hv hs (by unfold FU; omega)
    rw [e] at this
    exact this
theorem c_spoken (hS : StrOk M.2.2) (hc : CO z σ im M) : ∃ M1, Chg (z + 16) (z + 17) M M1 ∧ CO z σ im M1 ∧ ((∃ K, K < 10 ^ 9 ∧ Suf (lbS σ) (lnS σ) 0 (tkW K) ∧ fX7_spoken z M = some (nI K, M1)) ∨ ((∀ K, K < 10 ^ 9 → ¬ Suf (lbS σ) (lnS σ) 0 (tkW K)) ∧ fX7_spoken z M = some (-1, M1))) := by
  have hok := co_ok hc
  have hsh := co_sh hc
  have hln := hok.2.2.1
  have hT := hsh.2.1
  obtain ⟨r, e1⟩ := c_meant hT (by decide) (by omega) hS
  have only : ∀ K, K < 10 ^ 9 → Suf (lbS σ) (lnS σ) 0 (tkW K) → r = nI K := by
    intro K hK hs
    have e2 := c_meanW hT (by decide) hS hK hs
    rw [e1] at e2
    injection e2 with e3
    injection e3
  have start : fX7_spoken z M = if r < 0 then fX7_spoken_21 M else if r ≤ (999999999 : Int32) then ((gN M 4 z 3).bind fun v4 => (fX5_write v4 r M).bind fun r5 => (gN r5 4 z 3).bind fun v6 => (gN r5 4 z 0).bind fun v7 => (gN r5 2 v7 0).bind fun v8 => (ck r5 3 v6).bind fun u9 => (fX4_sameAs v6 v8 r5).bind fun r10 => if r10.1 = 0 then (fX7_spoken_53 (-1 : Int32) r10.2) else (fX7_spoken_53 r r10.2)) else fX7_spoken_21 M := by
    unfold fX7_spoken
    rw [co_g0 hc, Option.bind_some, cs_g0 hsh, Option.bind_some, e1, Option.bind_some]
  rw [start]
  by_cases h0 : r < 0
  · rw [if_pos h0]
    refine ⟨M, Chg.rf _ _ M, hc, Or.inr ⟨fun K hK hs => ?_, rfl⟩⟩
    rw [only K hK hs] at h0
    exact nI_pos (by omega) h0
  · rw [if_neg h0]
    by_cases h9 : r ≤ 999999999
    · obtain ⟨K, hK, rfl⟩ := words_in h0 (le_nlt h9)
      obtain ⟨n0, L0, hdr⟩ := hc.2.2.2.2.2.2.2.1
      obtain ⟨M1, q1, q2⟩ := c_words hS hdr hK
      have hc1 := co_draft hc q2.1 q2.2
      have hsh1 := co_sh hc1
      have hlen := len_words hK
      refine ⟨M1, q2.2, hc1, ?_⟩
      rw [if_pos h9, co_g3 hc, Option.bind_some, q1, Option.bind_some, co_g3 hc1, Option.bind_some, co_g0 hc1, Option.bind_some, cs_g0 hsh1, Option.bind_some, tx_ck q2.1, Option.bind_some, tx_same q2.1 hsh1.2.1 (by decide) (by decide), Option.bind_some]
      dsimp only
      have hjw : jw [] (tkW K) = jn (tkW K) := jw_jn (tkW_lt hK)
      rw [hjw]
      by_cases hq : (jn (tkW K)).length = lnS σ ∧ ∀ k, k < (jn (tkW K)).length → lf (jn (tkW K)) k = lbS σ k
      · left
        rw [decide_eq_true hq, if_neg (show ¬ bI true = 0 by decide)]
        refine ⟨K, hK, ⟨by omega, fun k hk => ?_⟩, rfl⟩
        rw [Nat.zero_add]
        exact (hq.2 k hk).symm
      · right
        rw [decide_eq_false hq, if_pos (show bI false = 0 by decide)]
        refine ⟨fun K' hK' hs => ?_, rfl⟩
        have he := only K' hK' hs
        have he' := (nI_eq (by omega) (by omega)).mp he
        subst he'
        refine hq ⟨by have := hs.1; omega, fun k hk => ?_⟩
        have := hs.2 k hk
        rw [Nat.zero_add] at this
        exact this.symm
    · rw [if_neg h9]
      refine ⟨M, Chg.rf _ _ M, hc, Or.inr ⟨fun K hK hs => ?_, rfl⟩⟩
      rw [only K hK hs] at h9
      exact h9 (li_le 999999999 K 999999999 rfl (by omega) (by decide))
theorem step_spoken (h : INV z kc σ im M) (hS : StrOk M.2.2) : Step z kc (fX7_spoken z) (fX8_spoken (z + 18)) M := by
  have hc := h.2.1
  have hok := co_ok hc
  obtain ⟨M1, g1, hc1, cc⟩ := c_spoken hS hc
  have lnA : ∀ {A B}, RO A B σ im → LnA A (lnS σ) (lbS σ) := by
    intro A B hO
    refine ⟨hok.2.2.1, hO.1.2.2.1, fun k hk => ?_⟩
    have := hO.1.2.2.2.1 k hk
    rw [Nat.mul_zero, Nat.zero_add] at this
    exact this
  rcases cc with ⟨K, hK, hs, c⟩ | ⟨hno, c⟩
  · refine step_of h c (Cl.of g1 hc.1 (by omega)) hc1 (fun A B hR hO => ?_)
    obtain ⟨M2, R2, e2⟩ := p_spoken (lnA hO) hR
    rcases e2 with ⟨K', hK', hs', e2⟩ | ⟨q, -⟩
    · have := suf_uniq hK hK' hs hs'
      subst this
      exact ⟨A, B, M2, e2, R2, hO⟩
    · exact absurd hs (q K hK)
  · refine step_of h c (Cl.of g1 hc.1 (by omega)) hc1 (fun A B hR hO => ?_)
    obtain ⟨M2, R2, e2⟩ := p_spoken (lnA hO) hR
    rcases e2 with ⟨K', hK', hs', -⟩ | ⟨-, e2⟩
    · exact absurd hs' (hno K' hK')
    · exact ⟨A, B, M2, e2, R2, hO⟩
end CSPOKEN
