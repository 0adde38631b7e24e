/-! ===== the calls, one by one: undo, bounds, take, clear, keys ===== -/
section CWRITE
variable {z : Nat} {kc : KC} {σ : Sg} {im : Nat → Option (Nat × Sg)} {M : Mem} {A A' : Nat → Nat → Int32} {B B' : Nat → Nat → Int64}
theorem ro_line {n : Nat} {L : Nat → Int32} (h : RO A B σ im) (e : ∀ j, ¬ j = 10 → ¬ j = 11 → A' j = A j) (e10 : A' 10 0 = nI n) (e11 : ∀ k, k < n → A' 11 k = L k) (f10 : ∀ i, 1 ≤ i → A' 10 i = A 10 i) (f11 : ∀ i, 60 ≤ i → A' 11 i = A 11 i) : RO A' B (wLine σ n L) im := by
  obtain ⟨⟨o1, o2, o3, o4, o5, o6, o7, o8, o9⟩, hO2⟩ := h
  refine ⟨⟨?_, ?_, e10, ?_, ?_, ?_, ?_, ?_, o9⟩, fun k hk => ⟨?_, fun s τ he => ?_⟩⟩
  · rw [e 1 (by decide) (by decide)]; exact o1
  · rw [e 2 (by decide) (by decide), e 3 (by decide) (by decide), e 4 (by decide) (by decide), e 5 (by decide) (by decide), e 6 (by decide) (by decide), e 7 (by decide) (by decide), e 8 (by decide) (by decide), e 9 (by decide) (by decide)]; exact o2
  · intro k hk
    rw [Nat.mul_zero, Nat.zero_add]; exact e11 k hk
  · rw [e 14 (by decide) (by decide)]; exact o5
  · rw [e 15 (by decide) (by decide), e 16 (by decide) (by decide)]; exact o6
  · rw [e 17 (by decide) (by decide)]; exact o7
  · rw [e 18 (by decide) (by decide)]; exact o8
  · rw [e 23 (by decide) (by decide)]; exact (hO2 k hk).1
  · obtain ⟨s1, s2, s3, s4, s5, s6, s7, s8, s9⟩ := (hO2 k hk).2 s τ he
    refine ⟨?_, ?_, ?_, ?_, ?_, ?_, ?_, ?_, s9⟩
    · rw [e 1 (by decide) (by decide)]; exact s1
    · rw [e 2 (by decide) (by decide), e 3 (by decide) (by decide), e 4 (by decide) (by decide), e 5 (by decide) (by decide), e 6 (by decide) (by decide), e 7 (by decide) (by decide), e 8 (by decide) (by decide), e 9 (by decide) (by decide)]; exact s2
    · rw [f10 _ (by omega)]; exact s3
    · intro j hj; rw [f11 _ (by omega)]; exact s4 j hj
    · rw [e 14 (by decide) (by decide)]; exact s5
    · rw [e 15 (by decide) (by decide), e 16 (by decide) (by decide)]; exact s6
    · rw [e 17 (by decide) (by decide)]; exact s7
    · rw [e 18 (by decide) (by decide)]; exact s8
theorem ro_shown {n : Nat} {L : Nat → Int32} (h : RO A B σ im) (e : ∀ j, (j ≤ 18 ∨ j = 23) → ¬ j = 17 → ¬ j = 18 → A' j = A j) (e10 : A' 17 0 = nI n) (e11 : ∀ k, k < n → A' 18 k = L k) (f10 : ∀ i, 1 ≤ i → A' 17 i = A 17 i) (f11 : ∀ i, 160 ≤ i → A' 18 i = A 18 i) : RO A' B (wShown σ n L) im := by
  obtain ⟨⟨o1, o2, o3, o4, o5, o6, o7, o8, o9⟩, hO2⟩ := h
  refine ⟨⟨?_, ?_, ?_, ?_, ?_, ?_, e10, ?_, o9⟩, fun k hk => ⟨?_, fun s τ he => ?_⟩⟩
  · rw [e 1 (by decide) (by decide) (by decide)]; exact o1
  · rw [e 2 (by decide) (by decide) (by decide), e 3 (by decide) (by decide) (by decide), e 4 (by decide) (by decide) (by decide), e 5 (by decide) (by decide) (by decide), e 6 (by decide) (by decide) (by decide), e 7 (by decide) (by decide) (by decide), e 8 (by decide) (by decide) (by decide), e 9 (by decide) (by decide) (by decide)]; exact o2
  · rw [e 10 (by decide) (by decide) (by decide)]; exact o3
  · rw [e 11 (by decide) (by decide) (by decide)]; exact o4
  · rw [e 14 (by decide) (by decide) (by decide)]; exact o5
  · rw [e 15 (by decide) (by decide) (by decide), e 16 (by decide) (by decide) (by decide)]; exact o6
  · intro k hk
    rw [Nat.mul_zero, Nat.zero_add]; exact e11 k hk
  · rw [e 23 (by decide) (by decide) (by decide)]; exact (hO2 k hk).1
  · obtain ⟨s1, s2, s3, s4, s5, s6, s7, s8, s9⟩ := (hO2 k hk).2 s τ he
    refine ⟨?_, ?_, ?_, ?_, ?_, ?_, ?_, ?_, s9⟩
    · rw [e 1 (by decide) (by decide) (by decide)]; exact s1
    · rw [e 2 (by decide) (by decide) (by decide), e 3 (by decide) (by decide) (by decide), e 4 (by decide) (by decide) (by decide), e 5 (by decide) (by decide) (by decide), e 6 (by decide) (by decide) (by decide), e 7 (by decide) (by decide) (by decide), e 8 (by decide) (by decide) (by decide), e 9 (by decide) (by decide) (by decide)]; exact s2
    · rw [e 10 (by decide) (by decide) (by decide)]; exact s3
    · rw [e 11 (by decide) (by decide) (by decide)]; exact s4
    · rw [e 14 (by decide) (by decide) (by decide)]; exact s5
    · rw [e 15 (by decide) (by decide) (by decide), e 16 (by decide) (by decide) (by decide)]; exact s6
    · rw [f10 _ (by omega)]; exact s7
    · intro j hj; rw [f11 _ (by omega)]; exact s8 j hj
theorem step_undo (h : INV z kc σ im M) (x : Int32) : Step z kc (fX7_undo z x) (fX8_undo (z + 18) x) M := by
  have hc := h.2.1
  have hok := co_ok hc
  have hsh := co_sh hc
  have hln := hok.2.2.1
  by_cases hx : ∃ j, j ≤ lnS σ ∧ x = nI j
  · obtain ⟨j, j1, j2⟩ := hx
    obtain ⟨M', q1, q2, q3⟩ := tx_shorten hsh.2.1 (by decide) j1
    have hc' := co_line hc q2 (q3.wide (by omega) (by omega)) (fun k hk => hok.2.2.2.1 k (by omega))
    have c : fX7_undo z x M = some (nI (lnS σ - j), M') := by
      unfold fX7_undo
      rw [j2, if_neg (nI_pos (by omega)), co_g0 hc, Option.bind_some, cs_g0 hsh, Option.bind_some, tx_ck hsh.2.1, Option.bind_some, tx_len hsh.2.1, Option.bind_some]
      dsimp only
      rw [if_pos (nI_le j1 (by omega)), co_g0 hc, Option.bind_some, cs_g0 hsh, Option.bind_some, tx_ck hsh.2.1, Option.bind_some, q1, Option.bind_some, co_g0 hc', Option.bind_some, cs_g0 (co_sh hc'), Option.bind_some, tx_ck q2, Option.bind_some, tx_len q2, Option.bind_some]
    refine step_of h c (Cl.of q3 hc.1 (by omega)) hc' (fun A B hR hO => ?_)
    rcases p_undo hln hO.1.2.2.1 x hR with ⟨j', i1, i2, M2, p1, p2⟩ | ⟨p1, -⟩
    · have : j' = j := (nI_eq (by omega) (by omega)).mp (i2.symm.trans j2)
      subst this
      refine ⟨_, B, M2, p2, p1, ro_line hO (fun j h1 h2 => by unfold upA; rw [if_neg h1]) ?_ ?_ ?_ (fun i _ => rfl)⟩
      · show upd (A 10) 0 (nI (lnS σ - j')) 0 = _
        exact pk_us
      · intro k hk
        have := hO.1.2.2.2.1 k (by omega)
        rw [Nat.mul_zero, Nat.zero_add] at this
        exact this
      · intro i hi
        show upd (A 10) 0 (nI (lnS σ - j')) i = _
        exact pk_un (by omega)
    · exact absurd ⟨j, j1, j2⟩ p1
  · have c : fX7_undo z x M = some (-1, M) := by
      unfold fX7_undo fX7_undo_18
      by_cases x1 : x < 0
      · rw [if_pos x1]
      · obtain ⟨j, hj, rfl⟩ := nI_of x1
        have hj2 : lnS σ < j := by
          rcases Nat.lt_or_ge (lnS σ) j with q | q
          · exact q
          · exact absurd ⟨j, q, rfl⟩ hx
        rw [if_neg x1, co_g0 hc, Option.bind_some, cs_g0 hsh, Option.bind_some, tx_ck hsh.2.1, Option.bind_some, tx_len hsh.2.1, Option.bind_some]
        dsimp only
        rw [if_neg (nI_ge hj2 hj)]
    refine step_of h c (Cl.of (Chg.rf 0 0 M) hc.1 (by omega)) hc (fun A B hR hO => ?_)
    rcases p_undo hln hO.1.2.2.1 x hR with ⟨j', i1, i2, -⟩ | ⟨-, M2, p1, p2⟩
    · exact absurd ⟨j', i1, i2⟩ hx
    · exact ⟨A, B, M2, p2, p1, hO⟩
theorem step_take (h : INV z kc σ im M) : Step z kc (fX7_take z) (fX8_take (z + 18)) M := by
  have hc := h.2.1
  have hok := co_ok hc
  have hsh := co_sh hc
  have hsn := hok.2.2.2.2.1
  have z0 := nI_z (a := snS σ) (by omega)
  by_cases hx : 0 < snS σ ∧ snS σ ≤ 60
  · obtain ⟨M', q1, q2, q3⟩ := tx_copy hsh.2.1 hsh.2.2.1 (by omega) (by decide) (by decide) hx.2
    have hc' := co_line hc q2 (q3.wide (by omega) (by omega)) (fun k hk => hok.2.2.2.2.2.1 k hk)
    have c : fX7_take z M = some (nI (snS σ), M') := by
      unfold fX7_take
      rw [co_g0 hc, Option.bind_some, cs_g1 hsh, Option.bind_some, tx_ck hsh.2.2.1, Option.bind_some, tx_len hsh.2.2.1, Option.bind_some]
      dsimp only
      rw [if_neg (fun q => by have := z0.mp q; omega), if_pos (li_le 60 _ 60 rfl hx.2 (by decide)), co_g0 hc, Option.bind_some, cs_g0 hsh, Option.bind_some, Option.bind_some, cs_g1 hsh, Option.bind_some, tx_ck hsh.2.1, Option.bind_some, q1, Option.bind_some]
    refine step_of h c (Cl.of q3 hc.1 (by omega)) hc' (fun A B hR hO => ?_)
    rcases p_take (sh := snS σ) (by omega) hO.1.2.2.2.2.2.2.1 hR with ⟨-, -, M2, p1, p2⟩ | ⟨p1, -⟩
    · refine ⟨_, B, M2, p2, p1, ro_line hO (fun j h1 h2 => by unfold takeP upA; rw [if_neg h2, if_neg h1]) ?_ ?_ ?_ ?_⟩
      · show upd (A 10) 0 (nI (snS σ)) 0 = _
        exact pk_us
      · intro k hk
        have := hO.1.2.2.2.2.2.2.2.1 k hk
        rw [Nat.mul_zero, Nat.zero_add] at this
        show (if k < snS σ then A 18 k else A 11 k) = _
        rw [if_pos hk]; exact this
      · intro i hi
        show upd (A 10) 0 (nI (snS σ)) i = _
        exact pk_un (by omega)
      · intro i hi
        show (if i < snS σ then A 18 i else A 11 i) = _
        rw [if_neg (by omega)]
    · exact absurd hx p1
  · have c : fX7_take z M = some (-1, M) := by
      unfold fX7_take fX7_take_21
      rw [co_g0 hc, Option.bind_some, cs_g1 hsh, Option.bind_some, tx_ck hsh.2.2.1, Option.bind_some, tx_len hsh.2.2.1, Option.bind_some]
      dsimp only
      by_cases h0 : snS σ = 0
      · rw [if_pos (z0.mpr h0)]
      · rw [if_neg (fun q => h0 (z0.mp q)), if_neg (li_nle 60 _ 60 rfl (by omega) (by omega))]
    refine step_of h c (Cl.of (Chg.rf 0 0 M) hc.1 (by omega)) hc (fun A B hR hO => ?_)
    rcases p_take (sh := snS σ) (by omega) hO.1.2.2.2.2.2.2.1 hR with ⟨p1, p2, -⟩ | ⟨-, M2, p1, p2⟩
    · exact absurd ⟨p1, p2⟩ hx
    · exact ⟨A, B, M2, p2, p1, hO⟩
theorem pF_sh6 {s nl nr j : Nat} (h : M.2.1 s = some (shc s nl nr)) : pF M 2 s 6 (.int (nI j)) = some (mst M s (shc s nl j)) := by simp [pF, h, shc]
theorem pF_sh3 {s nl nr j : Nat} (h : M.2.1 s = some (shc s nl nr)) : pF M 2 s 3 (.int (nI j)) = some (mst M s (shc s j nr)) := by simp [pF, h, shc]
/-- the now-sheet, where its own object and arrays have changed but its lands stand -/
theorem co_now {M' : Mem} {σ' : Sg} (h : CO z σ im M) (g : Chg (z + 1) (z + 10) M M') (hs : CSh (z + 42) (z + 1) σ' M') (hok : SgOk σ') : CO z σ' im M' := by
  have h' := h
  obtain ⟨h0, h1, h2, h3, h4, h5, h6, ⟨nd, Ld, h7⟩, h8⟩ := h'
  exact CO.fr h (g.wide (by omega) (by omega)) (g.2.2 _ (by omega) (by omega)) hs (h6.fr g (by omega) (by omega)) ⟨nd, Ld, h7.fr g (by omega) (by omega)⟩ hok
theorem step_clear (h : INV z kc σ im M) : ∃ M1 M2 σ' im', fX7_clear z M = some M1 ∧ M1.2.2 = kc ∧ ck M1 5 (z + 18) = some () ∧ fX8_clear (z + 18) M1 = some M2 ∧ INV z kc σ' im' M2 := by
  have hc := h.2.1
  have hok := co_ok hc
  have hsh := co_sh hc
  have hm := hc.1
  have hst : Step z kc (fun M => (fX7_clear z M).map (fun M => ((0 : Int32), M))) (fun M => (fX8_clear (z + 18) M).map (fun M => ((0 : Int32), M))) M := by
    have g := Chg.mst M (z + 1) (shc (z + 1) (nlS σ) 0)
    have c : fX7_clear z M = some (mst M (z + 1) (shc (z + 1) (nlS σ) 0)) := by
      unfold fX7_clear
      rw [co_g0 hc, Option.bind_some]
      have e : pF M 2 (z + 1) 6 (.int 0) = _ := pF_sh6 (j := 0) hsh.1
      rw [e, Option.bind_some]
    have hok' : SgOk (wRows σ 0 (rlS σ) (rbS σ)) := ⟨hok.1, hok.2.1, hok.2.2.1, hok.2.2.2.1, hok.2.2.2.2.1, hok.2.2.2.2.2.1, Nat.zero_le _, fun r hr => absurd hr (Nat.not_lt_zero r)⟩
    have hl : ∀ b v, z + 42 ≤ b → b < M.1 → M.2.1 b = some (lcell v) → (mst M (z + 1) (shc (z + 1) (nlS σ) 0)).2.1 b = some (lcell v) := fun b v q1 q2 q3 => (g.2.2 b q2 (by omega)).trans q3
    obtain ⟨k0, k1, k2, k3, k4, k5, k6, k7⟩ := hsh
    have at_ : ∀ a, a < M.1 → (a < z + 1 ∨ z + 1 < a) → (mst M (z + 1) (shc (z + 1) (nlS σ) 0)).2.1 a = M.2.1 a := g.2.2
    have hc' : CO z (wRows σ 0 (rlS σ) (rbS σ)) im (mst M (z + 1) (shc (z + 1) (nlS σ) 0)) := by
      refine co_now hc (g.wide (by omega) (by omega)) ⟨mst_at _ _ _, k1.fr g (by omega) (by omega), k2.fr g (by omega) (by omega), k3.fr g (at_ _ (by omega) (by omega)) hl hok.1, ?_, ?_, k6.fr (at_ _ (by omega) (by omega)), k7.fr (at_ _ (by omega) (by omega))⟩ hok'
      · obtain ⟨f, f1, -⟩ := k4
        exact ⟨f, (at_ _ (by omega) (by omega)).trans f1, fun r hr => absurd hr (Nat.not_lt_zero r)⟩
      · obtain ⟨f, f1, -⟩ := k5
        exact ⟨f, (at_ _ (by omega) (by omega)).trans f1, fun r hr => absurd hr (Nat.not_lt_zero r)⟩
    refine step_of (r := 0) (M1 := mst M (z + 1) (shc (z + 1) (nlS σ) 0)) h (by rw [c]; rfl) (Cl.of g hc.1 (by omega)) hc' (fun A B hR hO => ?_)
    obtain ⟨M2, p1, p2⟩ := p_clear hR
    refine ⟨_, B, M2, by rw [p2]; rfl, p1, ?_⟩
    obtain ⟨⟨o1, o2, o3, o4, o5, o6, o7, o8, o9⟩, hO2⟩ := hO
    refine ⟨⟨o1, o2, o3, o4, ?_, fun r hr => absurd hr (Nat.not_lt_zero r), o7, o8, o9⟩, fun k hk => ⟨(hO2 k hk).1, fun s τ he => ?_⟩⟩
    · show upd (A 14) 0 0 0 = _
      exact pk_us
    · obtain ⟨s1, s2, s3, s4, s5, s6, s7, s8, s9⟩ := (hO2 k hk).2 s τ he
      refine ⟨s1, s2, s3, s4, ?_, s6, s7, s8, s9⟩
      show upd (A 14) 0 0 (k + 1) = _
      rw [pk_un (by omega)]; exact s5
  obtain ⟨r, M1, M2, σ', im', q1, q2, q3, q4, q5⟩ := hst
  dsimp only at q1 q4
  cases e1 : fX7_clear z M with
  | none => rw [e1] at q1; cases q1
  | some N1 =>
    rw [e1] at q1
    cases q1
    cases e2 : fX8_clear (z + 18) M1 with
    | none => rw [e2] at q4; cases q4
    | some N2 =>
      rw [e2] at q4
      cases q4
      exact ⟨M1, M2, σ', im', rfl, q2, q3, e2, q5⟩
theorem step_bounds (h : INV z kc σ im M) (x : Int32) (lo hi : Int64) : Step z kc (fX7_bounds z x lo hi) (fX8_bounds (z + 18) x lo hi) M := by
  have hc := h.2.1
  have hok := co_ok hc
  have hsh := co_sh hc
  have hm := hc.1
  by_cases hx : (¬ x < 0 ∧ ¬ 2 < x) ∧ ¬ hi < lo
  · obtain ⟨hkd, k, k1, k2⟩ := kind3 hx.1
    obtain ⟨f7, e7, l7⟩ := hsh.2.2.2.2.2.2.1
    obtain ⟨f8, e8, l8⟩ := hsh.2.2.2.2.2.2.2
    have a1 : sL M (z + 1 + 8) x lo = some (mst M (z + 1 + 8) (.inl (.long, 3, .inr (.inl (vp_updL f7 k lo))))) := by
      rw [k2]
      unfold sL
      rw [e7]
      dsimp only
      rw [if_pos (inr_nI k1 (by decide)), nI_clamp (by omega)]
    have b1 : (mst M (z + 1 + 8) (.inl (.long, 3, .inr (.inl (vp_updL f7 k lo))))).2.1 (z + 1) = some (shc (z + 1) (nlS σ) (nrS σ)) := (mst_ne _ _ (by omega)).trans hsh.1
    have b2 : gN (mst M (z + 1 + 8) (.inl (.long, 3, .inr (.inl (vp_updL f7 k lo))))) 2 (z + 1) 8 = some (z + 1 + 9) := by simp [gN, gF, b1, shc, vN]
    have b3 : (mst M (z + 1 + 8) (.inl (.long, 3, .inr (.inl (vp_updL f7 k lo))))).2.1 (z + 1 + 9) = some (.inl (.long, 3, .inr (.inl f8))) := (mst_ne _ _ (by omega)).trans e8
    have a2 : sL (mst M (z + 1 + 8) (.inl (.long, 3, .inr (.inl (vp_updL f7 k lo))))) (z + 1 + 9) x hi = some (mst (mst M (z + 1 + 8) (.inl (.long, 3, .inr (.inl (vp_updL f7 k lo))))) (z + 1 + 9) (.inl (.long, 3, .inr (.inl (vp_updL f8 k hi))))) := by
      rw [k2]
      unfold sL
      rw [b3]
      dsimp only
      rw [if_pos (inr_nI k1 (by decide)), nI_clamp (by omega)]
    have g1 := Chg.mst M (z + 1 + 8) (.inl (.long, 3, .inr (.inl (vp_updL f7 k lo))))
    have g2 := Chg.mst (mst M (z + 1 + 8) (.inl (.long, 3, .inr (.inl (vp_updL f7 k lo))))) (z + 1 + 9) (.inl (.long, 3, .inr (.inl (vp_updL f8 k hi))))
    have g : Chg (z + 9) (z + 10) M (mst (mst M (z + 1 + 8) (.inl (.long, 3, .inr (.inl (vp_updL f7 k lo))))) (z + 1 + 9) (.inl (.long, 3, .inr (.inl (vp_updL f8 k hi))))) := (g1.wide (by omega) (by omega)).trans (g2.wide (by omega) (by omega))
    generalize hM' : mst (mst M (z + 1 + 8) (.inl (.long, 3, .inr (.inl (vp_updL f7 k lo))))) (z + 1 + 9) (.inl (.long, 3, .inr (.inl (vp_updL f8 k hi)))) = M' at g a2
    have n8 : M'.2.1 (z + 1 + 8) = some (.inl (.long, 3, .inr (.inl (vp_updL f7 k lo)))) := by rw [← hM', mst_ne _ _ (by omega)]; exact mst_at _ _ _
    have n9 : M'.2.1 (z + 1 + 9) = some (.inl (.long, 3, .inr (.inl (vp_updL f8 k hi)))) := by rw [← hM']; exact mst_at _ _ _
    have c : fX7_bounds z x lo hi M = some (1, M') := by
      unfold fX7_bounds fX3_setBounds fX3_setBounds_22
      rw [e_isKind, Option.bind_some]
      dsimp only
      rw [if_pos hx.1, if_neg (by decide), if_pos ((cmp_le _ _).mpr hx.2), co_g0 hc, Option.bind_some, cs_ck hsh, Option.bind_some, e_isKind, Option.bind_some]
      dsimp only
      rw [if_pos hx.1, if_neg (by decide), cs_g7 hsh, Option.bind_some, a1, Option.bind_some, b2, Option.bind_some, a2, Option.bind_some, nz1]
      rfl
    have at_ : ∀ a, a < M.1 → (a < z + 9 ∨ z + 10 < a) → M'.2.1 a = M.2.1 a := g.2.2
    have hl : ∀ b v, z + 42 ≤ b → b < M.1 → M.2.1 b = some (lcell v) → M'.2.1 b = some (lcell v) := fun b v q1 q2 q3 => (at_ b q2 (by omega)).trans q3
    obtain ⟨s0, s1, s2, s3, s4, s5, -, -⟩ := hsh
    have up : ∀ (f L : Nat → Int64) (y : Int64), (∀ j, j < 3 → f j = L j) → ∀ j, j < 3 → vp_updL f k y j = vp_updL L k y j := by
      intro f L y hf j hj
      by_cases he : j = k
      · rw [he, pk_uLs, pk_uLs]
      · rw [pk_uLn he, pk_uLn he]; exact hf j hj
    have hc' : CO z (wBnd σ (vp_updL (loS σ) k lo) (vp_updL (hiS σ) k hi)) im M' := by
      refine co_now hc (g.wide (by omega) (by omega)) ⟨(at_ _ (by omega) (by omega)).trans s0, s1.fr g (by omega) (by omega), s2.fr g (by omega) (by omega), s3.fr g (at_ _ (by omega) (by omega)) hl hok.1, s4.fr (at_ _ (by omega) (by omega)), s5.fr (at_ _ (by omega) (by omega)), ⟨_, n8, up _ _ _ l7⟩, ⟨_, n9, up _ _ _ l8⟩⟩ hok
    refine step_of h c (Cl.of g hc.1 (by omega)) hc' (fun A B hR hO => ?_)
    rcases p_bounds x lo hi hR with ⟨k', i1, i2, i3, M2, p1, p2⟩ | ⟨p1, -⟩
    · have : k' = k := (nI_eq (by omega) (by omega)).mp (i2.symm.trans k2)
      subst this
      refine ⟨A, _, M2, p2, p1, ?_⟩
      obtain ⟨⟨o1, o2, o3, o4, o5, o6, o7, o8, o9⟩, hO2⟩ := hO
      refine ⟨⟨o1, o2, o3, o4, o5, o6, o7, o8, fun j hj => ?_⟩, fun i hi2 => ⟨(hO2 i hi2).1, fun s τ he => ?_⟩⟩
      · have hb := o9 j hj
        rw [Nat.mul_zero, Nat.zero_add] at hb ⊢
        show vp_updL (B 12) k' lo j = vp_updL (loS σ) k' lo j ∧ vp_updL (B 13) k' hi j = vp_updL (hiS σ) k' hi j
        by_cases he : j = k'
        · rw [he, pk_uLs, pk_uLs, pk_uLs, pk_uLs]; exact ⟨rfl, rfl⟩
        · rw [pk_uLn he, pk_uLn he, pk_uLn he, pk_uLn he]; exact hb
      · obtain ⟨t1, t2, t3, t4, t5, t6, t7, t8, t9⟩ := (hO2 i hi2).2 s τ he
        refine ⟨t1, t2, t3, t4, t5, t6, t7, t8, fun j hj => ?_⟩
        show vp_updL (B 12) k' lo (3 * (i + 1) + j) = _ ∧ vp_updL (B 13) k' hi (3 * (i + 1) + j) = _
        rw [pk_uLn (by omega), pk_uLn (by omega)]
        exact t9 j hj
    · exact absurd hx p1
  · have c : fX7_bounds z x lo hi M = some (0, M) := by
      unfold fX7_bounds fX7_bounds_14
      rw [e_isKind, Option.bind_some, nz0]
      dsimp only
      by_cases hk : ¬ x < 0 ∧ ¬ 2 < x
      · rw [if_pos hk, if_neg (by decide), if_neg (fun q => hx ⟨hk, (cmp_le _ _).mp q⟩)]
        rfl
      · rw [if_neg hk, if_pos rfl]
        rfl
    refine step_of h c (Cl.of (Chg.rf 0 0 M) hc.1 (by omega)) hc (fun A B hR hO => ?_)
    rcases p_bounds x lo hi hR with ⟨k', i1, i2, i3, -⟩ | ⟨-, M2, p1, p2⟩
    · subst i2
      exact absurd ⟨⟨nI_pos (by omega), li_ngt 2 k' 2 rfl (by omega) (by decide)⟩, i3⟩ hx
    · exact ⟨A, B, M2, p2, p1, hO⟩
end CWRITE
