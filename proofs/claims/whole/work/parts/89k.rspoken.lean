/-! ===== the reference: a number that the line spells ===== -/
/-- the best number below one thousand, where the line goes on with names and the first part is known -/
theorem bst_first {T : Nat → Int32} {n p q best long : Nat} {c : List Nat} (hq : 0 < q) (hq1 : q < 1000) (hc : ∀ t ∈ c, t < 31) (hc0 : c = [] ∨ ∃ t r, c = t :: r ∧ 29 ≤ t) (hs : Suf T n p (tkB q ++ c)) (hB : Bst T n p 1000 best long) : best = q ∧ long = (jn (tkB q)).length := by
  have hA := pre_at hs (tkB_ne hq1 hq)
  have hle := hB.2 q hq hq1 hA
  have hpos : 0 < (jn (tkB q)).length := List.length_pos_iff.mpr (jn_ne (tkB_ne hq1 hq) (wB_lt hq1))
  rcases hB.1 with ⟨-, h0⟩ | ⟨b0, b1, b2, b3⟩
  · omega
  · have hv : ∀ t ∈ tkB q ++ c, t < 31 := by
      intro t ht
      rcases List.mem_append.mp ht with h | h
      · exact wB_lt hq1 t h
      · exact hc t h
    obtain ⟨d, hd⟩ := at_pre hs b3 (tkB_ne b1 b0) (wB_lt b1) hv
    have he : tkB q = tkB best := by
      rcases List.append_eq_append_iff.mp hd with ⟨x, h1, h2⟩ | ⟨x, h1, h2⟩
      · -- tkB best = tkB q ++ x, c = x ++ d
        cases x with
        | nil => rw [List.append_nil] at h1; exact h1.symm
        | cons t r =>
          exfalso
          have ht : t ∈ tkB best := by rw [h1]; simp
          have h29 := (tkB_lt b1 t ht).2
          rcases hc0 with h | ⟨t', r', h, h'⟩
          · rw [h] at h2; cases h2
          · rw [h] at h2
            injection h2 with h3 h4
            omega
      · -- tkB q = tkB best ++ x
        cases x with
        | nil => rw [List.append_nil] at h1; exact h1
        | cons t r =>
          exfalso
          rw [h1, jn_app _ (tkB_ne b1 b0), List.length_append] at hle
          have : 0 < (fl (t :: r)).length := by simp [fl]
          omega
    have e1 := mf_tkB hq1 0
    have e2 := mf_tkB b1 0
    rw [he, e2] at e1
    injection e1 with _ e3
    refine ⟨e3, ?_⟩
    rw [b2, he]
section RSPOKEN
variable {m : Nat} {A : Nat → Nat → Int32} {B : Nat → Nat → Int64} {N : Mem} {n : Nat} {T : Nat → Int32}
/-- where the loop goes on, or ends -/
theorem r_step (hl : LnA A n T) {M : Mem} (R : RM m A B N M) {p a b c k f : Nat} (hp : p < n) (hk : k < 3) : ∃ best long, Bst T n p 1000 best long ∧ ∃ M', RM m A B N M' ∧ fX8_spoken_31 (f + 1) m (nI p) (nI a) (nI b) (nI c) (nI k) M = (if best = 0 then fX8_spoken_158 m (nI a) (nI b) (nI c) M' else if p + long + 1 < n ∧ At T n (p + long + 1) (nmB 30) then fX8_spoken_31 f m (nI (p + long + 1 + 8)) (nI best) (nI b) (nI c) (nI (k + 1)) M' else if p + long + 1 < n ∧ At T n (p + long + 1) (nmB 29) then fX8_spoken_31 f m (nI (p + long + 1 + 9)) (nI a) (nI best) (nI c) (nI (k + 1)) M' else fX8_spoken_31 f m (nI n) (nI a) (nI b) (nI best) (nI (k + 1)) M') := by
  have hn := hl.1
  obtain ⟨best, long, M1, hB, e1, R1, g27⟩ := r_below hl R (p := p) (by omega)
  have hlong : long ≤ 28 ∧ best < 1000 := by
    rcases hB.1 with ⟨q1, q⟩ | ⟨-, q1, q2, -⟩
    · omega
    · have := jB_len q1
      omega
  refine ⟨best, long, hB, ?_⟩
  have n29 : (8388076856215170660 : Int64) = cw 29 := rfl
  have n30 : (30796686857695086 : Int64) = cw 30 := rfl
  have key : fX8_spoken_31 (f + 1) m (nI p) (nI a) (nI b) (nI c) (nI k) M = if nI best = 0 then fX8_spoken_158 m (nI a) (nI b) (nI c) M1 else if nI n ≤ nI (p + long + 1) then fX8_spoken_105 (fX8_spoken_31 f) m (nI a) (nI b) (nI c) (nI k) (nI best) (nI (p + long + 1)) M1 else (fX8_wordAt m (nI (p + long + 1)) (cw 30) M1).bind fun r9 => if r9.1 = 0 then fX8_spoken_105 (fX8_spoken_31 f) m (nI a) (nI b) (nI c) (nI k) (nI best) (nI (p + long + 1)) r9.2 else fX8_spoken_152 (fX8_spoken_31 f) m (nI (p + long + 1) + 8) (nI best) (nI b) (nI c) (nI k) r9.2 := by
    rw [fX8_spoken_31, if_neg (li_nge 3 k 3 rfl hk (by decide)), rm_gN10 R, Option.bind_some, rm_len hl.2.1 R, Option.bind_some, if_neg (nI_ge hp (by omega)), rm_ck R, Option.bind_some, e1, Option.bind_some]
    dsimp only
    rw [g27, Option.bind_some, rm_gN10 R1, Option.bind_some, rm_len hl.2.1 R1, Option.bind_some, nI_1, rm_ck R1, Option.bind_some, n30]
  by_cases h0 : best = 0
  · refine ⟨M1, R1, ?_⟩
    rw [key, if_pos h0, if_pos (show nI best = 0 by rw [h0]; decide)]
  · have hb0 : ¬ nI best = 0 := nI_ne0 (by omega) (by omega)
    have rest : ∀ M2, RM m A B N M2 → fX8_spoken_141 (fX8_spoken_31 f) m (nI a) (nI b) (nI k) (nI best) M2 = fX8_spoken_31 f m (nI n) (nI a) (nI b) (nI best) (nI (k + 1)) M2 := by
      intro M2 R2
      unfold fX8_spoken_141 fX8_spoken_152
      rw [rm_gN10 R2, Option.bind_some, rm_len hl.2.1 R2, Option.bind_some, nI_1]
    by_cases hto : p + long + 1 < n
    · have s105 : ∀ M2, RM m A B N M2 → ∃ M', RM m A B N M' ∧ fX8_spoken_105 (fX8_spoken_31 f) m (nI a) (nI b) (nI c) (nI k) (nI best) (nI (p + long + 1)) M2 = if p + long + 1 < n ∧ At T n (p + long + 1) (nmB 29) then fX8_spoken_31 f m (nI (p + long + 1 + 9)) (nI a) (nI best) (nI c) (nI (k + 1)) M' else fX8_spoken_31 f m (nI n) (nI a) (nI b) (nI best) (nI (k + 1)) M' := by
        intro M2 R2
        obtain ⟨M3, e3, R3⟩ := r_wordAt hl R2 (i := 29) (p := p + long + 1) (by decide) (by decide) (by omega)
        refine ⟨M3, R3, ?_⟩
        unfold fX8_spoken_105 fX8_spoken_152
        rw [rm_gN10 R2, Option.bind_some, rm_len hl.2.1 R2, Option.bind_some, if_neg (nI_ge hto (by omega)), rm_ck R2, Option.bind_some, n29, e3, Option.bind_some]
        dsimp only
        by_cases hA : At T n (p + long + 1) (nmB 29)
        · rw [decide_eq_true hA, if_neg (show ¬ bI true = 0 by decide), if_pos ⟨hto, hA⟩, nI_1, show nI (p + long + 1) + 9 = nI (p + long + 1 + 9) from nI_add _ 9]
        · rw [decide_eq_false hA, if_pos (show bI false = 0 by decide), if_neg (fun q => hA q.2), rest M3 R3]
      obtain ⟨M2, e2, R2⟩ := r_wordAt hl R1 (i := 30) (p := p + long + 1) (by decide) (by decide) (by omega)
      rw [if_neg hb0, if_neg (nI_ge hto (by omega)), e2, Option.bind_some] at key
      dsimp only at key
      by_cases hA : At T n (p + long + 1) (nmB 30)
      · refine ⟨M2, R2, ?_⟩
        unfold fX8_spoken_152 at key
        rw [key, decide_eq_true hA, if_neg (show ¬ bI true = 0 by decide), if_neg h0, if_pos ⟨hto, hA⟩, nI_1, show nI (p + long + 1) + 8 = nI (p + long + 1 + 8) from nI_add _ 8]
      · obtain ⟨M3, R3, e3⟩ := s105 M2 R2
        refine ⟨M3, R3, ?_⟩
        rw [key, decide_eq_false hA, if_pos (show bI false = 0 by decide), if_neg h0, if_neg (fun q => hA q.2), e3]
    · refine ⟨M1, R1, ?_⟩
      rw [key, if_neg hb0, if_pos (nI_le (by omega) (by omega)), if_neg h0, if_neg (fun q => hto q.1), if_neg (fun q => hto q.1)]
      unfold fX8_spoken_105
      rw [rm_gN10 R1, Option.bind_some, rm_len hl.2.1 R1, Option.bind_some, if_pos (nI_le (by omega) (by omega)), rest M1 R1]
theorem r_stop (hl : LnA A n T) {M : Mem} (R : RM m A B N M) {p a b c k f : Nat} (hp : n ≤ p ∨ 3 ≤ k) (hp2 : p < 10000) (hk : k < 10000) : fX8_spoken_31 (f + 1) m (nI p) (nI a) (nI b) (nI c) (nI k) M = fX8_spoken_158 m (nI a) (nI b) (nI c) M := by
  rw [fX8_spoken_31]
  by_cases h3 : 3 ≤ k
  · rw [if_pos (li_ge 3 k 3 rfl h3 (by omega))]
  · rw [if_neg (li_nge 3 k 3 rfl (by omega) (by decide)), rm_gN10 R, Option.bind_some, rm_len hl.2.1 R, Option.bind_some, if_pos (nI_le (hp.resolve_right h3) (by omega))]
/-- the loop ends, with three parts below one thousand -/
theorem r_loop (hl : LnA A n T) : ∀ (d k p a b c f : Nat) (M : Mem), k + d = 3 → d < f → p < 5000 → a < 1000 → b < 1000 → c < 1000 → RM m A B N M → ∃ a' b' c' M', a' < 1000 ∧ b' < 1000 ∧ c' < 1000 ∧ RM m A B N M' ∧ fX8_spoken_31 f m (nI p) (nI a) (nI b) (nI c) (nI k) M = fX8_spoken_158 m (nI a') (nI b') (nI c') M' := by
  have hn := hl.1
  intro d
  induction d with
  | zero =>
    intro k p a b c f M hk hf hp ha hb hc R
    obtain ⟨f, rfl⟩ : ∃ g, f = g + 1 := ⟨f - 1, by omega⟩
    exact ⟨a, b, c, M, ha, hb, hc, R, r_stop hl R (Or.inr (by omega)) (by omega) (by omega)⟩
  | succ d ih =>
    intro k p a b c f M hk hf hp ha hb hc R
    obtain ⟨f, rfl⟩ : ∃ g, f = g + 1 := ⟨f - 1, by omega⟩
    by_cases hpn : p < n
    · obtain ⟨best, long, hB, M1, R1, e1⟩ := r_step hl R (p := p) (a := a) (b := b) (c := c) (k := k) (f := f) hpn (by omega)
      have hlong : long ≤ 28 ∧ best < 1000 := by
        rcases hB.1 with ⟨q1, q⟩ | ⟨-, q1, q2, -⟩
        · omega
        · have := jB_len q1
          omega
      rw [e1]
      split
      · exact ⟨a, b, c, M1, ha, hb, hc, R1, rfl⟩
      · split
        · exact ih (k + 1) _ _ _ _ f M1 (by omega) (by omega) (by omega) hlong.2 hb hc R1
        · split
          · exact ih (k + 1) _ _ _ _ f M1 (by omega) (by omega) (by omega) ha hlong.2 hc R1
          · exact ih (k + 1) _ _ _ _ f M1 (by omega) (by omega) (by omega) ha hb hlong.2 R1
    · exact ⟨a, b, c, M, ha, hb, hc, R, r_stop hl R (Or.inl (by omega)) (by omega) (by omega)⟩
end RSPOKEN
