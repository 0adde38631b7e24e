/-! ===== the reference: the whole pattern ===== -/
def aPat (pt g gp mn mk bh kd : Int32) (w p : Nat) (gr less blank : Bool) : Pat :=
  (if less = true ∧ ¬ mn = 1 then [(if mn = 0 then 45 else 40, 0)] else []) ++
  ((if kd = 1 ∧ bh = 0 then mkPat mk ++ (if blank = true then [(32, 0)] else []) else []) ++
  (nPat pt g gp w p gr ++
  ((if kd = 1 ∧ ¬ bh = 0 then (if blank = true then [(32, 0)] else []) ++ mkPat mk else []) ++
  (if less = true ∧ ¬ mn = 0 then [(if mn = 1 then 45 else 41, 0)] else []))))
theorem mkPat_len (mk : Int32) : (mkPat mk).length = 3 := rfl
section PAMT
variable {m : Nat} {I : Nat → Int32} {A : Nat → Nat → Int32} {B : Nat → Nat → Int64} {fd : Int64} {N : Mem} {pl : Pat}
theorem upA_same (A : Nat → Nat → Int32) (j : Nat) : upA A j (A j) = A := by
  funext k
  unfold upA
  by_cases h : k = j <;> simp [h]
theorem mP_nil : mP m I A B fd N [] = mm m (upI I 23 0) A B fd N := by
  unfold mP
  simp only [List.map_nil, ov_nil, List.length_nil]
  rw [upA_same, upA_same]
  rfl
theorem e_pA141 {l : Nat} (hl : l < 24) (x7 : Int32) (h : pl.length < 64) : fX8_putAmount_141 m (nI l) x7 (mP m I A B fd N pl) = some (mP m I A B fd N (pl ++ (if decide (¬ x7 = 0) = true ∧ ¬ A 5 l = 0 then [(if A 5 l = 1 then 45 else 41, 0)] else []))) := by
  unfold fX8_putAmount_141 fX8_putAmount_173 fX8_putAmount_177
  by_cases h7 : x7 = 0
  · simp [h7]
  · rw [if_neg h7, P_gN5, Option.bind_some, P_a5 hl, Option.bind_some]
    by_cases h0 : A 5 l = 0
    · rw [if_pos h0]
      simp [h0]
    · rw [if_neg h0, Option.bind_some, P_a5 hl, Option.bind_some]
      by_cases h1 : A 5 l = 1
      · rw [if_pos h1, e_ckP, Option.bind_some, e_put _ _ h, Option.bind_some]
        simp [h7, h1]
      · rw [if_neg h1, e_ckP, Option.bind_some, e_put _ _ h, Option.bind_some]
        simp [h7, h0, h1]
theorem e_pA136 {l : Nat} (hl : l < 24) (x7 : Int32) (h : pl.length < 61) : fX8_putAmount_136 m (nI l) x7 (mP m I A B fd N pl) = some (mP m I A B fd N (pl ++ (mkPat (A 6 l) ++ (if decide (¬ x7 = 0) = true ∧ ¬ A 5 l = 0 then [(if A 5 l = 1 then 45 else 41, 0)] else [])))) := by
  unfold fX8_putAmount_136
  rw [e_ckP, Option.bind_some, e_putMark hl (by omega), Option.bind_some, e_pA141 hl _ (by simp only [List.length_append, List.length_cons, List.length_nil, mkPat_len]; omega)]
  simp
theorem e_pA100 {l w p : Nat} (hl : l < 24) (hw : w ≤ 9) (hp : p ≤ 6) (kd gr x7 x8 : Int32) (h : pl.length + 2 * w + p + 1 ≤ 58) : fX8_putAmount_100 m (nI l) kd (nI w) (nI p) gr x7 x8 (mP m I A B fd N pl) = some (mP m I A B fd N (pl ++ (nPat (A 2 l) (A 3 l) (A 4 l) w p (decide (¬ gr = 0)) ++
  ((if kd = 1 ∧ ¬ A 7 l = 0 then (if decide (¬ x8 = 0) = true then [(32, 0)] else []) ++ mkPat (A 6 l) else []) ++
  (if decide (¬ x7 = 0) = true ∧ ¬ A 5 l = 0 then [(if A 5 l = 1 then 45 else 41, 0)] else []))))) := by
  have hn := nPat_len (A 2 l) (A 3 l) (A 4 l) w p (decide (¬ gr = 0))
  unfold fX8_putAmount_100
  rw [e_ckP, Option.bind_some, e_putNumber hl hw hp gr (by omega), Option.bind_some]
  by_cases hk : kd = 1
  · rw [if_pos hk, P_gN7, Option.bind_some, P_a7 hl, Option.bind_some]
    by_cases hb : A 7 l = 0
    · rw [if_pos hb, e_pA141 hl _ (by simp only [List.length_append, List.length_cons, List.length_nil, mkPat_len]; omega)]
      simp [hb]
    · rw [if_neg hb]
      by_cases h8 : x8 = 0
      · rw [if_pos h8, e_pA136 hl _ (by simp only [List.length_append, List.length_cons, List.length_nil, mkPat_len]; omega)]
        simp [hb, h8, hk]
      · rw [if_neg h8, e_ckP, Option.bind_some, e_put _ _ (by simp only [List.length_append, List.length_cons, List.length_nil, mkPat_len]; omega), Option.bind_some, e_pA136 hl _ (by simp only [List.length_append, List.length_cons, List.length_nil, mkPat_len]; omega)]
        simp [hb, h8, hk]
  · rw [if_neg hk, e_pA141 hl _ (by simp only [List.length_append, List.length_cons, List.length_nil, mkPat_len]; omega)]
    simp [hk]
theorem e_pA69 {l w p : Nat} (hl : l < 24) (hw : w ≤ 9) (hp : p ≤ 6) (kd gr x7 x8 : Int32) (h : pl.length + 2 * w + p + 1 ≤ 54) : fX8_putAmount_69 m (nI l) kd (nI w) (nI p) gr x7 x8 (mP m I A B fd N pl) = some (mP m I A B fd N (pl ++ ((if kd = 1 ∧ A 7 l = 0 then mkPat (A 6 l) ++ (if decide (¬ x8 = 0) = true then [(32, 0)] else []) else []) ++ (nPat (A 2 l) (A 3 l) (A 4 l) w p (decide (¬ gr = 0)) ++
  ((if kd = 1 ∧ ¬ A 7 l = 0 then (if decide (¬ x8 = 0) = true then [(32, 0)] else []) ++ mkPat (A 6 l) else []) ++
  (if decide (¬ x7 = 0) = true ∧ ¬ A 5 l = 0 then [(if A 5 l = 1 then 45 else 41, 0)] else [])))))) := by
  unfold fX8_putAmount_69
  by_cases hk : kd = 1
  · rw [if_pos hk, P_gN7, Option.bind_some, P_a7 hl, Option.bind_some]
    by_cases hb : A 7 l = 0
    · rw [if_pos hb, e_ckP, Option.bind_some, e_putMark hl (by omega), Option.bind_some]
      by_cases h8 : x8 = 0
      · rw [if_pos h8, e_pA100 hl hw hp _ _ _ _ (by simp only [List.length_append, List.length_cons, List.length_nil, mkPat_len]; omega)]
        simp [hb, h8, hk]
      · rw [if_neg h8, e_ckP, Option.bind_some, e_put _ _ (by simp only [List.length_append, List.length_cons, List.length_nil, mkPat_len]; omega), Option.bind_some, e_pA100 hl hw hp _ _ _ _ (by simp only [List.length_append, List.length_cons, List.length_nil, mkPat_len]; omega)]
        simp [hb, h8, hk]
    · rw [if_neg hb, e_pA100 hl hw hp _ _ _ _ (by omega)]
      simp [hb]
  · rw [if_neg hk, e_pA100 hl hw hp _ _ _ _ (by omega)]
    simp [hk]
theorem e_pA31 {l w p : Nat} (hl : l < 24) (hw : w ≤ 9) (hp : p ≤ 6) (kd gr x7 x8 : Int32) : fX8_putAmount_31 m (nI l) kd (nI w) (nI p) gr x7 x8 (mP m I A B fd N []) = some (mP m I A B fd N (aPat (A 2 l) (A 3 l) (A 4 l) (A 5 l) (A 6 l) (A 7 l) kd w p (decide (¬ gr = 0)) (decide (¬ x7 = 0)) (decide (¬ x8 = 0)))) := by
  unfold fX8_putAmount_31 aPat fX8_putAmount_65
  by_cases h7 : x7 = 0
  · rw [if_pos h7, e_pA69 hl hw hp _ _ _ _ (by simp only [List.length_append, List.length_cons, List.length_nil, mkPat_len]; omega)]
    simp [h7]
  · rw [if_neg h7, P_gN5, Option.bind_some, P_a5 hl, Option.bind_some]
    by_cases h1 : A 5 l = 1
    · rw [if_pos h1, e_pA69 hl hw hp _ _ _ _ (by simp only [List.length_append, List.length_cons, List.length_nil, mkPat_len]; omega)]
      simp [h1]
    · rw [if_neg h1, Option.bind_some, P_a5 hl, Option.bind_some]
      by_cases h0 : A 5 l = 0
      · rw [if_pos h0, e_ckP, Option.bind_some, e_put _ _ (by simp), Option.bind_some, e_pA69 hl hw hp _ _ _ _ (by simp only [List.length_append, List.length_cons, List.length_nil, mkPat_len]; omega)]
        simp [h7, h0]
      · rw [if_neg h0, e_ckP, Option.bind_some, e_put _ _ (by simp), Option.bind_some, e_pA69 hl hw hp _ _ _ _ (by simp only [List.length_append, List.length_cons, List.length_nil, mkPat_len]; omega)]
        simp [h7, h0, h1]
theorem e_putAmount {l w p : Nat} (hl : l < 24) (hw : w ≤ 9) (hp : p ≤ 6) (kd gr way : Int32) : fX8_putAmount m (nI l) kd (nI w) (nI p) gr way (mm m I A B fd N) = some (mP m I A B fd N (aPat (A 2 l) (A 3 l) (A 4 l) (A 5 l) (A 6 l) (A 7 l) kd w p (decide (¬ gr = 0)) (decide (¬ way &&& 1 = 0)) (decide (¬ way &&& 2 = 0)))) := by
  unfold fX8_putAmount fX8_putAmount_17
  rw [mm_pI23, Option.bind_some, ← mP_nil]
  by_cases h1 : way &&& 1 = 0 <;> by_cases h2 : way &&& 2 = 0
  · rw [if_pos h1, if_pos h2, e_pA31 hl hw hp]
    simp [h1, h2]
  · rw [if_pos h1, if_neg h2, e_pA31 hl hw hp]
    simp [h1, h2]
  · rw [if_neg h1, if_pos h2, e_pA31 hl hw hp]
    simp [h1, h2]
  · rw [if_neg h1, if_neg h2, e_pA31 hl hw hp]
    simp [h1, h2]
end PAMT
