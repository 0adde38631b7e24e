/-! ===== the reference: amount ===== -/
theorem aPat_len (pt g gp mn mk bh kd : Int32) {w p : Nat} (hw : w ≤ 9) (hp : p ≤ 6) (gr less blank : Bool) : (aPat pt g gp mn mk bh kd w p gr less blank).length ≤ 64 := by
  have h := nPat_len pt g gp w p gr
  unfold aPat
  simp only [List.length_append]
  have h1 : (if less = true ∧ ¬ mn = 1 then [((if mn = 0 then 45 else 40 : Int32), (0 : Int32))] else []).length ≤ 1 := by split <;> simp
  have h2 : (if kd = 1 ∧ bh = 0 then mkPat mk ++ (if blank = true then [((32 : Int32), (0 : Int32))] else []) else []).length ≤ 4 := by split <;> (try split) <;> simp [mkPat_len]
  have h3 : (if kd = 1 ∧ ¬ bh = 0 then (if blank = true then [((32 : Int32), (0 : Int32))] else []) ++ mkPat mk else []).length ≤ 4 := by split <;> (try split) <;> simp [mkPat_len]
  have h4 : (if less = true ∧ ¬ mn = 0 then [((if mn = 1 then 45 else 41 : Int32), (0 : Int32))] else []).length ≤ 1 := by split <;> simp
  omega
theorem and1 : ∀ q, q < 8 → ((nI q &&& 1 = 0) ↔ ¬ q % 2 = 1) := by decide
theorem and2 : ∀ q, q < 4 → ((nI q &&& 2 = 0) ↔ ¬ q / 2 % 2 = 1) := by decide
section AMOUNT
variable {m : Nat} {I : Nat → Int32} {A : Nat → Nat → Int32} {B : Nat → Nat → Int64} {fd : Int64} {N : Mem}
theorem e_am84 {l n w p y ways : Nat} (hl : l < 24) (hn : n ≤ 200) (hw : w ≤ 9) (hp : p ≤ 6) (hy : y < 2 * ways) (hways : ways = 2 ∨ ways = 4) (kd gr best : Int32)
    (k18 : Nat → Int32 → Int32 → Int32 → Int32 → Int32 → Int32 → Mem → Option (Int32 × Mem)) (k28 : Nat → Int32 → Int32 → Int32 → Int32 → Int32 → Int32 → Int32 → Mem → Option (Int32 × Mem)) (k38 : Nat → Int32 → Int32 → Int32 → Int32 → Int32 → Int32 → Int32 → Int32 → Mem → Option (Int32 × Mem)) (c : Int32) (a b : Nat → Int32) (P : Pat) (hP : P = aPat (A 2 l) (A 3 l) (A 4 l) (A 5 l) (A 6 l) (A 7 l) kd w p (decide (¬ gr = 0)) (decide (y % ways % 2 = 1)) (decide (y % ways / 2 % 2 = 1))) :
    ∃ (c' : Int32) (a' b' : Nat → Int32), fX8_amount_84 k18 k28 k38 m (nI l) kd (nI n) best (nI ways) (nI w) (nI p) (nI y) gr (sm m I A B fd N c a b) =
      if mres P (A 19) n = 2 then some (2, sm m I A B (if decide (y % 2 = 1) = true then - fval P (A 19) else fval P (A 19)) N c' a' b')
      else k38 m (nI l) kd (nI n) (if mres P (A 19) n ≤ best then best else mres P (A 19) n) (nI ways) (nI w) (nI p) (nI (y + 1)) (sm m I A B fd N c' a' b') := by
  refine ⟨nI P.length, ov (P.map Prod.fst) a, ov (P.map Prod.snd) b, ?_⟩
  have hr : rmI (nI y) (nI ways) = nI (y % ways) := rmI_nI (by omega) (by omega) (by omega)
  have hdz : dzI (nI ways) = some () := by
    rcases hways with rfl | rfl <;> decide
  have hq : y % ways < 4 := by
    rcases hways with rfl | rfl <;> omega
  have h1 := and1 (y % ways) (by omega)
  have h2 := and2 (y % ways) hq
  have h3 := and1 y (by omega)
  have e1 : (decide (¬ nI (y % ways) &&& 1 = 0)) = decide (y % ways % 2 = 1) := by
    rw [decide_eq_decide, h1]
    exact Decidable.not_not
  have e2 : (decide (¬ nI (y % ways) &&& 2 = 0)) = decide (y % ways / 2 % 2 = 1) := by
    rw [decide_eq_decide, h2]
    exact Decidable.not_not
  have hlen : P.length ≤ 64 := by rw [hP]; exact aPat_len _ _ _ _ _ _ _ hw hp _ _ _
  have hput := e_putAmount (m := m) (I := upI I 23 c) (A := upA (upA A 20 a) 21 b) (B := B) (fd := fd) (N := N) hl hw hp kd gr (nI (y % ways))
  rw [e1, e2] at hput
  have hP' : aPat (upA (upA A 20 a) 21 b 2 l) (upA (upA A 20 a) 21 b 3 l) (upA (upA A 20 a) 21 b 4 l) (upA (upA A 20 a) 21 b 5 l) (upA (upA A 20 a) 21 b 6 l) (upA (upA A 20 a) 21 b 7 l) kd w p (decide (¬ gr = 0)) (decide (y % ways % 2 = 1)) (decide (y % ways / 2 % 2 = 1)) = P := by
    rw [hP]
    rfl
  rw [hP'] at hput
  have h19 : upA (upA A 20 a) 21 b 19 = A 19 := rfl
  have hmat := e_matched (m := m) (I := upI I 23 c) (A := upA (upA A 20 a) 21 b) (B := B) (fd := fd) (N := N) (pl := P) hn hlen
  rw [h19] at hmat
  have hsm : sm m I A B fd N c a b = mm m (upI I 23 c) (upA (upA A 20 a) 21 b) B fd N := rfl
  unfold fX8_amount_84
  rw [hdz, Option.bind_some, hsm, mm_ck, Option.bind_some, hr, hput, Option.bind_some, e_ckP, Option.bind_some, hmat, Option.bind_some]
  unfold fX8_amount_127 fX8_amount_146 fX8_amount_148
  by_cases hm : mres P (A 19) n = 2
  · rw [if_pos hm, if_pos hm]
    have hfv := fun less => e_findValue (m := m) (I := upI I 23 c) (A := upA (upA A 20 a) 21 b) (B := B) (fd := fd) (N := N) (pl := P) hlen less
    rw [h19] at hfv
    by_cases hy1 : y % 2 = 1
    · rw [if_neg (fun q => (h3.mp q) hy1)]
      rw [e_ckP, Option.bind_some, hfv, Option.bind_some, mP_sm]
      simp [hy1]
    · rw [if_pos (h3.mpr hy1)]
      rw [e_ckP, Option.bind_some, hfv, Option.bind_some, mP_sm]
      simp [hy1]
  · rw [if_neg hm, if_neg hm]
    simp only [mP_sm, nI_1]
    by_cases hb : mres P (A 19) n ≤ best
    · rw [if_pos hb, if_pos hb]
    · rw [if_neg hb, if_neg hb]
theorem e_am38 {l n w p ways : Nat} (hl : l < 24) (hn : n ≤ 200) (hw : w ≤ 9) (hp : p ≤ 6) (hways : ways = 2 ∨ ways = 4) (kd : Int32)
    (k18 : Nat → Int32 → Int32 → Int32 → Int32 → Int32 → Int32 → Mem → Option (Int32 × Mem)) (k28 : Nat → Int32 → Int32 → Int32 → Int32 → Int32 → Int32 → Int32 → Mem → Option (Int32 × Mem)) :
    ∀ (d y f : Nat) (best c : Int32) (a b : Nat → Int32), y + d = 2 * ways → d < f → ∃ (c' : Int32) (a' b' : Nat → Int32),
      fX8_amount_38 k18 k28 f m (nI l) kd (nI n) best (nI ways) (nI w) (nI p) (nI y) (sm m I A B fd N c a b) =
      if (scan (A 19) n (cW (cand (A 2 l) (A 3 l) (A 4 l) (A 5 l) (A 6 l) (A 7 l) kd ways w p) d y) best).2.isSome = true then some (2, sm m I A B ((scan (A 19) n (cW (cand (A 2 l) (A 3 l) (A 4 l) (A 5 l) (A 6 l) (A 7 l) kd ways w p) d y) best).2.getD 0) N c' a' b')
      else k28 m (nI l) kd (nI n) (scan (A 19) n (cW (cand (A 2 l) (A 3 l) (A 4 l) (A 5 l) (A 6 l) (A 7 l) kd ways w p) d y) best).1 (nI ways) (nI w) (nI p + 1) (sm m I A B fd N c' a' b') := by
  intro d
  have h2w : (2 : Int32) * nI ways = nI (2 * ways) := pk_mul 2 ways
  induction d with
  | zero =>
    intro y f best c a b hyd hf
    obtain ⟨f, rfl⟩ : ∃ g, f = g + 1 := ⟨f - 1, by omega⟩
    refine ⟨c, a, b, ?_⟩
    rw [fX8_amount_38, h2w, if_pos (nI_le (by omega) (by omega))]
    simp [cW, scan]
  | succ d ih =>
    intro y f best c a b hyd hf
    obtain ⟨f, rfl⟩ : ∃ g, f = g + 1 := ⟨f - 1, by omega⟩
    have hy : y < 2 * ways := by omega
    rw [fX8_amount_38, h2w, if_neg (nI_ge hy (by omega))]
    simp only [cW, scan_app]
    have skip : ways ≤ y ∧ (w < 4 ∨ A 3 l = 0) → ∃ (c' : Int32) (a' b' : Nat → Int32), fX8_amount_148 k18 k28 (fX8_amount_38 k18 k28 f) m (nI l) kd (nI n) best (nI ways) (nI w) (nI p) (nI y) (sm m I A B fd N c a b) =
        if (if (scan (A 19) n (cand (A 2 l) (A 3 l) (A 4 l) (A 5 l) (A 6 l) (A 7 l) kd ways w p y) best).2.isSome = true then scan (A 19) n (cand (A 2 l) (A 3 l) (A 4 l) (A 5 l) (A 6 l) (A 7 l) kd ways w p y) best else scan (A 19) n (cW (cand (A 2 l) (A 3 l) (A 4 l) (A 5 l) (A 6 l) (A 7 l) kd ways w p) d (y + 1)) (scan (A 19) n (cand (A 2 l) (A 3 l) (A 4 l) (A 5 l) (A 6 l) (A 7 l) kd ways w p y) best).1).2.isSome = true then some (2, sm m I A B ((if (scan (A 19) n (cand (A 2 l) (A 3 l) (A 4 l) (A 5 l) (A 6 l) (A 7 l) kd ways w p y) best).2.isSome = true then scan (A 19) n (cand (A 2 l) (A 3 l) (A 4 l) (A 5 l) (A 6 l) (A 7 l) kd ways w p y) best else scan (A 19) n (cW (cand (A 2 l) (A 3 l) (A 4 l) (A 5 l) (A 6 l) (A 7 l) kd ways w p) d (y + 1)) (scan (A 19) n (cand (A 2 l) (A 3 l) (A 4 l) (A 5 l) (A 6 l) (A 7 l) kd ways w p y) best).1).2.getD 0) N c' a' b')
        else k28 m (nI l) kd (nI n) (if (scan (A 19) n (cand (A 2 l) (A 3 l) (A 4 l) (A 5 l) (A 6 l) (A 7 l) kd ways w p y) best).2.isSome = true then scan (A 19) n (cand (A 2 l) (A 3 l) (A 4 l) (A 5 l) (A 6 l) (A 7 l) kd ways w p y) best else scan (A 19) n (cW (cand (A 2 l) (A 3 l) (A 4 l) (A 5 l) (A 6 l) (A 7 l) kd ways w p) d (y + 1)) (scan (A 19) n (cand (A 2 l) (A 3 l) (A 4 l) (A 5 l) (A 6 l) (A 7 l) kd ways w p y) best).1).1 (nI ways) (nI w) (nI p + 1) (sm m I A B fd N c' a' b') := by
      intro hs
      have hc : cand (A 2 l) (A 3 l) (A 4 l) (A 5 l) (A 6 l) (A 7 l) kd ways w p y = [] := if_pos hs
      obtain ⟨c', a', b', h⟩ := ih (y + 1) f best c a b (by omega) (by omega)
      refine ⟨c', a', b', ?_⟩
      unfold fX8_amount_148
      rw [nI_1, h, hc]
      simp [scan]
    have take : ∀ gr : Int32, decide (¬ gr = 0) = decide (ways ≤ y) → ¬ (ways ≤ y ∧ (w < 4 ∨ A 3 l = 0)) → ∃ (c' : Int32) (a' b' : Nat → Int32), fX8_amount_84 k18 k28 (fX8_amount_38 k18 k28 f) m (nI l) kd (nI n) best (nI ways) (nI w) (nI p) (nI y) gr (sm m I A B fd N c a b) =
        if (if (scan (A 19) n (cand (A 2 l) (A 3 l) (A 4 l) (A 5 l) (A 6 l) (A 7 l) kd ways w p y) best).2.isSome = true then scan (A 19) n (cand (A 2 l) (A 3 l) (A 4 l) (A 5 l) (A 6 l) (A 7 l) kd ways w p y) best else scan (A 19) n (cW (cand (A 2 l) (A 3 l) (A 4 l) (A 5 l) (A 6 l) (A 7 l) kd ways w p) d (y + 1)) (scan (A 19) n (cand (A 2 l) (A 3 l) (A 4 l) (A 5 l) (A 6 l) (A 7 l) kd ways w p y) best).1).2.isSome = true then some (2, sm m I A B ((if (scan (A 19) n (cand (A 2 l) (A 3 l) (A 4 l) (A 5 l) (A 6 l) (A 7 l) kd ways w p y) best).2.isSome = true then scan (A 19) n (cand (A 2 l) (A 3 l) (A 4 l) (A 5 l) (A 6 l) (A 7 l) kd ways w p y) best else scan (A 19) n (cW (cand (A 2 l) (A 3 l) (A 4 l) (A 5 l) (A 6 l) (A 7 l) kd ways w p) d (y + 1)) (scan (A 19) n (cand (A 2 l) (A 3 l) (A 4 l) (A 5 l) (A 6 l) (A 7 l) kd ways w p y) best).1).2.getD 0) N c' a' b')
        else k28 m (nI l) kd (nI n) (if (scan (A 19) n (cand (A 2 l) (A 3 l) (A 4 l) (A 5 l) (A 6 l) (A 7 l) kd ways w p y) best).2.isSome = true then scan (A 19) n (cand (A 2 l) (A 3 l) (A 4 l) (A 5 l) (A 6 l) (A 7 l) kd ways w p y) best else scan (A 19) n (cW (cand (A 2 l) (A 3 l) (A 4 l) (A 5 l) (A 6 l) (A 7 l) kd ways w p) d (y + 1)) (scan (A 19) n (cand (A 2 l) (A 3 l) (A 4 l) (A 5 l) (A 6 l) (A 7 l) kd ways w p y) best).1).1 (nI ways) (nI w) (nI p + 1) (sm m I A B fd N c' a' b') := by
      intro gr hgr hs
      obtain ⟨c1, a1, b1, h1⟩ := e_am84 (m := m) (I := I) (A := A) (B := B) (fd := fd) (N := N) hl hn hw hp hy hways kd gr best k18 k28 (fX8_amount_38 k18 k28 f) c a b _ rfl
      rw [hgr] at h1
      have hc : cand (A 2 l) (A 3 l) (A 4 l) (A 5 l) (A 6 l) (A 7 l) kd ways w p y = [(aPat (A 2 l) (A 3 l) (A 4 l) (A 5 l) (A 6 l) (A 7 l) kd w p (decide (ways ≤ y)) (decide (y % ways % 2 = 1)) (decide (y % ways / 2 % 2 = 1)), decide (y % 2 = 1))] := if_neg hs
      generalize aPat (A 2 l) (A 3 l) (A 4 l) (A 5 l) (A 6 l) (A 7 l) kd w p (decide (ways ≤ y)) (decide (y % ways % 2 = 1)) (decide (y % ways / 2 % 2 = 1)) = P at h1 hc
      rw [hc, h1]
      by_cases hm : mres P (A 19) n = 2
      · refine ⟨c1, a1, b1, ?_⟩
        simp [scan, hm]
      · obtain ⟨c', a', b', h⟩ := ih (y + 1) f (if mres P (A 19) n ≤ best then best else mres P (A 19) n) c1 a1 b1 (by omega) (by omega)
        refine ⟨c', a', b', ?_⟩
        rw [if_neg hm, h]
        simp [scan, hm]
    unfold fX8_amount_59
    by_cases hyw : y < ways
    · rw [if_pos (nI_lt hyw (by omega)), if_pos rfl]
      exact take 0 (by simp; omega) (by omega)
    · rw [if_neg (nI_nlt (by omega) (by omega)), if_neg (by decide)]
      by_cases hw4 : w < 4
      · rw [if_pos (show nI w < 4 from nI_lt (b := 4) hw4 (by decide))]
        exact skip ⟨by omega, Or.inl hw4⟩
      · rw [if_neg (show ¬ nI w < 4 from nI_nlt (b := 4) (by omega) (by omega))]
        have hg : aI (sm m I A B fd N c a b) (m + 3) (nI l) = some (A 3 l) := by
          unfold sm
          rw [mm_aI3, if_pos (inr_nI hl (by decide)), nI_clamp (by omega)]
          rfl
        have hg2 : gN (sm m I A B fd N c a b) 5 m 3 = some (m + 3) := mm_gN3
        rw [hg2, Option.bind_some, hg, Option.bind_some]
        by_cases h0 : A 3 l = 0
        · rw [if_pos h0]
          exact skip ⟨by omega, Or.inr h0⟩
        · rw [if_neg h0]
          exact take 1 (by simp; omega) (fun q => q.2.elim (fun q => hw4 q) (fun q => h0 q))
theorem e_am28 {l n w ways : Nat} (hl : l < 24) (hn : n ≤ 200) (hw : w ≤ 9) (hways : ways = 2 ∨ ways = 4) (kd : Int32)
    (k18 : Nat → Int32 → Int32 → Int32 → Int32 → Int32 → Int32 → Mem → Option (Int32 × Mem)) (F : Nat → List (Pat × Bool)) (hF : F = fun p => cW (cand (A 2 l) (A 3 l) (A 4 l) (A 5 l) (A 6 l) (A 7 l) kd ways w p) (2 * ways) 0) :
    ∀ (d p f : Nat) (best c : Int32) (a b : Nat → Int32), p + d = 7 → d < f → ∃ (c' : Int32) (a' b' : Nat → Int32),
      fX8_amount_28 k18 f m (nI l) kd (nI n) best (nI ways) (nI w) (nI p) (sm m I A B fd N c a b) =
      if (scan (A 19) n (cW F d p) best).2.isSome = true then some (2, sm m I A B ((scan (A 19) n (cW F d p) best).2.getD 0) N c' a' b')
      else k18 m (nI l) kd (nI n) (scan (A 19) n (cW F d p) best).1 (nI ways) (nI w + 1) (sm m I A B fd N c' a' b') := by
  intro d
  induction d with
  | zero =>
    intro p f best c a b hpd hf
    obtain ⟨f, rfl⟩ : ∃ g, f = g + 1 := ⟨f - 1, by omega⟩
    refine ⟨c, a, b, ?_⟩
    rw [fX8_amount_28, if_pos (show (6 : Int32) < nI p from nI_lt (a := 6) (by omega) (by omega))]
    simp [cW, scan]
  | succ d ih =>
    intro p f best c a b hpd hf
    obtain ⟨f, rfl⟩ : ∃ g, f = g + 1 := ⟨f - 1, by omega⟩
    rw [fX8_amount_28, if_neg (show ¬ (6 : Int32) < nI p from nI_nlt (a := 6) (by omega) (by decide))]
    obtain ⟨c1, a1, b1, h1⟩ := e_am38 (m := m) (I := I) (A := A) (B := B) (fd := fd) (N := N) hl hn hw (show p ≤ 6 by omega) hways kd k18 (fX8_amount_28 k18 f) (2 * ways) 0 FU best c a b (by omega) (by unfold FU; omega)
    rw [show nI 0 = 0 from rfl] at h1
    have hFp : cW (cand (A 2 l) (A 3 l) (A 4 l) (A 5 l) (A 6 l) (A 7 l) kd ways w p) (2 * ways) 0 = F p := by rw [hF]
    rw [hFp] at h1
    simp only [cW, scan_app]
    rw [h1]
    by_cases hs : (scan (A 19) n (F p) best).2.isSome = true
    · refine ⟨c1, a1, b1, ?_⟩
      simp [hs]
    · obtain ⟨c', a', b', h⟩ := ih (p + 1) f (scan (A 19) n (F p) best).1 c1 a1 b1 (by omega) (by omega)
      refine ⟨c', a', b', ?_⟩
      rw [if_neg hs, nI_1, h]
      simp [hs]
theorem e_am18 {l n ways : Nat} (hl : l < 24) (hn : n ≤ 200) (hways : ways = 2 ∨ ways = 4) (kd : Int32) (F : Nat → List (Pat × Bool)) (hF : F = fun w => cW (fun p => cW (cand (A 2 l) (A 3 l) (A 4 l) (A 5 l) (A 6 l) (A 7 l) kd ways w p) (2 * ways) 0) 7 0) :
    ∀ (d w f : Nat) (best c : Int32) (a b : Nat → Int32), w + d = 10 → d < f → ∃ (c' : Int32) (a' b' : Nat → Int32),
      fX8_amount_18 f m (nI l) kd (nI n) best (nI ways) (nI w) (sm m I A B fd N c a b) =
      if (scan (A 19) n (cW F d w) best).2.isSome = true then some (2, sm m I A B ((scan (A 19) n (cW F d w) best).2.getD 0) N c' a' b')
      else some ((scan (A 19) n (cW F d w) best).1, sm m I A B fd N c' a' b') := by
  intro d
  induction d with
  | zero =>
    intro w f best c a b hwd hf
    obtain ⟨f, rfl⟩ : ∃ g, f = g + 1 := ⟨f - 1, by omega⟩
    refine ⟨c, a, b, ?_⟩
    rw [fX8_amount_18, if_pos (show (9 : Int32) < nI w from nI_lt (a := 9) (by omega) (by omega))]
    simp [cW, scan]
  | succ d ih =>
    intro w f best c a b hwd hf
    obtain ⟨f, rfl⟩ : ∃ g, f = g + 1 := ⟨f - 1, by omega⟩
    rw [fX8_amount_18, if_neg (show ¬ (9 : Int32) < nI w from nI_nlt (a := 9) (by omega) (by decide))]
    obtain ⟨c1, a1, b1, h1⟩ := e_am28 (m := m) (I := I) (A := A) (B := B) (fd := fd) (N := N) hl hn (show w ≤ 9 by omega) hways kd (fX8_amount_18 f) _ rfl 7 0 FU best c a b (by omega) (by unfold FU; omega)
    rw [show nI 0 = 0 from rfl] at h1
    have hFp : cW (fun p => cW (cand (A 2 l) (A 3 l) (A 4 l) (A 5 l) (A 6 l) (A 7 l) kd ways w p) (2 * ways) 0) 7 0 = F w := by rw [hF]
    rw [hFp] at h1
    simp only [cW, scan_app]
    rw [h1]
    by_cases hs : (scan (A 19) n (F w) best).2.isSome = true
    · refine ⟨c1, a1, b1, ?_⟩
      simp [hs]
    · obtain ⟨c', a', b', h⟩ := ih (w + 1) f (scan (A 19) n (F w) best).1 c1 a1 b1 (by omega) (by omega)
      refine ⟨c', a', b', ?_⟩
      rw [if_neg hs, nI_1, h]
      simp [hs]
/-- the reference's amount: how the first n bytes are an amount of a land, and its value -/
def amt (A : Nat → Nat → Int32) (l : Nat) (kd : Int32) (T : Nat → Int32) (n : Nat) : Int32 × Option Int64 := scan T n (cands (A 2 l) (A 3 l) (A 4 l) (A 5 l) (A 6 l) (A 7 l) kd (if kd = 1 then 4 else 2)) 0
theorem e_amount {l n : Nat} (hl : l < 24) (hn : n ≤ 200) (kd c : Int32) (a b : Nat → Int32) : ∃ (c' : Int32) (a' b' : Nat → Int32),
    fX8_amount m (nI l) kd (nI n) (sm m I A B fd N c a b) = some (if (amt A l kd (A 19) n).2.isSome = true then 2 else (amt A l kd (A 19) n).1, sm m I A B ((amt A l kd (A 19) n).2.getD fd) N c' a' b') := by
  have key : ∀ ways : Nat, (ways = 2 ∨ ways = 4) → ∃ (c' : Int32) (a' b' : Nat → Int32), fX8_amount_13 m (nI l) kd (nI n) 0 (nI ways) (sm m I A B fd N c a b) = some (if (scan (A 19) n (cands (A 2 l) (A 3 l) (A 4 l) (A 5 l) (A 6 l) (A 7 l) kd ways) 0).2.isSome = true then 2 else (scan (A 19) n (cands (A 2 l) (A 3 l) (A 4 l) (A 5 l) (A 6 l) (A 7 l) kd ways) 0).1, sm m I A B ((scan (A 19) n (cands (A 2 l) (A 3 l) (A 4 l) (A 5 l) (A 6 l) (A 7 l) kd ways) 0).2.getD fd) N c' a' b') := by
    intro ways hways
    obtain ⟨c', a', b', h⟩ := e_am18 (m := m) (I := I) (A := A) (B := B) (fd := fd) (N := N) hl hn hways kd _ rfl 9 1 FU 0 c a b (by omega) (by unfold FU; omega)
    refine ⟨c', a', b', ?_⟩
    unfold fX8_amount_13 cands
    rw [show nI 1 = 1 from rfl] at h
    rw [h]
    generalize scan (A 19) n (cW (fun w => cW (fun p => cW (cand (A 2 l) (A 3 l) (A 4 l) (A 5 l) (A 6 l) (A 7 l) kd ways w p) (2 * ways) 0) 7 0) 9 1) 0 = q
    obtain ⟨r, o⟩ := q
    cases o <;> simp
  unfold fX8_amount amt
  by_cases hk : kd = 1
  · rw [if_pos hk]
    simp only [if_pos hk]
    exact key 4 (Or.inr rfl)
  · rw [if_neg hk]
    simp only [if_neg hk]
    exact key 2 (Or.inl rfl)
end AMOUNT
