/-! ===== the class: days ===== -/
theorem li_lt (x : Int32) (a b : Nat) (hx : x = nI b) (h : a < b) (hb : b < 2 ^ 31) : nI a < x := by rw [hx]; exact nI_lt h hb
theorem li_nlt (x : Int32) (a b : Nat) (hx : x = nI b) (h : b ≤ a) (ha : a < 2 ^ 31) : ¬ nI a < x := by rw [hx]; exact nI_nlt h ha
theorem li_gt (x : Int32) (a b : Nat) (hx : x = nI b) (h : b < a) (ha : a < 2 ^ 31) : x < nI a := by rw [hx]; exact nI_lt h ha
theorem li_ngt (x : Int32) (a b : Nat) (hx : x = nI b) (h : a ≤ b) (hb : b < 2 ^ 31) : ¬ x < nI a := by rw [hx]; exact nI_nlt h hb
theorem li_le (x : Int32) (a b : Nat) (hx : x = nI b) (h : a ≤ b) (hb : b < 2 ^ 31) : nI a ≤ x := by rw [hx]; exact nI_le h hb
theorem li_nle (x : Int32) (a b : Nat) (hx : x = nI b) (h : b < a) (ha : a < 2 ^ 31) : ¬ nI a ≤ x := by rw [hx]; exact nI_ge h ha
theorem li_ge (x : Int32) (a b : Nat) (hx : x = nI b) (h : b ≤ a) (ha : a < 2 ^ 31) : x ≤ nI a := by rw [hx]; exact nI_le h ha
theorem li_nge (x : Int32) (a b : Nat) (hx : x = nI b) (h : a < b) (hb : b < 2 ^ 31) : ¬ x ≤ nI a := by rw [hx]; exact nI_ge h hb
def LenOk (M : Mem) : Prop := KF M.2.2 .int (M.2.2.1 0) 12 (fun j => lenL.getD j 0)
def lenN (m : Nat) (leap : Bool) : Nat := if m = 2 then (if leap = true then 29 else 28) else if m = 4 ∨ m = 6 ∨ m = 9 ∨ m = 11 then 30 else 31
theorem dim_len (m y : Nat) : dimN m y = lenN m (leapN y) := rfl
theorem lenN_le (m : Nat) (b : Bool) : lenN m b ≤ 31 := by
  unfold lenN
  split
  · split <;> omega
  · split <;> omega
theorem lenL_N : ∀ m, m < 12 → lenL.getD m 0 = nI (lenN (m + 1) false) := by decide
theorem e_cLeap {y : Nat} (hy : y < 2 ^ 31) (M : Mem) : fX0_isLeap (nI y) M = some (bI (leapN y), M) := by
  unfold fX0_isLeap fX0_isLeap_13 fX0_isLeap_21 fX0_isLeap_26 leapN bI
  have r4 : rmI (nI y) 4 = nI (y % 4) := rmI_nI (d := 4) hy (by decide) (by decide)
  have r1 : rmI (nI y) 100 = nI (y % 100) := rmI_nI (d := 100) hy (by decide) (by decide)
  have r0 : rmI (nI y) 400 = nI (y % 400) := rmI_nI (d := 400) hy (by decide) (by decide)
  rw [r4, r1, r0]
  have z4 := nI_z (a := y % 4) (by omega)
  have z1 := nI_z (a := y % 100) (by omega)
  have z0 := nI_z (a := y % 400) (by omega)
  by_cases h4 : y % 4 = 0
  · by_cases h1 : y % 100 = 0 <;> by_cases h0 : y % 400 = 0 <;> simp [z4, z1, z0, h4, h1, h0, nz0, nz1, nI_0]
  · have h0 : ¬ y % 400 = 0 := by omega
    simp [z4, z0, h4, h0, nz0]
theorem bI_0 (b : Bool) : bI b = 0 ↔ b = false := by cases b <;> decide
theorem e_cLen {M : Mem} (hM : LenOk M) {m : Nat} (hm : m < 2 ^ 31) (b : Bool) : fX0_lengthOf (nI m) (bI b) M = some (nI (if 1 ≤ m ∧ m ≤ 12 then lenN m b else 0), M) := by
  obtain ⟨n, f, h1, h2, h3, h4⟩ := hM
  have hN : kN M (M.2.2.1 0) = some (nI 12) := by
    unfold kN
    rw [h1]
    exact congrArg some h3
  have h29 : 1 ≤ m → m ≤ 12 → fX0_lengthOf_29 (nI m) M = some (nI (lenN m false), M) := by
    intro m1 m2
    unfold fX0_lengthOf_29 fX0_lengthOf_36
    have e : nI m - 1 = nI (m - 1) := pk_sub (b := 1) m1
    have hk : kA M .int (M.2.2.1 0) (nI (m - 1)) = some (nI (lenN m false)) := by
      unfold kA
      rw [h1]
      have hc : (nI (m - 1)).toNatClampNeg = m - 1 := nI_clamp (by omega)
      have hi : inr (nI (m - 1)) n = true := by
        unfold inr
        rw [hc]
        have h0 : ¬ nI (m - 1) < 0 := nI_pos (by omega)
        have h5 : m - 1 < n := by omega
        simp [h0, h5]
      simp only [hi, and_self, if_true, hc]
      rw [h4 (m - 1) (by omega)]
      dsimp only
      rw [lenL_N (m - 1) (by omega), show m - 1 + 1 = m by omega]
    rw [e, hk, Option.bind_some]
  unfold fX0_lengthOf
  by_cases m1 : 1 ≤ m
  · rw [if_neg (li_nlt 1 m 1 rfl m1 hm), hN, Option.bind_some]
    by_cases m2 : m ≤ 12
    · rw [if_pos (nI_le m2 (by decide)), if_pos (show 1 ≤ m ∧ m ≤ 12 from ⟨m1, m2⟩)]
      have a2 := nI_lit hm (b := 2) (by decide) (x := 2) rfl
      by_cases e2 : m = 2
      · rw [if_pos (a2.mpr e2)]
        cases b with
        | false => rw [if_pos (by decide), h29 m1 m2]
        | true =>
          rw [if_neg (by decide)]
          unfold fX0_lengthOf_36 lenN
          rw [if_pos e2, if_pos rfl]
          rfl
      · rw [if_neg (fun q => e2 (a2.mp q)), h29 m1 m2]
        unfold lenN
        rw [if_neg e2, if_neg e2]
    · rw [if_neg (nI_ge (by omega) (by omega)), if_neg (fun q : 1 ≤ m ∧ m ≤ 12 => m2 q.2)]
      rfl
  · rw [if_pos (li_lt 1 m 1 rfl (by omega) (by decide)), if_neg (fun q : 1 ≤ m ∧ m ≤ 12 => m1 q.1)]
    rfl
def isDayN (y m d : Nat) : Bool := decide (1 ≤ y ∧ y ≤ 9999 ∧ 1 ≤ d ∧ (1 ≤ m ∧ m ≤ 12) ∧ d ≤ dimN m y)
theorem e_cIsDay {M : Mem} (hM : LenOk M) {y m d : Nat} (hy : y < 2 ^ 31) (hm : m < 2 ^ 31) (hd : d < 2 ^ 31) : fX0_isDay (nI y) (nI m) (nI d) M = some (bI (isDayN y m d), M) := by
  unfold fX0_isDay fX0_isDay_33 fX0_isDay_34 isDayN
  by_cases y1 : 1 ≤ y
  · rw [if_neg (li_nlt 1 y 1 rfl y1 hy)]
    by_cases y2 : y ≤ 9999
    · rw [if_neg (li_ngt 9999 y 9999 rfl y2 (by decide))]
      by_cases d1 : 1 ≤ d
      · rw [if_neg (li_nlt 1 d 1 rfl d1 hd), e_cLeap hy, Option.bind_some]
        dsimp only
        rw [e_cLen hM hm, Option.bind_some]
        dsimp only
        by_cases hmm : 1 ≤ m ∧ m ≤ 12
        · rw [if_pos hmm, dim_len]
          have := lenN_le m (leapN y)
          by_cases hl : d ≤ lenN m (leapN y)
          · rw [if_neg (nI_nlt hl (by omega)), nz1]
            simp [y1, y2, d1, hmm, hl, bI]
          · rw [if_pos (nI_lt (by omega) hd), nz0]
            simp [hl, bI]
        · rw [if_neg hmm, if_pos (nI_lt (by omega) hd), nz0]
          simp [hmm, bI]
      · rw [if_pos (li_lt 1 d 1 rfl (by omega) (by decide)), nz0]
        simp [d1, bI]
    · rw [if_pos (li_gt 9999 y 9999 rfl (by omega) hy), nz0]
      simp [y2, bI]
  · rw [if_pos (li_lt 1 y 1 rfl (by omega) (by decide)), nz0]
    simp [y1, bI]
def befN (y : Nat) : Nat := 365 * (y - 1) + (y - 1) / 4 - (y - 1) / 100 + (y - 1) / 400
theorem e_cBefore {y : Nat} (hy1 : 1 ≤ y) (hy : y ≤ 9999) (M : Mem) : fX0_beforeYear (nI y) M = some (nI (befN y), M) := by
  unfold fX0_beforeYear befN
  have e : nI y - 1 = nI (y - 1) := pk_sub (b := 1) hy1
  have m1 : nI (y - 1) * 365 = nI ((y - 1) * 365) := pk_mul _ 365
  have d4 : nI (y - 1) / 4 = nI ((y - 1) / 4) := pk_div (d := 4) (by omega) (by decide) (by decide)
  have d1 : nI (y - 1) / 100 = nI ((y - 1) / 100) := pk_div (d := 100) (by omega) (by decide) (by decide)
  have d0 : nI (y - 1) / 400 = nI ((y - 1) / 400) := pk_div (d := 400) (by omega) (by decide) (by decide)
  rw [e, m1, d4, d1, d0, nI_add, pk_sub (by omega), nI_add, Nat.mul_comm]
theorem e_cNumLoop {M : Mem} (hM : LenOk M) {m y : Nat} (hm1 : 1 ≤ m) (hm : m ≤ 12) : ∀ (e i f v : Nat), i + e = m → 1 ≤ i → e < f → fX0_numberOf_18 f (nI m) (bI (leapN y)) (nI v) (nI i) M = some (nI (v + sumN y e i), M) := by
  intro e
  induction e with
  | zero =>
    intro i f v hi h1 hf
    obtain ⟨f, rfl⟩ : ∃ g, f = g + 1 := ⟨f - 1, by omega⟩
    rw [fX0_numberOf_18, if_pos (nI_le (by omega) (by omega))]
    rfl
  | succ e ih =>
    intro i f v hi h1 hf
    obtain ⟨f, rfl⟩ : ∃ g, f = g + 1 := ⟨f - 1, by omega⟩
    rw [fX0_numberOf_18, if_neg (nI_ge (by omega) (by omega)), if_neg (li_ngt 12 i 12 rfl (by omega) (by decide)), e_cLen hM (by omega), Option.bind_some]
    dsimp only
    rw [if_pos ⟨h1, by omega⟩, ← dim_len, nI_add, nI_1, ih (i + 1) f _ (by omega) (by omega) (by omega), sumN, Nat.add_assoc]
theorem e_cNumber {M : Mem} (hM : LenOk M) {y m d : Nat} (hy1 : 1 ≤ y) (hy : y ≤ 9999) (hm1 : 1 ≤ m) (hm : m ≤ 12) (hd1 : 1 ≤ d) (hd : d ≤ 31) : fX0_numberOf (nI y) (nI m) (nI d) M = some (nI (dayN d m y), M) := by
  unfold fX0_numberOf
  rw [e_cLeap (by omega), Option.bind_some]
  dsimp only
  rw [e_cBefore hy1 hy, Option.bind_some]
  dsimp only
  rw [nI_add, show nI (befN y + d) - 1 = nI (befN y + d - 1) from pk_sub (b := 1) (by omega)]
  have := e_cNumLoop hM hm1 hm (y := y) (m - 1) 1 FU (befN y + d - 1) (by omega) (by omega) (by unfold FU; omega)
  rw [show nI 1 = 1 from rfl] at this
  rw [this]
  unfold dayN befN
  congr 3
  omega
theorem dayN_lt {y m d : Nat} (hy : y ≤ 9999) (hm : m ≤ 12) (hd : d ≤ 31) : dayN d m y < 2 ^ 31 := by
  have := sumN_le y (m - 1) 1
  unfold dayN
  omega
