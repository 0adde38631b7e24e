/-! ===== days, as both sides count them ===== -/
def leapN (y : Nat) : Bool := decide (y % 4 = 0 ∧ (¬ y % 100 = 0 ∨ y % 400 = 0))
def dimN (m y : Nat) : Nat := if m = 2 then (if leapN y = true then 29 else 28) else if m = 4 ∨ m = 6 ∨ m = 9 ∨ m = 11 then 30 else 31
/-- the days of the months k, k + 1 .. (so many) of a year -/
def sumN (y : Nat) : Nat → Nat → Nat
  | 0, _ => 0
  | d + 1, k => dimN k y + sumN y d (k + 1)
def dayN (d m y : Nat) : Nat := 365 * (y - 1) + (y - 1) / 4 - (y - 1) / 100 + (y - 1) / 400 + sumN y (m - 1) 1 + d - 1
theorem nI_z {a : Nat} (h : a < 2 ^ 31) : nI a = 0 ↔ a = 0 := nI_eq (b := 0) h (by decide)
theorem e_isLeap {y : Nat} (hy : y < 2 ^ 31) (M : Mem) : fX8_isLeap (nI y) M = some (if leapN y = true then 1 else 0, M) := by
  unfold fX8_isLeap fX8_isLeap_21 fX8_isLeap_25 fX8_isLeap_26 leapN
  have r4 : rmI (nI y) 4 = nI (y % 4) := rmI_nI (d := 4) hy (by decide) (by decide)
  have r1 : rmI (nI y) 100 = nI (y % 100) := rmI_nI (d := 100) hy (by decide) (by decide)
  have r0 : rmI (nI y) 400 = nI (y % 400) := rmI_nI (d := 400) hy (by decide) (by decide)
  rw [r4, r1, r0]
  have z4 := nI_z (a := y % 4) (by omega)
  have z1 := nI_z (a := y % 100) (by omega)
  have z0 := nI_z (a := y % 400) (by omega)
  by_cases h4 : y % 4 = 0 <;> by_cases h1 : y % 100 = 0 <;> by_cases h0 : y % 400 = 0 <;> simp [z4, z1, z0, h4, h1, h0, nz0, nz1, nI_0]
theorem nI_lit {a b : Nat} (ha : a < 2 ^ 31) (hb : b < 2 ^ 31) {x : Int32} (hx : x = nI b) : nI a = x ↔ a = b := by
  subst hx
  exact nI_eq ha hb
theorem e_daysOf {m y : Nat} (hm : m < 2 ^ 31) (hy : y < 2 ^ 31) (M : Mem) : fX8_daysOf (nI m) (nI y) M = some (nI (dimN m y), M) := by
  unfold fX8_daysOf fX8_daysOf_52 fX8_daysOf_45 dimN
  have a2 := nI_lit hm (b := 2) (by decide) (x := 2) rfl
  have a4 := nI_lit hm (b := 4) (by decide) (x := 4) rfl
  have a6 := nI_lit hm (b := 6) (by decide) (x := 6) rfl
  have a9 := nI_lit hm (b := 9) (by decide) (x := 9) rfl
  have a11 := nI_lit hm (b := 11) (by decide) (x := 11) rfl
  rw [e_isLeap hy]
  by_cases h2 : m = 2
  · rw [if_pos (a2.mpr h2), if_pos h2]
    by_cases hl : leapN y = true
    · simp [hl]
      rfl
    · simp [hl]
      rfl
  · rw [if_neg (fun q => h2 (a2.mp q)), if_neg h2]
    by_cases h4 : m = 4
    · simp [a4, h4]
      rfl
    · by_cases h6 : m = 6
      · simp [a4, a6, h4, h6]
        rfl
      · by_cases h9 : m = 9
        · simp [a4, a6, a9, h4, h6, h9]
          rfl
        · by_cases h11 : m = 11
          · simp [a4, a6, a9, a11, h4, h6, h9, h11]
            rfl
          · simp [a4, a6, a9, a11, h4, h6, h9, h11]
            rfl
theorem dimN_le (m y : Nat) : dimN m y ≤ 31 := by
  unfold dimN
  split
  · split <;> omega
  · split <;> omega
theorem sumN_le (y d k : Nat) : sumN y d k ≤ 31 * d := by
  induction d generalizing k with
  | zero => simp [sumN]
  | succ d ih =>
    have := ih (k + 1)
    have := dimN_le k y
    simp only [sumN]
    omega
theorem e_dayLoop {d m y : Nat} (hd : 1 ≤ d) (hd2 : d < 2 ^ 31) (hm : m < 2 ^ 20) (hy : y < 2 ^ 31) (M : Mem) : ∀ (e k f v : Nat), k + e = m → e < f → fX8_dayNumber_33 f (nI d) (nI m) (nI y) (lN v) (nI k) M = some (lN (v + sumN y e k + d - 1), M) := by
  intro e
  induction e with
  | zero =>
    intro k f v hk hf
    obtain ⟨f, rfl⟩ : ∃ g, f = g + 1 := ⟨f - 1, by omega⟩
    rw [fX8_dayNumber_33, if_pos (nI_le (by omega) (by omega)), nI_l hd2, lN_add]
    have e1 : lN (v + d) - 1 = lN (v + d - 1) := lN_sub (b := 1) (by omega)
    rw [e1]
    simp [sumN]
  | succ e ih =>
    intro k f v hk hf
    obtain ⟨f, rfl⟩ : ∃ g, f = g + 1 := ⟨f - 1, by omega⟩
    have := dimN_le k y
    rw [fX8_dayNumber_33, if_neg (nI_ge (by omega) (by omega)), e_daysOf (by omega) hy, Option.bind_some, nI_l (by omega), lN_add, nI_1, ih (k + 1) f _ (by omega) (by omega)]
    simp [sumN, Nat.add_assoc]
theorem e_dayNumber {d m y : Nat} (hd : 1 ≤ d) (hd2 : d < 2 ^ 31) (hm1 : 1 ≤ m) (hm : m < 2 ^ 16) (hy1 : 1 ≤ y) (hy : y < 2 ^ 16) (M : Mem) : fX8_dayNumber (nI d) (nI m) (nI y) M = some (lN (dayN d m y), M) := by
  unfold fX8_dayNumber
  have e1 : nI y - 1 = nI (y - 1) := pk_sub (b := 1) hy1
  rw [e1, nI_l (by omega)]
  have m1 : (365 : Int64) * lN (y - 1) = lN (365 * (y - 1)) := lN_mul 365 (y - 1)
  have d4 : lN (y - 1) / 4 = lN ((y - 1) / 4) := pk_lDiv (b := 4) (by omega) (by decide) (by decide)
  have d1 : lN (y - 1) / 100 = lN ((y - 1) / 100) := pk_lDiv (b := 100) (by omega) (by decide) (by decide)
  have d0 : lN (y - 1) / 400 = lN ((y - 1) / 400) := pk_lDiv (b := 400) (by omega) (by decide) (by decide)
  rw [m1, d4, d1, d0, lN_add, lN_sub (by omega), lN_add, Option.bind_some]
  have h := e_dayLoop (d := d) (m := m) (y := y) hd hd2 (by omega) (by omega) M (m - 1) 1 FU (365 * (y - 1) + (y - 1) / 4 - (y - 1) / 100 + (y - 1) / 400) (by omega) (by unfold FU; omega)
  rw [show nI 1 = 1 from rfl] at h
  rw [h]
  rfl
/-- a number of so many digits begins at p, as far as the n bytes go -/
def bgn (T : Nat → Int32) (v : Nat) : Nat → Nat → Nat → Bool
  | 0, _, _ => true
  | d + 1, p, n => if n ≤ p then true else if T p = nI (48 + v / 10 ^ d % 10) then bgn T v d (p + 1) n else false
section BGN
variable {m : Nat} {I : Nat → Int32} {A : Nat → Nat → Int32} {B : Nat → Nat → Int64} {fd : Int64} {N : Mem}
theorem mm_t {k : Nat} (h : k < 200) : aI (mm m I A B fd N) (m + 19) (nI k) = some (A 19 k) := by
  rw [mm_aI19, if_pos (inr_nI h (by decide)), nI_clamp (by omega)]
theorem e_bgnLoop {v dg at_ n : Nat} (hv : v < 2 ^ 30) (hdg : dg ≤ 4) (hat : at_ < 100) (hn : n ≤ 200) : ∀ (d k f : Nat), k + d = dg → d < f → fX8_begins_27 f m (nI v) (nI dg) (nI at_) (nI n) (nI (10 ^ d / 10)) (nI k) (mm m I A B fd N) = some (if bgn (A 19) v d (at_ + k) n = true then 1 else 0, mm m I A B fd N) := by
  intro d
  induction d with
  | zero =>
    intro k f hk hf
    obtain ⟨f, rfl⟩ : ∃ g, f = g + 1 := ⟨f - 1, by omega⟩
    rw [fX8_begins_27, if_pos (nI_le (by omega) (by omega))]
    simp [fX8_begins_79, nz1, bgn]
  | succ d ih =>
    intro k f hk hf
    obtain ⟨f, rfl⟩ : ∃ g, f = g + 1 := ⟨f - 1, by omega⟩
    have hu : 10 ^ (d + 1) / 10 = 10 ^ d := by
      rw [Nat.pow_succ]
      exact Nat.mul_div_cancel _ (by decide)
    have hup : 0 < 10 ^ d := Nat.pow_pos (by decide)
    have hu4 : 10 ^ d ≤ 10 ^ 4 := Nat.pow_le_pow_right (by decide) (by omega)
    rw [fX8_begins_27, if_neg (nI_ge (by omega) (by omega)), nI_add, hu]
    by_cases hp : n ≤ at_ + k
    · have hb : bgn (A 19) v (d + 1) (at_ + k) n = true := by simp [bgn, hp]
      rw [if_pos (nI_le hp (by omega)), hb]
      simp [fX8_begins_79, nz1]
    · have hd1 : nI v / nI (10 ^ d) = nI (v / 10 ^ d) := pk_div (by omega) hup (by omega)
      have hr : rmI (nI (v / 10 ^ d)) 10 = nI (v / 10 ^ d % 10) := rmI_nI (d := 10) (by have := Nat.div_le_self v (10 ^ d); omega) (by decide) (by decide)
      have h48 : (48 : Int32) + nI (v / 10 ^ d % 10) = nI (48 + v / 10 ^ d % 10) := nI_add 48 _
      have hdz : dzI (nI (10 ^ d)) = some () := by
        unfold dzI
        rw [if_neg (nI_ne0 hup (by omega))]
      have hdv : nI (10 ^ d) / 10 = nI (10 ^ d / 10) := pk_div (d := 10) (by omega) (by decide) (by decide)
      rw [if_neg (nI_ge (by omega) (by omega)), mm_gN19, Option.bind_some, mm_t (by omega), Option.bind_some, hdz, Option.bind_some, hd1, hr, h48]
      by_cases hc : A 19 (at_ + k) = nI (48 + v / 10 ^ d % 10)
      · have hb : bgn (A 19) v (d + 1) (at_ + k) n = bgn (A 19) v d (at_ + (k + 1)) n := by simp [bgn, hp, hc, Nat.add_assoc]
        rw [if_pos hc, hdv, nI_1, ih (k + 1) f (by omega) (by omega), hb]
      · have hb : bgn (A 19) v (d + 1) (at_ + k) n = false := by simp [bgn, hp, hc]
        rw [if_neg hc, nz0, hb]
        rfl
theorem e_begins {v dg at_ n : Nat} (hv : v < 2 ^ 30) (hdg : dg = 1 ∨ dg = 2 ∨ dg = 4) (hat : at_ < 100) (hn : n ≤ 200) : fX8_begins m (nI v) (nI dg) (nI at_) (nI n) (mm m I A B fd N) = some (if bgn (A 19) v dg at_ n = true then 1 else 0, mm m I A B fd N) := by
  unfold fX8_begins fX8_begins_22
  have h := e_bgnLoop (m := m) (I := I) (A := A) (B := B) (fd := fd) (N := N) (v := v) (dg := dg) hv (by omega) hat hn dg 0 FU (by omega) (by unfold FU; omega)
  rw [show nI 0 = 0 from rfl] at h
  rcases hdg with rfl | rfl | rfl
  · rw [if_neg (by decide), if_neg (by decide)]
    exact h
  · rw [if_neg (by decide), if_pos (by decide)]
    exact h
  · rw [if_pos (by decide)]
    exact h
theorem e_isSign {l at_ n : Nat} (hl : l < 24) (hat : at_ < 100) (hn : n ≤ 200) : fX8_isSign m (nI l) (nI at_) (nI n) (mm m I A B fd N) = some (if n ≤ at_ ∨ A 19 at_ = A 9 l then 1 else 0, mm m I A B fd N) := by
  unfold fX8_isSign fX8_isSign_20 fX8_isSign_25
  by_cases h : n ≤ at_
  · rw [if_pos (nI_le h (by omega))]
    simp [h, nz1]
  · rw [if_neg (nI_ge (by omega) (by omega)), mm_gN19, Option.bind_some, mm_t (by omega), Option.bind_some, mm_gN9, Option.bind_some, mm_aI9, if_pos (inr_nI hl (by decide)), nI_clamp (by omega), Option.bind_some]
    by_cases hc : A 19 at_ = A 9 l
    · simp [hc, nz1]
    · simp [hc, h, nz0]
end BGN
