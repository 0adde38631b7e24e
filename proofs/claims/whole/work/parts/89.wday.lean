/-! ===== days written ===== -/
theorem sumN_last (y : Nat) : ∀ (e k : Nat), sumN y (e + 1) k = sumN y e k + dimN (k + e) y := by
  intro e
  induction e with
  | zero => intro k; simp [sumN]
  | succ e ih =>
    intro k
    rw [sumN, ih (k + 1), sumN, show k + 1 + e = k + (e + 1) by omega]
    omega
def YOk (v y : Nat) : Prop := 1 ≤ y ∧ y ≤ 9999 ∧ befN y ≤ v ∧ v < befN (y + 1)
def MOk (y r mo : Nat) : Prop := 1 ≤ mo ∧ mo ≤ 12 ∧ sumN y (mo - 1) 1 ≤ r ∧ (mo = 12 ∨ r < sumN y mo 1)
theorem bef_step (y : Nat) (hy : 1 ≤ y) : befN y + 365 ≤ befN (y + 1) := by
  unfold befN
  omega
theorem bef_mono {a b : Nat} (ha : 1 ≤ a) (h : a ≤ b) : befN a ≤ befN b := by
  induction b with
  | zero => omega
  | succ b ih =>
    by_cases he : a = b + 1
    · rw [he]; exact Nat.le_refl _
    · have := bef_step b (by omega)
      have := ih (by omega)
      omega
theorem e_yearOf {v : Nat} (hv : v ≤ 3652058) (M : Mem) : ∃ y, YOk v y ∧ fX0_yearOf (nI v) M = some (nI y, M) := by
  have r1 : rmI (nI v) 146097 = nI (v % 146097) := rmI_nI (d := 146097) (by omega) (by decide) (by decide)
  have mn : ∀ (a : Nat) (M : Mem), a < 2 ^ 31 → fJ9_min_7cf53 (nI a) 3 M = some (nI (min a 3), M) := by
    intro a M ha
    unfold fJ9_min_7cf53 fJ9_min_7cf53_10
    by_cases h : 3 < a
    · rw [if_pos (li_gt 3 a 3 rfl h ha), show min a 3 = 3 by omega]; rfl
    · rw [if_neg (li_ngt 3 a 3 rfl (by omega) (by decide)), show min a 3 = a by omega]
  generalize hq : v / 146097 = q
  generalize hr : v % 146097 = r at r1
  have hvq : v = 146097 * q + r := by omega
  have hrl : r < 146097 := by omega
  have d1 : nI r / 36524 = nI (r / 36524) := pk_div (d := 36524) (by omega) (by decide) (by decide)
  generalize hc : min (r / 36524) 3 = c
  have hc3 : c ≤ 3 := by omega
  have hcr : 36524 * c ≤ r := by omega
  have m1 : nI c * 36524 = nI (c * 36524) := pk_mul c 36524
  have s1 : nI r - nI (c * 36524) = nI (r - c * 36524) := pk_sub (by omega)
  generalize hr2 : r - c * 36524 = r2 at s1
  have hr2l : r2 < 36525 ∧ (c < 3 → r2 < 36524) := by omega
  have d2 : nI r2 / 1461 = nI (r2 / 1461) := pk_div (d := 1461) (by omega) (by decide) (by decide)
  generalize hf : r2 / 1461 = f at d2
  have m2 : nI f * 1461 = nI (f * 1461) := pk_mul f 1461
  have s2 : nI r2 - nI (f * 1461) = nI (r2 - f * 1461) := pk_sub (by omega)
  generalize hr3 : r2 - f * 1461 = r3 at s2
  have hr3l : r3 < 1461 := by omega
  have hf24 : f ≤ 24 := by omega
  have d3 : nI r3 / 365 = nI (r3 / 365) := pk_div (d := 365) (by omega) (by decide) (by decide)
  generalize hs : min (r3 / 365) 3 = s
  have hs3 : s ≤ 3 := by omega
  have hsr : 365 * s ≤ r3 := by omega
  have hsr2 : s < 3 → r3 < 365 * s + 365 := by omega
  have dq : nI v / 146097 = nI q := by rw [← hq]; exact pk_div (d := 146097) (by omega) (by decide) (by decide)
  refine ⟨q * 400 + c * 100 + f * 4 + s + 1, ?_, ?_⟩
  · have hq25 : q ≤ 24 := by omega
    have e1 : (400 * q + 100 * c + 4 * f + s) / 4 = 100 * q + 25 * c + f := by omega
    have e2 : (400 * q + 100 * c + 4 * f + s) / 100 = 4 * q + c := by omega
    have e3 : (400 * q + 100 * c + 4 * f + s) / 400 = q := by omega
    have eb : befN (q * 400 + c * 100 + f * 4 + s + 1) = 146097 * q + 36524 * c + 1461 * f + 365 * s := by
      unfold befN
      rw [show q * 400 + c * 100 + f * 4 + s + 1 - 1 = 400 * q + 100 * c + 4 * f + s by omega, e1, e2, e3]
      omega
    have hv3 : v = 146097 * q + 36524 * c + 1461 * f + r3 := by omega
    refine ⟨by omega, by omega, by rw [eb]; omega, ?_⟩
    have hb2 : befN (q * 400 + c * 100 + f * 4 + s + 1 + 1) = 365 * (400 * q + 100 * c + 4 * f + s + 1) + (400 * q + 100 * c + 4 * f + s + 1) / 4 - (400 * q + 100 * c + 4 * f + s + 1) / 100 + (400 * q + 100 * c + 4 * f + s + 1) / 400 := by
      unfold befN
      rw [show q * 400 + c * 100 + f * 4 + s + 1 + 1 - 1 = 400 * q + 100 * c + 4 * f + s + 1 by omega]
    rw [hb2]
    by_cases h3 : s < 3
    · have g1 : (400 * q + 100 * c + 4 * f + s + 1) / 4 = 100 * q + 25 * c + f := by omega
      have g2 : (400 * q + 100 * c + 4 * f + s + 1) / 100 = 4 * q + c := by omega
      have g3 : (400 * q + 100 * c + 4 * f + s + 1) / 400 = q := by omega
      rw [g1, g2, g3]
      have := hsr2 h3
      omega
    · have h33 : s = 3 := by omega
      subst h33
      have g1 : (400 * q + 100 * c + 4 * f + 3 + 1) / 4 = 100 * q + 25 * c + f + 1 := by omega
      rw [g1]
      by_cases h24 : f < 24
      · have g2 : (400 * q + 100 * c + 4 * f + 3 + 1) / 100 = 4 * q + c := by omega
        have g3 : (400 * q + 100 * c + 4 * f + 3 + 1) / 400 = q := by omega
        rw [g2, g3]
        omega
      · have hf4 : f = 24 := by omega
        subst hf4
        have g2 : (400 * q + 100 * c + 4 * 24 + 3 + 1) / 100 = 4 * q + c + 1 := by omega
        rw [g2]
        by_cases hcc : c < 3
        · have g3 : (400 * q + 100 * c + 4 * 24 + 3 + 1) / 400 = q := by omega
          rw [g3]
          have := hr2l.2 hcc
          omega
        · have hc4 : c = 3 := by omega
          subst hc4
          have g3 : (400 * q + 100 * 3 + 4 * 24 + 3 + 1) / 400 = q + 1 := by omega
          rw [g3]
          omega
  · unfold fX0_yearOf
    rw [r1, d1, mn _ M (by omega), Option.bind_some, hc]
    dsimp only
    rw [m1, s1, d2, Option.bind_some, m2, s2, Option.bind_some, d3, mn _ M (by omega), Option.bind_some, hs]
    dsimp only
    rw [dq, show nI q * 400 = nI (q * 400) from pk_mul q 400, show nI c * 100 = nI (c * 100) from pk_mul c 100, show nI f * 4 = nI (f * 4) from pk_mul f 4, nI_add, nI_add, nI_add, nI_1]
/-- so many digits of a number -/
def dgL (x : Nat) : Nat → List Int32
  | 0 => []
  | k + 1 => nI (48 + x / 10 ^ k % 10) :: dgL x k
theorem dgL_len (x k : Nat) : (dgL x k).length = k := by
  induction k with
  | zero => rfl
  | succ k ih => simp only [dgL, List.length_cons, ih]
def ptD (y mo d p : Nat) : List Int32 := if p = 2 then dgL y 4 else if p = 1 then dgL mo 2 else dgL d 2
def dayL (v : L8) (y mo d : Nat) : List Int32 := ptD y mo d (paN v.2.2.2.2.2.2.1 0) ++ (v.2.2.2.2.2.2.2 :: (ptD y mo d (paN v.2.2.2.2.2.2.1 1) ++ (v.2.2.2.2.2.2.2 :: ptD y mo d (paN v.2.2.2.2.2.2.1 2))))
theorem ptD_len (y mo d p : Nat) : (ptD y mo d p).length ≤ 4 := by
  unfold ptD
  split
  · rw [dgL_len]; omega
  · split <;> rw [dgL_len] <;> omega
section CWDAY
variable {t la : Nat} {v : L8} {M0 : Mem}
theorem cw_digits {x : Nat} (hx : x < 2 ^ 31) : ∀ (k f : Nat) (L : List Int32) (M : Mem), k < 100 → k < f → L.length + k < 100 → CW t M0 L M → ∃ M', fX4_addDigits_4 f t (nI x) (nI k + (-1)) M = some M' ∧ CW t M0 (L ++ dgL x k) M' := by
  intro k
  induction k with
  | zero =>
    intro f L M hk hf hl hc
    obtain ⟨f, rfl⟩ : ∃ g, f = g + 1 := ⟨f - 1, by omega⟩
    refine ⟨M, ?_, by rw [dgL, List.append_nil]; exact hc⟩
    rw [fX4_addDigits_4, if_pos (by decide)]
  | succ k ih =>
    intro f L M hk hf hl hc
    obtain ⟨f, rfl⟩ : ∃ g, f = g + 1 := ⟨f - 1, by omega⟩
    obtain ⟨M1, q1, q2⟩ := cw_add hc (by omega) (nI (48 + x / 10 ^ k % 10))
    obtain ⟨M', r1, r2⟩ := ih f _ M1 (by omega) (by omega) (by rw [List.length_append]; simp only [List.length_singleton]; omega) q2
    refine ⟨M', ?_, ?_⟩
    · rw [fX4_addDigits_4, pk_m1, if_neg (nI_pos (by omega)), nI_l hx, e_digit (by omega) M _ (by omega), Option.bind_some]
      dsimp only
      rw [cw_ck hc, Option.bind_some, show (48 : Int32) + nI (x / 10 ^ k % 10) = nI (48 + x / 10 ^ k % 10) from nI_add 48 _, q1, Option.bind_some, r1]
    · rw [List.append_assoc] at r2
      exact r2
theorem cw_dig {x k : Nat} (hx : x < 2 ^ 31) (hk : 1 ≤ k) (hk2 : k < 50) (L : List Int32) (M : Mem) (hl : L.length + k < 100) (hc : CW t M0 L M) : ∃ M', fX4_addDigits t (nI x) (nI k) M = some M' ∧ CW t M0 (L ++ dgL x k) M' := by
  obtain ⟨M', q1, q2⟩ := cw_digits hx k FU L M (by omega) (by unfold FU; omega) hl hc
  refine ⟨M', ?_, q2⟩
  unfold fX4_addDigits
  rw [show nI k - 1 = nI (k - 1) from pk_sub (b := 1) hk]
  rw [show k = (k - 1) + 1 by omega, pk_m1] at q1
  exact q1
theorem cw_parts {y mo r : Nat} (hy : y < 2 ^ 31) (hmo : mo < 2 ^ 31) (hr : r + 1 < 2 ^ 31) (h : LA t la v M0) (M : Mem) (hc : CW t M0 [] M) : ∃ M', fX6_writeDay_66 FU t la (nI y) (nI r) (nI mo) 0 M = some M' ∧ CW t M0 (dayL v y mo (r + 1)) M' := by
  have lc : ∀ {M : Mem} {L : List Int32}, CW t M0 L M → M.2.1 la = some (.inr (0, [.int v.1, .int v.2.1, .int v.2.2.1, .int v.2.2.2.1, .int v.2.2.2.2.1, .int v.2.2.2.2.2.1, .int v.2.2.2.2.2.2.1, .int v.2.2.2.2.2.2.2])) := fun hc => la_at h hc
  have sgd : ∀ {M : Mem} {L : List Int32}, CW t M0 L M → fX1_signOfDays la M = some (v.2.2.2.2.2.2.2, M) := by
    intro M1 L1 hc
    unfold fX1_signOfDays
    have : gI M1 0 la 7 = some v.2.2.2.2.2.2.2 := by simp [gI, gF, lc hc, vI]
    rw [this, Option.bind_some]
  have s85 : ∀ (f i : Nat) (L : List Int32) (M : Mem), i < 3 → L.length < 60 → CW t M0 L M → ∃ M', fX6_writeDay_85 (fX6_writeDay_66 f) t la (nI y) (nI r) (nI mo) (nI i) M = fX6_writeDay_66 f t la (nI y) (nI r) (nI mo) (nI (i + 1)) M' ∧ CW t M0 (L ++ ptD y mo (r + 1) (paN v.2.2.2.2.2.2.1 i)) M' := by
    intro f i L M hi hl hc
    unfold fX6_writeDay_85 fX6_writeDay_124 fX6_writeDay_128
    have hp := paN_lt v.2.2.2.2.2.2.1 hi
    rw [la_ck h hc, Option.bind_some, e_part (lc hc) hi, Option.bind_some, nI_1]
    dsimp only
    generalize paN v.2.2.2.2.2.2.1 i = p at hp
    have z2 := nI_lit (a := p) (by omega) (b := 2) (by decide) (x := 2) rfl
    have z1 := nI_lit (a := p) (by omega) (b := 1) (by decide) (x := 1) rfl
    unfold ptD
    by_cases p2 : p = 2
    · obtain ⟨M', q1, q2⟩ := cw_dig hy (k := 4) (by decide) (by decide) L M (by omega) hc
      refine ⟨M', ?_, by rw [if_pos p2]; exact q2⟩
      have q1' : fX4_addDigits t (nI y) 4 M = some M' := q1
      rw [if_pos (z2.mpr p2), cw_ck hc, Option.bind_some, q1', Option.bind_some]
    · rw [if_neg (fun q => p2 (z2.mp q)), if_neg p2]
      by_cases p1 : p = 1
      · obtain ⟨M', q1, q2⟩ := cw_dig hmo (k := 2) (by decide) (by decide) L M (by omega) hc
        refine ⟨M', ?_, by rw [if_pos p1]; exact q2⟩
        have q1' : fX4_addDigits t (nI mo) 2 M = some M' := q1
        rw [if_pos (z1.mpr p1), cw_ck hc, Option.bind_some, q1', Option.bind_some]
      · obtain ⟨M', q1, q2⟩ := cw_dig hr (k := 2) (by decide) (by decide) L M (by omega) hc
        refine ⟨M', ?_, by rw [if_neg p1]; exact q2⟩
        have q1' : fX4_addDigits t (nI (r + 1)) 2 M = some M' := q1
        rw [if_neg (fun q => p1 (z1.mp q)), nI_1, cw_ck hc, Option.bind_some, q1', Option.bind_some]
  have rnd : ∀ (f i : Nat) (L : List Int32) (M : Mem), 1 ≤ i → i < 3 → L.length < 50 → CW t M0 L M → ∃ M', fX6_writeDay_66 (f + 1) t la (nI y) (nI r) (nI mo) (nI i) M = fX6_writeDay_66 f t la (nI y) (nI r) (nI mo) (nI (i + 1)) M' ∧ CW t M0 (L ++ [v.2.2.2.2.2.2.2] ++ ptD y mo (r + 1) (paN v.2.2.2.2.2.2.1 i)) M' := by
    intro f i L M h1 hi hl hc
    obtain ⟨M1, q1, q2⟩ := cw_add hc (by omega) v.2.2.2.2.2.2.2
    obtain ⟨M', r1, r2⟩ := s85 f i _ M1 hi (by rw [List.length_append]; simp only [List.length_singleton]; omega) q2
    refine ⟨M', ?_, r2⟩
    rw [fX6_writeDay_66, if_neg (li_nge 3 i 3 rfl hi (by decide)), if_neg (li_nle 0 i 0 rfl (by omega) (by omega)), la_ck h hc, Option.bind_some, sgd hc, Option.bind_some]
    dsimp only
    rw [cw_ck hc, Option.bind_some, q1, Option.bind_some, r1]
  have hlen := fun p => ptD_len y mo (r + 1) p
  obtain ⟨M1, q1, h1⟩ := s85 99999 0 [] M (by decide) (by decide) hc
  have l0 := hlen (paN v.2.2.2.2.2.2.1 0)
  have l1 := hlen (paN v.2.2.2.2.2.2.1 1)
  obtain ⟨M2, q2, h2⟩ := rnd 99998 1 _ M1 (by decide) (by decide) (by rw [List.nil_append]; omega) h1
  obtain ⟨M3, q3, h3⟩ := rnd 99997 2 _ M2 (by decide) (by decide) (by rw [List.nil_append, List.length_append, List.length_append]; simp only [List.length_singleton]; omega) h2
  refine ⟨M3, ?_, ?_⟩
  · have e0 : fX6_writeDay_66 FU t la (nI y) (nI r) (nI mo) 0 M = fX6_writeDay_85 (fX6_writeDay_66 99999) t la (nI y) (nI r) (nI mo) 0 M := by
      show fX6_writeDay_66 (99999 + 1) t la (nI y) (nI r) (nI mo) 0 M = _
      rw [fX6_writeDay_66, if_neg (by decide), if_pos (by decide)]
    have q1' : fX6_writeDay_85 (fX6_writeDay_66 99999) t la (nI y) (nI r) (nI mo) 0 M = _ := q1
    rw [e0, q1']
    refine q2.trans (q3.trans ?_)
    rw [fX6_writeDay_66, if_pos (by decide)]
  · unfold dayL
    simp only [List.append_assoc, List.cons_append, List.nil_append] at h3 ⊢
    exact h3
theorem cw_day {x : Nat} (hx : x ≤ 3652058) (hK : LenOk M0) (h : LA t la v M0) {n0 : Nat} {L0 : Nat → Int32} (hT : TX t 100 n0 L0 M0) : ∃ y mo M', YOk x y ∧ MOk y (x - befN y) mo ∧ fX6_writeDay t la (nI x) M0 = some M' ∧ CW t M0 (dayL v y mo (x - befN y - sumN y (mo - 1) 1 + 1)) M' := by
  obtain ⟨y, hY, ey⟩ := e_yearOf hx M0
  have hY0 := hY
  obtain ⟨y1, y2, y3, y4⟩ := hY
  obtain ⟨M1, e1, t1, g1⟩ := tx_empty hT (lf [])
  have c1 : CW t M0 [] M1 := ⟨t1, g1⟩
  have loop : ∀ (d mo f r : Nat), mo + d = 12 → d < f → 1 ≤ mo → r = x - befN y - sumN y (mo - 1) 1 → sumN y (mo - 1) 1 ≤ x - befN y → ∃ mo' M', MOk y (x - befN y) mo' ∧ fX6_writeDay_22 f t la (nI y) (bI (leapN y)) (nI r) (nI mo) M0 = some M' ∧ CW t M0 (dayL v y mo' (x - befN y - sumN y (mo' - 1) 1 + 1)) M' := by
    have fin : ∀ (mo r : Nat), mo ≤ 12 → r = x - befN y - sumN y (mo - 1) 1 → ∃ M', fX6_writeDay_59 t la (nI y) (nI r) (nI mo) M0 = some M' ∧ CW t M0 (dayL v y mo (x - befN y - sumN y (mo - 1) 1 + 1)) M' := by
      intro mo r hmo hr
      obtain ⟨M', q1, q2⟩ := cw_parts (y := y) (mo := mo) (r := r) (by omega) (by omega) (by omega) h M1 c1
      refine ⟨M', ?_, by rw [hr] at q2; exact q2⟩
      unfold fX6_writeDay_59
      rw [tx_ck hT, Option.bind_some, e1, Option.bind_some]
      exact q1
    intro d
    induction d with
    | zero =>
      intro mo f r hmo hf h1 hr hle
      obtain ⟨f, rfl⟩ : ∃ g, f = g + 1 := ⟨f - 1, by omega⟩
      obtain ⟨M', q1, q2⟩ := fin mo r (by omega) hr
      refine ⟨mo, M', ⟨h1, by omega, hle, Or.inl (by omega)⟩, ?_, q2⟩
      rw [fX6_writeDay_22, if_pos (li_ge 12 mo 12 rfl (by omega) (by omega)), q1]
    | succ d ih =>
      intro mo f r hmo hf h1 hr hle
      obtain ⟨f, rfl⟩ : ∃ g, f = g + 1 := ⟨f - 1, by omega⟩
      have hl := dimN_le mo y
      have hs : sumN y mo 1 = sumN y (mo - 1) 1 + dimN mo y := by
        have := sumN_last y (mo - 1) 1
        rw [show mo - 1 + 1 = mo by omega, show 1 + (mo - 1) = mo by omega] at this
        exact this
      rw [fX6_writeDay_22, if_neg (li_nge 12 mo 12 rfl (by omega) (by decide)), e_cLen hK (by omega), Option.bind_some]
      dsimp only
      rw [if_pos (show 1 ≤ mo ∧ mo ≤ 12 by omega), ← dim_len]
      by_cases hlt : r < dimN mo y
      · rw [if_pos (nI_lt hlt (by omega))]
        obtain ⟨M', q1, q2⟩ := fin mo r (by omega) hr
        exact ⟨mo, M', ⟨h1, by omega, hle, Or.inr (by omega)⟩, q1, q2⟩
      · rw [if_neg (nI_nlt (by omega) (by omega)), e_cLen hK (by omega), Option.bind_some]
        dsimp only
        rw [if_pos (show 1 ≤ mo ∧ mo ≤ 12 by omega), ← dim_len, pk_sub (by omega), nI_1]
        exact ih (mo + 1) f (r - dimN mo y) (by omega) (by omega) (by omega) (by rw [Nat.add_sub_cancel, hs]; omega) (by rw [Nat.add_sub_cancel, hs]; omega)
  obtain ⟨mo, M', m1, m2, m3⟩ := loop 11 1 FU (x - befN y) (by omega) (by unfold FU; omega) (by decide) (by simp [sumN]) (by simp [sumN])
  refine ⟨y, mo, M', hY0, m1, ?_, m3⟩
  unfold fX6_writeDay
  rw [ey, Option.bind_some]
  dsimp only
  rw [e_cLeap (by omega), Option.bind_some]
  dsimp only
  rw [e_cBefore y1 y2, Option.bind_some]
  dsimp only
  rw [pk_sub y3]
  exact m2
end CWDAY
