/-! ===== the reference: someDay ===== -/
def firstN (P : Nat → Bool) : Nat → Nat → Nat
  | 0, _ => 0
  | d + 1, y => if P y = true then y else firstN P d (y + 1)
def dl (full : Bool) (mo : Nat) (Y : Nat → Nat) : Nat → Nat → Bool → Bool × Option Nat
  | 0, _, b => (b, none)
  | k + 1, d, b => if Y d = 0 then dl full mo Y k (d + 1) b else if full = true then (b, some (dayN d mo (Y d))) else dl full mo Y k (d + 1) true
def ml (full : Bool) (Y : Nat → Nat → Nat) (dd : Nat) : Nat → Nat → Bool → Bool × Option Nat
  | 0, _, b => (b, none)
  | k + 1, mo, b => if (dl full mo (Y mo) dd 1 b).2.isSome = true then dl full mo (Y mo) dd 1 b else ml full Y dd k (mo + 1) (dl full mo (Y mo) dd 1 b).1
/-- the year that a month and a day may have: 0 for none -/
def yr (year leap mo d : Nat) : Nat := if d ≤ dimN mo 1 then year else if d ≤ dimN mo 4 then leap else 0
def yOk (T : Nat → Int32) (year leap a b da ma n mo d : Nat) : Nat := if bgn T mo b ma n = true ∧ bgn T d a da n = true then yr year leap mo d else 0
def bI (b : Bool) : Int32 := if b = true then 1 else 0
section SOME
variable {m : Nat} {I : Nat → Int32} {A : Nat → Nat → Int32} {B : Nat → Nat → Int64} {fd : Int64} {N : Mem}
theorem e_sdD {a b n all da ma year leap mo mx : Nat} (ha : a = 1 ∨ a = 2) (hb : b = 1 ∨ b = 2) (hn : n ≤ 200) (hall : all < 100) (hda : da < 100) (hma : ma < 100) (hy : year < 10000) (hle : leap < 10000) (hmo1 : 1 ≤ mo) (hmo : mo < 100) (hmx : mx = if a = 1 then 9 else 31)
    (k261 : Nat → Int32 → Int32 → Int32 → Int32 → Int32 → Int32 → Int32 → Int32 → Int32 → Int32 → Mem → Option (Int32 × Mem)) :
    ∀ (k d f : Nat) (bs : Bool), d + k = mx + 1 → 1 ≤ d → k < f → fX8_someDay_281 k261 f m (nI a) (nI b) (nI n) (nI all) (nI da) (nI ma) (nI year) (nI leap) (bI bs) (nI mo) (nI d) (mm m I A B fd N) =
      if (dl (decide (n = all)) mo (yOk (A 19) year leap a b da ma n mo) k d bs).2.isSome = true then some (2, mm m I A B (lN ((dl (decide (n = all)) mo (yOk (A 19) year leap a b da ma n mo) k d bs).2.getD 0)) N)
      else k261 m (nI a) (nI b) (nI n) (nI all) (nI da) (nI ma) (nI year) (nI leap) (bI (dl (decide (n = all)) mo (yOk (A 19) year leap a b da ma n mo) k d bs).1) (nI mo + 1) (mm m I A B fd N) := by
  intro k
  have hmx40 : mx < 40 := by rw [hmx]; split <;> omega
  induction k with
  | zero =>
    intro d f bs hd hd1 hf
    obtain ⟨f, rfl⟩ : ∃ g, f = g + 1 := ⟨f - 1, by omega⟩
    have h295 : fX8_someDay_281 k261 (f + 1) m (nI a) (nI b) (nI n) (nI all) (nI da) (nI ma) (nI year) (nI leap) (bI bs) (nI mo) (nI d) (mm m I A B fd N) = fX8_someDay_295 k261 (fX8_someDay_281 k261 f) m (nI a) (nI b) (nI n) (nI all) (nI da) (nI ma) (nI year) (nI leap) (bI bs) (nI mo) (nI d) (nI mx) (nI d) (mm m I A B fd N) := by
      rw [fX8_someDay_281]
      rcases ha with rfl | rfl
      · rw [if_pos (by decide)]
        simp only [if_true] at hmx
        subst hmx
        rfl
      · rw [if_neg (by decide)]
        subst hmx
        rfl
    rw [h295]
    unfold fX8_someDay_295
    rw [if_pos (nI_lt (by omega) (by omega))]
    simp [dl]
  | succ k ih =>
    intro d f bs hd hd1 hf
    obtain ⟨f, rfl⟩ : ∃ g, f = g + 1 := ⟨f - 1, by omega⟩
    have h295 : fX8_someDay_281 k261 (f + 1) m (nI a) (nI b) (nI n) (nI all) (nI da) (nI ma) (nI year) (nI leap) (bI bs) (nI mo) (nI d) (mm m I A B fd N) = fX8_someDay_295 k261 (fX8_someDay_281 k261 f) m (nI a) (nI b) (nI n) (nI all) (nI da) (nI ma) (nI year) (nI leap) (bI bs) (nI mo) (nI d) (nI mx) (nI d) (mm m I A B fd N) := by
      rw [fX8_someDay_281]
      rcases ha with rfl | rfl
      · rw [if_pos (by decide)]
        simp only [if_true] at hmx
        subst hmx
        rfl
      · rw [if_neg (by decide)]
        subst hmx
        rfl
    rw [h295]
    unfold fX8_someDay_295
    rw [if_neg (nI_nlt (by omega) (by omega))]
    have hd1' := dimN_le mo 1
    have hd4' := dimN_le mo 4
    have e1 := e_daysOf (m := mo) (y := 1) (by omega) (by decide) (mm m I A B fd N)
    have e4 := e_daysOf (m := mo) (y := 4) (by omega) (by decide) (mm m I A B fd N)
    rw [show nI 1 = 1 from rfl] at e1
    rw [show nI 4 = 4 from rfl] at e4
    -- the year taken
    have key : ∀ y : Nat, y < 10000 → yr year leap mo d = y → fX8_someDay_331 k261 (fX8_someDay_281 k261 f) m (nI a) (nI b) (nI n) (nI all) (nI da) (nI ma) (nI year) (nI leap) (bI bs) (nI mo) (nI d) (nI y) (mm m I A B fd N) =
        if (dl (decide (n = all)) mo (yOk (A 19) year leap a b da ma n mo) (k + 1) d bs).2.isSome = true then some (2, mm m I A B (lN ((dl (decide (n = all)) mo (yOk (A 19) year leap a b da ma n mo) (k + 1) d bs).2.getD 0)) N)
        else k261 m (nI a) (nI b) (nI n) (nI all) (nI da) (nI ma) (nI year) (nI leap) (bI (dl (decide (n = all)) mo (yOk (A 19) year leap a b da ma n mo) (k + 1) d bs).1) (nI mo + 1) (mm m I A B fd N) := by
      intro y hy1 hyr
      have hskip : yOk (A 19) year leap a b da ma n mo d = 0 → fX8_someDay_394 k261 (fX8_someDay_281 k261 f) m (nI a) (nI b) (nI n) (nI all) (nI da) (nI ma) (nI year) (nI leap) (bI bs) (nI mo) (nI d) (mm m I A B fd N) =
          if (dl (decide (n = all)) mo (yOk (A 19) year leap a b da ma n mo) (k + 1) d bs).2.isSome = true then some (2, mm m I A B (lN ((dl (decide (n = all)) mo (yOk (A 19) year leap a b da ma n mo) (k + 1) d bs).2.getD 0)) N)
          else k261 m (nI a) (nI b) (nI n) (nI all) (nI da) (nI ma) (nI year) (nI leap) (bI (dl (decide (n = all)) mo (yOk (A 19) year leap a b da ma n mo) (k + 1) d bs).1) (nI mo + 1) (mm m I A B fd N) := by
        intro h0
        unfold fX8_someDay_394
        rw [nI_1, ih (d + 1) f bs (by omega) (by omega) (by omega)]
        simp only [dl, h0, if_true]
      unfold fX8_someDay_331
      by_cases h0 : y = 0
      · rw [if_pos ((nI_z (by omega)).mpr h0)]
        refine hskip ?_
        unfold yOk
        split
        · omega
        · rfl
      · rw [if_neg (fun q => h0 ((nI_z (by omega)).mp q)), mm_ck, Option.bind_some, e_begins (by omega) (by omega) hma hn, Option.bind_some]
        by_cases hbm : bgn (A 19) mo b ma n = true
        · rw [hbm]
          simp only [if_true]
          rw [if_neg (by decide), mm_ck, Option.bind_some, e_begins (by omega) (by omega) hda hn, Option.bind_some]
          by_cases hbd : bgn (A 19) d a da n = true
          · rw [hbd]
            simp only [if_true]
            rw [if_neg (by decide)]
            have hyo : yOk (A 19) year leap a b da ma n mo d = y := by
              unfold yOk
              rw [if_pos ⟨hbm, hbd⟩, hyr]
            by_cases hna : n = all
            · rw [if_pos ((nI_eq (by omega) (by omega)).mpr hna), e_dayNumber hd1 (by omega) hmo1 (by omega) (by omega) (by omega), Option.bind_some]
              have hdl : dl (decide (n = all)) mo (yOk (A 19) year leap a b da ma n mo) (k + 1) d bs = (bs, some (dayN d mo y)) := by
                rw [dl, hyo, if_neg h0, if_pos (decide_eq_true hna)]
              rw [hdl, mm_pL24, Option.bind_some]
              rfl
            · rw [if_neg (fun q => hna ((nI_eq (by omega) (by omega)).mp q))]
              unfold fX8_someDay_394
              have := ih (d + 1) f true (by omega) (by omega) (by omega)
              rw [show bI true = 1 from rfl] at this
              rw [nI_1, this]
              simp only [dl, hyo, h0, if_false, hna, decide_false, Bool.false_eq_true]
          · rw [if_neg hbd]
            rw [if_pos rfl]
            exact hskip (by unfold yOk; rw [if_neg (fun q => hbd q.2)])
        · rw [if_neg hbm]
          rw [if_pos rfl]
          exact hskip (by unfold yOk; rw [if_neg (fun q => hbm q.1)])
    rw [e1, Option.bind_some]
    by_cases h1 : d ≤ dimN mo 1
    · rw [if_neg (nI_nlt h1 (by omega))]
      exact key year hy (by unfold yr; rw [if_pos h1])
    · rw [if_pos (nI_lt (by omega) (by omega)), e4, Option.bind_some]
      by_cases h4 : d ≤ dimN mo 4
      · rw [if_neg (nI_nlt h4 (by omega))]
        exact key leap hle (by unfold yr; rw [if_neg h1, if_pos h4])
      · rw [if_pos (nI_lt (by omega) (by omega))]
        exact key 0 (by omega) (by unfold yr; rw [if_neg h1, if_neg h4])
theorem e_sdM {a b n all da ma year leap : Nat} (ha : a = 1 ∨ a = 2) (hb : b = 1 ∨ b = 2) (hn : n ≤ 200) (hall : all < 100) (hda : da < 100) (hma : ma < 100) (hy : year < 10000) (hle : leap < 10000) :
    ∀ (k mo f : Nat) (bs : Bool), mo + k = (if b = 1 then 9 else 12) + 1 → 1 ≤ mo → k < f → fX8_someDay_261 f m (nI a) (nI b) (nI n) (nI all) (nI da) (nI ma) (nI year) (nI leap) (bI bs) (nI mo) (mm m I A B fd N) =
      some (if (ml (decide (n = all)) (yOk (A 19) year leap a b da ma n) (if a = 1 then 9 else 31) k mo bs).2.isSome = true then 2 else bI (ml (decide (n = all)) (yOk (A 19) year leap a b da ma n) (if a = 1 then 9 else 31) k mo bs).1, mm m I A B (((ml (decide (n = all)) (yOk (A 19) year leap a b da ma n) (if a = 1 then 9 else 31) k mo bs).2.map lN).getD fd) N) := by
  intro k
  have hcase : ∀ (f mo : Nat) (bs : Bool), fX8_someDay_261 (f + 1) m (nI a) (nI b) (nI n) (nI all) (nI da) (nI ma) (nI year) (nI leap) (bI bs) (nI mo) (mm m I A B fd N) = fX8_someDay_275 (fX8_someDay_261 f) m (nI a) (nI b) (nI n) (nI all) (nI da) (nI ma) (nI year) (nI leap) (bI bs) (nI mo) (nI (if b = 1 then 9 else 12)) (nI mo) (mm m I A B fd N) := by
    intro f mo bs
    rw [fX8_someDay_261]
    rcases hb with rfl | rfl
    · rw [if_pos (by decide)]
      rfl
    · rw [if_neg (by decide)]
      rfl
  have hmx : (if b = 1 then 9 else 12) < 20 := by split <;> omega
  have hdx : (if a = 1 then 9 else 31) < 40 := by split <;> omega
  induction k with
  | zero =>
    intro mo f bs hmo hmo1 hf
    obtain ⟨f, rfl⟩ : ∃ g, f = g + 1 := ⟨f - 1, by omega⟩
    rw [hcase]
    unfold fX8_someDay_275
    rw [if_pos (nI_lt (by omega) (by omega))]
    simp [ml]
  | succ k ih =>
    intro mo f bs hmo hmo1 hf
    obtain ⟨f, rfl⟩ : ∃ g, f = g + 1 := ⟨f - 1, by omega⟩
    rw [hcase]
    unfold fX8_someDay_275
    rw [if_neg (nI_nlt (by omega) (by omega))]
    have h := e_sdD (m := m) (I := I) (A := A) (B := B) (fd := fd) (N := N) ha hb hn hall hda hma hy hle hmo1 (show mo < 100 by omega) rfl (fX8_someDay_261 f) (if a = 1 then 9 else 31) 1 FU bs (by omega) (by omega) (by unfold FU; omega)
    rw [show nI 1 = 1 from rfl] at h
    rw [h]
    by_cases hs : (dl (decide (n = all)) mo (yOk (A 19) year leap a b da ma n mo) (if a = 1 then 9 else 31) 1 bs).2.isSome = true
    · have hml : ml (decide (n = all)) (yOk (A 19) year leap a b da ma n) (if a = 1 then 9 else 31) (k + 1) mo bs = dl (decide (n = all)) mo (yOk (A 19) year leap a b da ma n mo) (if a = 1 then 9 else 31) 1 bs := by
        rw [ml, if_pos hs]
      rw [if_pos hs, hml]
      cases ho : (dl (decide (n = all)) mo (yOk (A 19) year leap a b da ma n mo) (if a = 1 then 9 else 31) 1 bs).2 with
      | none => rw [ho] at hs; cases hs
      | some v => rfl
    · have hml : ml (decide (n = all)) (yOk (A 19) year leap a b da ma n) (if a = 1 then 9 else 31) (k + 1) mo bs = ml (decide (n = all)) (yOk (A 19) year leap a b da ma n) (if a = 1 then 9 else 31) k (mo + 1) (dl (decide (n = all)) mo (yOk (A 19) year leap a b da ma n mo) (if a = 1 then 9 else 31) 1 bs).1 := by
        rw [ml, if_neg hs]
      rw [if_neg hs, nI_1, ih (mo + 1) f _ (by omega) (by omega) (by omega), hml]
theorem firstN_lt (P : Nat → Bool) (d y : Nat) : firstN P d y < y + d + 1 := by
  induction d generalizing y with
  | zero => simp [firstN]
  | succ d ih =>
    have := ih (y + 1)
    simp only [firstN]
    split <;> omega
theorem e_sdY {a b n all ya da ma : Nat} (ha : a = 1 ∨ a = 2) (hb : b = 1 ∨ b = 2) (hn : n ≤ 200) (hall : all < 100) (hya : ya < 100) (hda : da < 100) (hma : ma < 100) :
    ∀ (k y f year leap : Nat), y + k = 10000 → 1 ≤ y → k < f → year < 10000 → leap < 10000 → fX8_someDay_191 f m (nI a) (nI b) (nI n) (nI all) (nI ya) (nI da) (nI ma) (nI year) (nI leap) (nI y) (mm m I A B fd N) =
      fX8_someDay_261 FU m (nI a) (nI b) (nI n) (nI all) (nI da) (nI ma) (nI (if year = 0 then firstN (fun y => bgn (A 19) y 4 ya n) k y else year)) (nI (if leap = 0 then firstN (fun y => bgn (A 19) y 4 ya n && leapN y) k y else leap)) 0 1 (mm m I A B fd N) := by
  intro k
  induction k with
  | zero =>
    intro y f year leap hy hy1 hf hye hle
    obtain ⟨f, rfl⟩ : ∃ g, f = g + 1 := ⟨f - 1, by omega⟩
    rw [fX8_someDay_191, if_pos (show (9999 : Int32) < nI y from nI_lt (a := 9999) (by omega) (by omega))]
    simp only [firstN]
    by_cases h1 : year = 0 <;> by_cases h2 : leap = 0 <;> simp [h1, h2]
  | succ k ih =>
    intro y f year leap hy hy1 hf hye hle
    obtain ⟨f, rfl⟩ : ∃ g, f = g + 1 := ⟨f - 1, by omega⟩
    rw [fX8_someDay_191, if_neg (show ¬ (9999 : Int32) < nI y from nI_nlt (a := 9999) (by omega) (by decide)), mm_ck, Option.bind_some]
    have hbg := e_begins (m := m) (I := I) (A := A) (B := B) (fd := fd) (N := N) (v := y) (dg := 4) (at_ := ya) (n := n) (by omega) (by omega) hya hn
    rw [show nI 4 = 4 from rfl] at hbg
    rw [hbg, Option.bind_some]
    simp only [firstN]
    by_cases hbn : bgn (A 19) y 4 ya n = true
    · simp only [hbn, if_true, Bool.true_and]
      rw [if_neg (by decide)]
      have step : ∀ yv : Nat, yv < 10000 → yv ≠ 0 → fX8_someDay_225 (fX8_someDay_191 f) m (nI a) (nI b) (nI n) (nI all) (nI ya) (nI da) (nI ma) (nI leap) (nI y) (nI yv) (mm m I A B fd N) = fX8_someDay_261 FU m (nI a) (nI b) (nI n) (nI all) (nI da) (nI ma) (nI yv) (nI (if leap = 0 then (if leapN y = true then y else firstN (fun y => bgn (A 19) y 4 ya n && leapN y) k (y + 1)) else leap)) 0 1 (mm m I A B fd N) := by
        intro yv hyv hyv0
        unfold fX8_someDay_225 fX8_someDay_245 fX8_someDay_247 fX8_someDay_249
        by_cases hl0 : leap = 0
        · rw [if_pos ((nI_z (by omega)).mpr hl0), e_isLeap (by omega), Option.bind_some]
          by_cases hlp : leapN y = true
          · simp only [hlp, if_true]
            rw [if_neg (by decide), nI_1, ih (y + 1) f yv y (by omega) (by omega) (by omega) hyv (by omega)]
            simp [hyv0, hl0, show ¬ y = 0 by omega]
          · rw [if_neg hlp]
            rw [if_pos rfl, nI_1, ih (y + 1) f yv leap (by omega) (by omega) (by omega) hyv hle]
            simp [hyv0, hl0, hlp]
        · rw [if_neg (fun q => hl0 ((nI_z (by omega)).mp q)), nI_1, ih (y + 1) f yv leap (by omega) (by omega) (by omega) hyv hle]
          simp [hyv0, hl0]
      by_cases hy0 : year = 0
      · rw [if_pos ((nI_z (by omega)).mpr hy0), if_pos hy0]
        exact step y (by omega) (by omega)
      · rw [if_neg (fun q => hy0 ((nI_z (by omega)).mp q)), if_neg hy0]
        exact step year hye hy0
    · rw [if_neg hbn]
      rw [if_pos rfl]
      unfold fX8_someDay_249
      rw [nI_1, ih (y + 1) f year leap (by omega) (by omega) (by omega) hye hle]
      simp [hbn]
/-- the reference's reading of a day in one of its spellings: a digits of the day, b of the month -/
def sd (T : Nat → Int32) (o sg : Int32) (a b n : Nat) : Bool × Option Nat :=
  let ya := if o = 2 then 0 else a + b + 2
  let da := if o = 0 then 0 else if o = 1 then b + 1 else b + 6
  let ma := if o = 0 then a + 1 else if o = 1 then 0 else 5
  let one := if o = 2 then 4 else if o = 0 then a else b
  let two := if o = 2 then b + 5 else a + b + 1
  if n ≤ a + b + 6 ∧ (n ≤ one ∨ T one = sg) ∧ (n ≤ two ∨ T two = sg) then
    ml (decide (n = a + b + 6)) (yOk T (firstN (fun y => bgn T y 4 ya n) 9999 1) (firstN (fun y => bgn T y 4 ya n && leapN y) 9999 1) a b da ma n) (if a = 1 then 9 else 31) (if b = 1 then 9 else 12) 1 false
  else (false, none)
theorem e_sd147 {l a b n ya da ma one two : Nat} (hl : l < 24) (ha : a = 1 ∨ a = 2) (hb : b = 1 ∨ b = 2) (hn : n ≤ 200) (hya : ya < 100) (hda : da < 100) (hma : ma < 100) (h1 : one < 100) (h2 : two < 100) (q : Bool × Option Nat) (hq : q = if n ≤ a + b + 6 ∧ (n ≤ one ∨ A 19 one = A 9 l) ∧ (n ≤ two ∨ A 19 two = A 9 l) then
    ml (decide (n = a + b + 6)) (yOk (A 19) (firstN (fun y => bgn (A 19) y 4 ya n) 9999 1) (firstN (fun y => bgn (A 19) y 4 ya n && leapN y) 9999 1) a b da ma n) (if a = 1 then 9 else 31) (if b = 1 then 9 else 12) 1 false
  else (false, none)) : fX8_someDay_147 m (nI l) (nI a) (nI b) (nI n) (nI (a + b + 6)) (nI ya) (nI da) (nI ma) (nI one) (nI two) (mm m I A B fd N) = some (if q.2.isSome = true then 2 else bI q.1, mm m I A B ((q.2.map lN).getD fd) N) := by
  unfold fX8_someDay_147 fX8_someDay_180
  by_cases hna : n ≤ a + b + 6
  · rw [if_neg (nI_nlt hna (by omega)), mm_ck, Option.bind_some, e_isSign hl h1 hn, Option.bind_some]
    by_cases s1 : n ≤ one ∨ A 19 one = A 9 l
    · simp only [s1, if_true]
      rw [if_neg (by decide), mm_ck, Option.bind_some, e_isSign hl h2 hn, Option.bind_some]
      by_cases s2 : n ≤ two ∨ A 19 two = A 9 l
      · simp only [s2, if_true]
        rw [if_neg (by decide)]
        rw [if_pos ⟨hna, s1, s2⟩] at hq
        have hy := e_sdY (m := m) (I := I) (A := A) (B := B) (fd := fd) (N := N) ha hb hn (show a + b + 6 < 100 by omega) hya hda hma 9999 1 FU 0 0 (by omega) (by omega) (by unfold FU; omega) (by omega) (by omega)
        rw [show nI 0 = 0 from rfl, show nI 1 = 1 from rfl] at hy
        rw [hy]
        simp only [if_true]
        have l1 := firstN_lt (fun y => bgn (A 19) y 4 ya n) 9999 1
        have l2 := firstN_lt (fun y => bgn (A 19) y 4 ya n && leapN y) 9999 1
        have f1 : ∀ (P : Nat → Bool) (d y : Nat), firstN P d y < y + d ∨ d = 0 := by
          intro P d
          induction d with
          | zero => intro y; exact Or.inr rfl
          | succ d ih =>
            intro y
            refine Or.inl ?_
            simp only [firstN]
            split
            · omega
            · rcases ih (y + 1) with h | h
              · omega
              · subst h
                simp [firstN]
        have g1 := f1 (fun y => bgn (A 19) y 4 ya n) 9999 1
        have g2 := f1 (fun y => bgn (A 19) y 4 ya n && leapN y) 9999 1
        have hm := e_sdM (m := m) (I := I) (A := A) (B := B) (fd := fd) (N := N) ha hb hn (show a + b + 6 < 100 by omega) hda hma (show firstN (fun y => bgn (A 19) y 4 ya n) 9999 1 < 10000 by omega) (show firstN (fun y => bgn (A 19) y 4 ya n && leapN y) 9999 1 < 10000 by omega) (if b = 1 then 9 else 12) 1 FU false (by omega) (by omega) (by unfold FU; split <;> omega)
        rw [show nI 1 = 1 from rfl, show bI false = 0 from rfl] at hm
        rw [hm, ← hq]
      · rw [if_neg s2]
        rw [if_pos rfl]
        rw [if_neg (fun h => s2 h.2.2)] at hq
        subst hq
        rfl
    · rw [if_neg s1]
      rw [if_pos rfl]
      rw [if_neg (fun h => s1 h.2.1)] at hq
      subst hq
      rfl
  · rw [if_pos (nI_lt (by omega) (by omega))]
    rw [if_neg (fun h => hna h.1)] at hq
    subst hq
    rfl
theorem e_someDay {l a b n : Nat} (hl : l < 24) (ha : a = 1 ∨ a = 2) (hb : b = 1 ∨ b = 2) (hn : n ≤ 200) : fX8_someDay m (nI l) (nI a) (nI b) (nI n) (mm m I A B fd N) = some (if (sd (A 19) (A 8 l) (A 9 l) a b n).2.isSome = true then 2 else bI (sd (A 19) (A 8 l) (A 9 l) a b n).1, mm m I A B (((sd (A 19) (A 8 l) (A 9 l) a b n).2.map lN).getD fd) N) := by
  have h8 : aI (mm m I A B fd N) (m + 8) (nI l) = some (A 8 l) := by
    rw [mm_aI8, if_pos (inr_nI hl (by decide)), nI_clamp (by omega)]
  have p6 : nI a + nI b + 6 = nI (a + b + 6) := by rw [nI_add]; exact nI_add (a + b) 6
  have p2 : nI a + nI b + 2 = nI (a + b + 2) := by rw [nI_add]; exact nI_add (a + b) 2
  have p1 : nI a + nI b + 1 = nI (a + b + 1) := by rw [nI_add]; exact nI_add (a + b) 1
  have b5 : nI b + 5 = nI (b + 5) := nI_add b 5
  have b6 : nI b + 6 = nI (b + 6) := nI_add b 6
  have b1 : nI b + 1 = nI (b + 1) := nI_add b 1
  have a1 : nI a + 1 = nI (a + 1) := nI_add a 1
  unfold fX8_someDay fX8_someDay_27 fX8_someDay_62 fX8_someDay_94 fX8_someDay_124
  simp only [mm_gN8, h8, Option.bind_some, p6, p2, p1, b5, b6, b1, a1]
  by_cases h2 : A 8 l = 2
  · have n0 : ¬ A 8 l = 0 := by rw [h2]; decide
    have n1 : ¬ A 8 l = 1 := by rw [h2]; decide
    simp only [h2, if_true, if_neg (show ¬ (2 : Int32) = 0 by decide), if_neg (show ¬ (2 : Int32) = 1 by decide)]
    exact e_sd147 (ya := 0) (da := b + 6) (ma := 5) (one := 4) (two := b + 5) hl ha hb hn (by omega) (by omega) (by omega) (by omega) (by omega) _ rfl
  · by_cases h0 : A 8 l = 0
    · simp only [h0, if_true, if_neg (show ¬ (0 : Int32) = 2 by decide)]
      exact e_sd147 (ya := a + b + 2) (da := 0) (ma := a + 1) (one := a) (two := a + b + 1) hl ha hb hn (by omega) (by omega) (by omega) (by omega) (by omega) _ (by unfold sd; simp)
    · by_cases h1 : A 8 l = 1
      · simp only [h1, if_true, if_neg (show ¬ (1 : Int32) = 2 by decide), if_neg (show ¬ (1 : Int32) = 0 by decide)]
        exact e_sd147 (ya := a + b + 2) (da := b + 1) (ma := 0) (one := b) (two := a + b + 1) hl ha hb hn (by omega) (by omega) (by omega) (by omega) (by omega) _ (by unfold sd; simp)
      · simp only [h2, h0, h1, if_false]
        exact e_sd147 (ya := a + b + 2) (da := b + 6) (ma := 5) (one := b) (two := a + b + 1) hl ha hb hn (by omega) (by omega) (by omega) (by omega) (by omega) _ (by unfold sd; simp [h2, h0, h1])
end SOME
