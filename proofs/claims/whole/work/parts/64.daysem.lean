/-! ===== days: the reference's search finds what the class finds ===== -/
section DLOOP
theorem firstN_spec (P : Nat → Bool) : ∀ (d y : Nat), 1 ≤ y → (firstN P d y = 0 ∧ ∀ v, y ≤ v → v < y + d → P v = false) ∨ (y ≤ firstN P d y ∧ firstN P d y < y + d ∧ P (firstN P d y) = true) := by
  intro d
  induction d with
  | zero => exact fun y _ => Or.inl ⟨rfl, fun v h1 h2 => by omega⟩
  | succ d ih =>
    intro y hy
    rw [firstN]
    by_cases h : P y = true
    · rw [if_pos h]; exact Or.inr ⟨by omega, by omega, h⟩
    · rw [if_neg h]
      rcases ih (y + 1) (by omega) with ⟨h1, h2⟩ | ⟨h1, h2, h3⟩
      · refine Or.inl ⟨h1, fun v hv1 hv2 => ?_⟩
        by_cases he : v = y
        · subst he; exact Bool.eq_false_iff.mpr h
        · exact h2 v (by omega) (by omega)
      · exact Or.inr ⟨by omega, by omega, h3⟩
theorem dl_t (mo : Nat) (Y : Nat → Nat) : ∀ (k d : Nat) (b : Bool), (∃ d', d ≤ d' ∧ d' < d + k ∧ ¬ Y d' = 0 ∧ dl true mo Y k d b = (b, some (dayN d' mo (Y d')))) ∨ ((∀ d', d ≤ d' → d' < d + k → Y d' = 0) ∧ dl true mo Y k d b = (b, none)) := by
  intro k
  induction k with
  | zero => exact fun d b => Or.inr ⟨fun d' h1 h2 => by omega, rfl⟩
  | succ k ih =>
    intro d b
    rw [dl]
    by_cases h : Y d = 0
    · rw [if_pos h]
      rcases ih (d + 1) b with ⟨d', h1, h2, h3, h4⟩ | ⟨h1, h2⟩
      · exact Or.inl ⟨d', by omega, by omega, h3, h4⟩
      · refine Or.inr ⟨fun d' g1 g2 => ?_, h2⟩
        by_cases he : d' = d
        · rw [he]; exact h
        · exact h1 d' (by omega) (by omega)
    · rw [if_neg h, if_pos rfl]
      exact Or.inl ⟨d, by omega, by omega, h, rfl⟩
theorem dl_f (mo : Nat) (Y : Nat → Nat) : ∀ (k d : Nat) (b : Bool), (dl false mo Y k d b).2 = none ∧ ((dl false mo Y k d b).1 = true ↔ b = true ∨ ∃ d', d ≤ d' ∧ d' < d + k ∧ ¬ Y d' = 0) := by
  intro k
  induction k with
  | zero =>
    intro d b
    refine ⟨rfl, Or.inl, fun h => h.elim id (fun ⟨d', h1, h2, _⟩ => by omega)⟩
  | succ k ih =>
    intro d b
    rw [dl]
    by_cases h : Y d = 0
    · rw [if_pos h]
      obtain ⟨h1, h2⟩ := ih (d + 1) b
      refine ⟨h1, h2.trans ⟨fun q => ?_, fun q => ?_⟩⟩
      · rcases q with q | ⟨d', g1, g2, g3⟩
        · exact Or.inl q
        · exact Or.inr ⟨d', by omega, by omega, g3⟩
      · rcases q with q | ⟨d', g1, g2, g3⟩
        · exact Or.inl q
        · refine Or.inr ⟨d', ?_, by omega, g3⟩
          by_cases he : d' = d
          · rw [he] at g3; exact absurd h g3
          · omega
    · rw [if_neg h, if_neg (by decide)]
      obtain ⟨h1, h2⟩ := ih (d + 1) true
      exact ⟨h1, h2.trans ⟨fun _ => Or.inr ⟨d, by omega, by omega, h⟩, fun _ => Or.inl rfl⟩⟩
theorem ml_t (Y : Nat → Nat → Nat) (dd : Nat) : ∀ (k mo : Nat) (b : Bool), (∃ m d, mo ≤ m ∧ m < mo + k ∧ 1 ≤ d ∧ d < 1 + dd ∧ ¬ Y m d = 0 ∧ (ml true Y dd k mo b).2 = some (dayN d m (Y m d))) ∨ ((∀ m d, mo ≤ m → m < mo + k → 1 ≤ d → d < 1 + dd → Y m d = 0) ∧ ml true Y dd k mo b = (b, none)) := by
  intro k
  induction k with
  | zero => exact fun mo b => Or.inr ⟨fun m d h1 h2 => by omega, rfl⟩
  | succ k ih =>
    intro mo b
    rw [ml]
    rcases dl_t mo (Y mo) dd 1 b with ⟨d', h1, h2, h3, h4⟩ | ⟨h1, h2⟩
    · rw [h4, if_pos (show ((b, some (dayN d' mo (Y mo d'))) : Bool × Option Nat).2.isSome = true from rfl)]
      exact Or.inl ⟨mo, d', by omega, by omega, h1, h2, h3, rfl⟩
    · rw [h2, if_neg (by simp)]
      rcases ih (mo + 1) b with ⟨m, d, g1, g2, g3, g4, g5, g6⟩ | ⟨g1, g2⟩
      · exact Or.inl ⟨m, d, by omega, by omega, g3, g4, g5, g6⟩
      · refine Or.inr ⟨fun m d q1 q2 q3 q4 => ?_, g2⟩
        by_cases he : m = mo
        · rw [he]; exact h1 d q3 q4
        · exact g1 m d (by omega) (by omega) q3 q4
theorem ml_f (Y : Nat → Nat → Nat) (dd : Nat) : ∀ (k mo : Nat) (b : Bool), (ml false Y dd k mo b).2 = none ∧ ((ml false Y dd k mo b).1 = true ↔ b = true ∨ ∃ m d, mo ≤ m ∧ m < mo + k ∧ 1 ≤ d ∧ d < 1 + dd ∧ ¬ Y m d = 0) := by
  intro k
  induction k with
  | zero =>
    intro mo b
    refine ⟨rfl, Or.inl, fun h => h.elim id (fun ⟨m, d, h1, h2, _⟩ => by omega)⟩
  | succ k ih =>
    intro mo b
    obtain ⟨h1, h2⟩ := dl_f mo (Y mo) dd 1 b
    rw [ml, h1, if_neg (by simp)]
    obtain ⟨g1, g2⟩ := ih (mo + 1) (dl false mo (Y mo) dd 1 b).1
    refine ⟨g1, g2.trans ?_⟩
    rw [h2]
    constructor
    · rintro ((q | ⟨d, q1, q2, q3⟩) | ⟨m, d, q1, q2, q3, q4, q5⟩)
      · exact Or.inl q
      · exact Or.inr ⟨mo, d, by omega, by omega, q1, q2, q3⟩
      · exact Or.inr ⟨m, d, by omega, by omega, q3, q4, q5⟩
    · rintro (q | ⟨m, d, q1, q2, q3, q4, q5⟩)
      · exact Or.inl (Or.inl q)
      · by_cases he : m = mo
        · rw [he] at q5; exact Or.inl (Or.inr ⟨d, q3, q4, q5⟩)
        · exact Or.inr ⟨m, d, by omega, by omega, q3, q4, q5⟩
end DLOOP
/-- full findings and beginnings of a search -/
def PP (F : Nat → Prop) (C : Prop) (q : Bool × Option Nat) : Prop := (∃ v, F v ∧ q.2 = some v) ∨ ((∀ v, ¬ F v) ∧ q.2 = none ∧ (q.1 = true ↔ C))
theorem PP.merge {F1 F2 : Nat → Prop} {C1 C2 : Prop} {q r : Bool × Option Nat} (h1 : PP F1 C1 q) (h2 : PP F2 C2 r) : PP (fun v => F1 v ∨ F2 v) (C1 ∨ C2) (hd2 q r) := by
  unfold hd2
  rcases h1 with ⟨v, f, e⟩ | ⟨f, e, c⟩
  · rw [e, if_pos (show (some v).isSome = true from rfl)]
    exact Or.inl ⟨v, Or.inl f, e⟩
  · rw [e, if_neg (by simp)]
    rcases h2 with ⟨v, f2, e2⟩ | ⟨f2, e2, c2⟩
    · exact Or.inl ⟨v, Or.inr f2, e2⟩
    · refine Or.inr ⟨fun v hv => hv.elim (f v) (f2 v), e2, ?_⟩
      show (q.1 || r.1) = true ↔ _
      rw [Bool.or_eq_true, c, c2]
theorem PP.congr {F1 F2 : Nat → Prop} {C1 C2 : Prop} {q : Bool × Option Nat} (h : PP F1 C1 q) (hF : ∀ v, F1 v ↔ F2 v) (hC : C1 ↔ C2) : PP F2 C2 q := by
  rcases h with ⟨v, f, e⟩ | ⟨f, e, c⟩
  · exact Or.inl ⟨v, (hF v).mp f, e⟩
  · exact Or.inr ⟨fun v hv => f v ((hF v).mpr hv), e, c.trans hC⟩
theorem dim_leap (m y : Nat) : dimN m 1 ≤ dimN m y ∧ dimN m y ≤ dimN m 4 := by
  have h1 : leapN 1 = false := by decide
  have h4 : leapN 4 = true := by decide
  unfold dimN
  rw [h1, h4]
  split
  · cases leapN y <;> simp
  · exact ⟨Nat.le_refl _, Nat.le_refl _⟩
def w3 (a b c : Nat) : Nat → Nat := fun p => if p = 0 then a else if p = 1 then b else c
section DSEM
variable {T : Nat → Int32} {n : Nat} {sg : Int32}
/-- the year that the reference takes for a month and a day -/
theorem yOk_ne {a b da ma ya mo d : Nat} : (¬ yOk T (firstN (fun y => bgn T y 4 ya n) 9999 1) (firstN (fun y => bgn T y 4 ya n && leapN y) 9999 1) a b da ma n mo d = 0 → (let y := yOk T (firstN (fun y => bgn T y 4 ya n) 9999 1) (firstN (fun y => bgn T y 4 ya n && leapN y) 9999 1) a b da ma n mo d
    1 ≤ y ∧ y ≤ 9999 ∧ d ≤ dimN mo y ∧ bgn T y 4 ya n = true ∧ bgn T mo b ma n = true ∧ bgn T d a da n = true)) ∧
    (∀ y, 1 ≤ y → y ≤ 9999 → d ≤ dimN mo y → bgn T y 4 ya n = true → bgn T mo b ma n = true → bgn T d a da n = true → ¬ yOk T (firstN (fun y => bgn T y 4 ya n) 9999 1) (firstN (fun y => bgn T y 4 ya n && leapN y) 9999 1) a b da ma n mo d = 0) := by
  have f1 := firstN_spec (fun y => bgn T y 4 ya n) 9999 1 (by decide)
  have f2 := firstN_spec (fun y => bgn T y 4 ya n && leapN y) 9999 1 (by decide)
  generalize firstN (fun y => bgn T y 4 ya n) 9999 1 = y1 at f1 ⊢
  generalize firstN (fun y => bgn T y 4 ya n && leapN y) 9999 1 = y2 at f2 ⊢
  constructor
  · intro hne
    show 1 ≤ yOk T y1 y2 a b da ma n mo d ∧ _
    unfold yOk at hne ⊢
    by_cases hb : bgn T mo b ma n = true ∧ bgn T d a da n = true
    · rw [if_pos hb] at hne ⊢
      unfold yr at hne ⊢
      by_cases h1 : d ≤ dimN mo 1
      · rw [if_pos h1] at hne ⊢
        rcases f1 with ⟨f1, -⟩ | ⟨g1, g2, g3⟩
        · exact absurd f1 hne
        · exact ⟨g1, by omega, Nat.le_trans h1 (dim_leap mo y1).1, g3, hb⟩
      · rw [if_neg h1] at hne ⊢
        by_cases h4 : d ≤ dimN mo 4
        · rw [if_pos h4] at hne ⊢
          rcases f2 with ⟨f2, -⟩ | ⟨g1, g2, g3⟩
          · exact absurd f2 hne
          · have g3 := Bool.and_eq_true_iff.mp g3
            refine ⟨g1, by omega, ?_, g3.1, hb⟩
            have e : dimN mo y2 = dimN mo 4 := by
              unfold dimN
              rw [g3.2, show leapN 4 = true by decide]
            rw [e]; exact h4
        · rw [if_neg h4] at hne; exact absurd rfl hne
    · rw [if_neg hb] at hne; exact absurd rfl hne
  · intro y y1' y2' hd by_ bm bd
    unfold yOk
    rw [if_pos ⟨bm, bd⟩]
    unfold yr
    by_cases h1 : d ≤ dimN mo 1
    · rw [if_pos h1]
      rcases f1 with ⟨-, f1⟩ | ⟨g1, g2, g3⟩
      · have := f1 y y1' (by omega)
        rw [by_] at this
        cases this
      · omega
    · rw [if_neg h1, if_pos (Nat.le_trans hd (dim_leap mo y).2)]
      have hl : leapN y = true := by
        rcases hb : leapN y with _ | _
        · exfalso
          apply h1
          have e : dimN mo y = dimN mo 1 := by
            unfold dimN
            rw [hb, show leapN 1 = false by decide]
          rw [← e]; exact hd
        · rfl
      rcases f2 with ⟨-, f2⟩ | ⟨g1, g2, g3⟩
      · have := f2 y y1' (by omega)
        rw [by_, hl] at this
        cases this
      · omega
def dayC (T : Nat → Int32) (n : Nat) (sg : Int32) (p1 p2 p3 : Nat) (w x : Nat → Nat) : Prop := okD w x ∧ CD T n sg p1 p2 p3 w x ∧ isDayN (x 2) (x 1) (x 0) = true
/-- one spelling -/
theorem sd_pp {o : Int32} {p1 p2 p3 : Nat} (ho : (o = 0 ∧ p1 = 0 ∧ p2 = 1 ∧ p3 = 2) ∨ (o = 1 ∧ p1 = 1 ∧ p2 = 0 ∧ p3 = 2) ∨ (o = 2 ∧ p1 = 2 ∧ p2 = 1 ∧ p3 = 0)) {a b : Nat} (ha : a = 1 ∨ a = 2) (hb : b = 1 ∨ b = 2) :
    PP (fun v => ∃ w x, dayC T n sg p1 p2 p3 w x ∧ (w 0 = a ∧ w 1 = b) ∧ n = w 0 + w 1 + w 2 + 2 ∧ v = dayN (x 0) (x 1) (x 2)) (∃ w x, dayC T n sg p1 p2 p3 w x ∧ (w 0 = a ∧ w 1 = b)) (sd T o sg a b n) := by
  -- the places as the reference counts them
  have key : ∀ y m d : Nat, (n ≤ a + b + 6 ∧ (n ≤ (if o = 2 then 4 else if o = 0 then a else b) ∨ T (if o = 2 then 4 else if o = 0 then a else b) = sg) ∧ (n ≤ (if o = 2 then b + 5 else a + b + 1) ∨ T (if o = 2 then b + 5 else a + b + 1) = sg)) ∧ bgn T y 4 (if o = 2 then 0 else a + b + 2) n = true ∧ bgn T m b (if o = 0 then a + 1 else if o = 1 then 0 else 5) n = true ∧ bgn T d a (if o = 0 then 0 else if o = 1 then b + 1 else b + 6) n = true ↔ CD T n sg p1 p2 p3 (w3 a b 4) (w3 d m y) := by
    intro y m d
    unfold CD
    rcases ho with ⟨rfl, rfl, rfl, rfl⟩ | ⟨rfl, rfl, rfl, rfl⟩ | ⟨rfl, rfl, rfl, rfl⟩
    · simp only [w3, show ¬ (0 : Int32) = 2 by decide, if_true, if_false, show ¬ (1 : Nat) = 0 by decide, show ¬ (2 : Nat) = 0 by decide, show ¬ (2 : Nat) = 1 by decide]
      rw [show a + b + 4 + 2 = a + b + 6 by omega]
      exact ⟨fun ⟨⟨h1, h2, h3⟩, h4, h5, h6⟩ => ⟨h1, h6, h2, h5, h3, h4⟩, fun ⟨h1, h6, h2, h5, h3, h4⟩ => ⟨⟨h1, h2, h3⟩, h4, h5, h6⟩⟩
    · simp only [w3, show ¬ (1 : Int32) = 2 by decide, show ¬ (1 : Int32) = 0 by decide, if_true, if_false, show ¬ (1 : Nat) = 0 by decide, show ¬ (2 : Nat) = 0 by decide, show ¬ (2 : Nat) = 1 by decide]
      rw [show b + a + 4 + 2 = a + b + 6 by omega, show b + a + 1 = a + b + 1 by omega, show b + a + 2 = a + b + 2 by omega]
      exact ⟨fun ⟨⟨h1, h2, h3⟩, h4, h5, h6⟩ => ⟨h1, h5, h2, h6, h3, h4⟩, fun ⟨h1, h5, h2, h6, h3, h4⟩ => ⟨⟨h1, h2, h3⟩, h4, h5, h6⟩⟩
    · simp only [w3, show ¬ (2 : Int32) = 1 by decide, show ¬ (2 : Int32) = 0 by decide, if_true, if_false, show ¬ (1 : Nat) = 0 by decide, show ¬ (2 : Nat) = 0 by decide, show ¬ (2 : Nat) = 1 by decide]
      rw [show 4 + b + a + 2 = a + b + 6 by omega, show 4 + b + 1 = b + 5 by omega, show 4 + b + 2 = b + 6 by omega]
      exact ⟨fun ⟨⟨h1, h2, h3⟩, h4, h5, h6⟩ => ⟨h1, h4, h2, h5, h3, h6⟩, fun ⟨h1, h4, h2, h5, h3, h6⟩ => ⟨⟨h1, h2, h3⟩, h4, h5, h6⟩⟩
  have cong : ∀ w x : Nat → Nat, okD w x → w 0 = a → w 1 = b → (CD T n sg p1 p2 p3 w x ↔ CD T n sg p1 p2 p3 (w3 a b 4) (w3 (x 0) (x 1) (x 2))) := by
    intro w x hok h0 h1
    have h2 : w 2 = 4 := by
      have := hok 2 (by decide)
      simp [mnN, mxN] at this
      omega
    have e0 : w3 a b 4 0 = w 0 := h0.symm
    have e1 : w3 a b 4 1 = w 1 := h1.symm
    have e2 : w3 a b 4 2 = w 2 := h2.symm
    unfold CD
    rcases ho with ⟨-, rfl, rfl, rfl⟩ | ⟨-, rfl, rfl, rfl⟩ | ⟨-, rfl, rfl, rfl⟩ <;> rw [e0, e1, e2] <;> exact Iff.rfl
  have okw : ∀ y m d : Nat, 1 ≤ y → y ≤ 9999 → 1 ≤ m → m < 1 + (if b = 1 then 9 else 12) → 1 ≤ d → d < 1 + (if a = 1 then 9 else 31) → okD (w3 a b 4) (w3 d m y) := by
    intro y m d y1 y2 m1 m2 d1 d2 p hp
    rcases (show p = 0 ∨ p = 1 ∨ p = 2 by omega) with rfl | rfl | rfl
    · show mnN 0 ≤ a ∧ a ≤ mxN 0 ∧ d < 10 ^ a
      rcases ha with rfl | rfl
      · simp at d2; exact ⟨by decide, by decide, by omega⟩
      · simp at d2; exact ⟨by decide, by decide, by omega⟩
    · show mnN 1 ≤ b ∧ b ≤ mxN 1 ∧ m < 10 ^ b
      rcases hb with rfl | rfl
      · simp at m2; exact ⟨by decide, by decide, by omega⟩
      · simp at m2; exact ⟨by decide, by decide, by omega⟩
    · show mnN 2 ≤ 4 ∧ 4 ≤ mxN 2 ∧ y < 10 ^ 4
      exact ⟨by decide, by decide, by omega⟩
  have dayw : ∀ y m d : Nat, 1 ≤ y → y ≤ 9999 → 1 ≤ m → m < 1 + (if b = 1 then 9 else 12) → 1 ≤ d → d ≤ dimN m y → isDayN y m d = true := by
    intro y m d y1 y2 m1 m2 d1 d2
    simp only [isDayN, decide_eq_true_eq]
    refine ⟨y1, y2, d1, ⟨m1, ?_⟩, d2⟩
    split at m2 <;> omega
  -- what a candidate gives back
  have back : ∀ w x, dayC T n sg p1 p2 p3 w x → w 0 = a → w 1 = b → (n ≤ a + b + 6 ∧ (n ≤ (if o = 2 then 4 else if o = 0 then a else b) ∨ T (if o = 2 then 4 else if o = 0 then a else b) = sg) ∧ (n ≤ (if o = 2 then b + 5 else a + b + 1) ∨ T (if o = 2 then b + 5 else a + b + 1) = sg)) ∧ (1 ≤ x 1 ∧ x 1 < 1 + (if b = 1 then 9 else 12) ∧ 1 ≤ x 0 ∧ x 0 < 1 + (if a = 1 then 9 else 31)) ∧ (1 ≤ x 2 ∧ x 2 ≤ 9999 ∧ x 0 ≤ dimN (x 1) (x 2)) ∧ bgn T (x 2) 4 (if o = 2 then 0 else a + b + 2) n = true ∧ bgn T (x 1) b (if o = 0 then a + 1 else if o = 1 then 0 else 5) n = true ∧ bgn T (x 0) a (if o = 0 then 0 else if o = 1 then b + 1 else b + 6) n = true := by
    rintro w x ⟨hok, hC, hD⟩ h0 h1
    have hk := (key (x 2) (x 1) (x 0)).mpr ((cong w x hok h0 h1).mp hC)
    simp only [isDayN, decide_eq_true_eq] at hD
    obtain ⟨q1, q2, q3, q4, q5⟩ := hD
    have := dimN_le (x 1) (x 2)
    have x0 := (hok 0 (by decide)).2.2
    have x1 := (hok 1 (by decide)).2.2
    rw [h0] at x0
    rw [h1] at x1
    refine ⟨hk.1, ⟨q4.1, ?_, q3, ?_⟩, ⟨q1, q2, q5⟩, hk.2⟩
    · rcases hb with rfl | rfl
      · simp at x1 ⊢; omega
      · simp; omega
    · rcases ha with rfl | rfl
      · simp at x0 ⊢; omega
      · simp; omega
  unfold sd
  dsimp only
  by_cases hc : n ≤ a + b + 6 ∧ (n ≤ (if o = 2 then 4 else if o = 0 then a else b) ∨ T (if o = 2 then 4 else if o = 0 then a else b) = sg) ∧ (n ≤ (if o = 2 then b + 5 else a + b + 1) ∨ T (if o = 2 then b + 5 else a + b + 1) = sg)
  · rw [if_pos hc]
    have hy := fun m d => yOk_ne (T := T) (n := n) (a := a) (b := b) (ya := if o = 2 then 0 else a + b + 2) (ma := if o = 0 then a + 1 else if o = 1 then 0 else 5) (da := if o = 0 then 0 else if o = 1 then b + 1 else b + 6) (mo := m) (d := d)
    generalize hY : yOk T (firstN (fun y => bgn T y 4 (if o = 2 then 0 else a + b + 2) n) 9999 1) (firstN (fun y => bgn T y 4 (if o = 2 then 0 else a + b + 2) n && leapN y) 9999 1) a b (if o = 0 then 0 else if o = 1 then b + 1 else b + 6) (if o = 0 then a + 1 else if o = 1 then 0 else 5) n = Y at hy ⊢
    have fwd : ∀ m d, 1 ≤ m → m < 1 + (if b = 1 then 9 else 12) → 1 ≤ d → d < 1 + (if a = 1 then 9 else 31) → ¬ Y m d = 0 → dayC T n sg p1 p2 p3 (w3 a b 4) (w3 d m (Y m d)) := by
      intro m d m1 m2 d1 d2 hne
      obtain ⟨g1, g2, g3, g4, g5, g6⟩ := (hy m d).1 hne
      exact ⟨okw _ m d g1 g2 m1 m2 d1 d2, (key _ m d).mp ⟨hc, g4, g5, g6⟩, dayw _ m d g1 g2 m1 m2 d1 g3⟩
    by_cases hn : n = a + b + 6
    · rw [decide_eq_true hn]
      rcases ml_t Y (if a = 1 then 9 else 31) (if b = 1 then 9 else 12) 1 false with ⟨m, d, g1, g2, g3, g4, g5, g6⟩ | ⟨g1, g2⟩
      · exact Or.inl ⟨_, ⟨_, _, fwd m d g1 g2 g3 g4 g5, ⟨rfl, rfl⟩, by show n = a + b + 4 + 2; omega, rfl⟩, g6⟩
      · rw [g2]
        have no : ∀ w x, dayC T n sg p1 p2 p3 w x → w 0 = a → w 1 = b → False := by
          intro w x hw h0 h1
          obtain ⟨-, ⟨r1, r2, r3, r4⟩, ⟨r5, r6, r7⟩, r8, r9, r10⟩ := back w x hw h0 h1
          exact (hy (x 1) (x 0)).2 (x 2) r5 r6 r7 r8 r9 r10 (g1 (x 1) (x 0) r1 r2 r3 r4)
        exact Or.inr ⟨fun v ⟨w, x, q1, q2, _⟩ => no w x q1 q2.1 q2.2, rfl, ⟨fun q => (by cases q), fun ⟨w, x, q1, q2⟩ => (no w x q1 q2.1 q2.2).elim⟩⟩
    · rw [decide_eq_false hn]
      obtain ⟨g1, g2⟩ := ml_f Y (if a = 1 then 9 else 31) (if b = 1 then 9 else 12) 1 false
      refine Or.inr ⟨?_, g1, g2.trans ⟨?_, ?_⟩⟩
      · rintro v ⟨w, x, ⟨hok, -⟩, q2, q3, -⟩
        have h2 : w 2 = 4 := by
          have := hok 2 (by decide)
          simp [mnN, mxN] at this
          omega
        omega
      · rintro (q | ⟨m, d, q1, q2, q3, q4, q5⟩)
        · cases q
        · exact ⟨_, _, fwd m d q1 q2 q3 q4 q5, rfl, rfl⟩
      · rintro ⟨w, x, hw, h0, h1⟩
        obtain ⟨-, ⟨r1, r2, r3, r4⟩, ⟨r5, r6, r7⟩, r8, r9, r10⟩ := back w x hw h0 h1
        exact Or.inr ⟨x 1, x 0, r1, r2, r3, r4, (hy (x 1) (x 0)).2 (x 2) r5 r6 r7 r8 r9 r10⟩
  · rw [if_neg hc]
    exact Or.inr ⟨fun v ⟨w, x, q1, q2, _⟩ => hc (back w x q1 q2.1 q2.2).1, rfl, ⟨fun q => (by cases q), fun ⟨w, x, q1, q2⟩ => (hc (back w x q1 q2.1 q2.2).1).elim⟩⟩
theorem hday_pp {o : Int32} {p1 p2 p3 : Nat} (ho : (o = 0 ∧ p1 = 0 ∧ p2 = 1 ∧ p3 = 2) ∨ (o = 1 ∧ p1 = 1 ∧ p2 = 0 ∧ p3 = 2) ∨ (o = 2 ∧ p1 = 2 ∧ p2 = 1 ∧ p3 = 0)) :
    PP (fun v => ∃ w x, dayC T n sg p1 p2 p3 w x ∧ n = w 0 + w 1 + w 2 + 2 ∧ v = dayN (x 0) (x 1) (x 2)) (∃ w x, dayC T n sg p1 p2 p3 w x) (hday T o sg n) := by
  have w12 : ∀ w x, okD w x → (w 0 = 1 ∨ w 0 = 2) ∧ (w 1 = 1 ∨ w 1 = 2) := by
    intro w x hok
    have h0 := hok 0 (by decide)
    have h1 := hok 1 (by decide)
    simp [mnN, mxN] at h0 h1
    omega
  unfold hday
  refine PP.congr ((((sd_pp ho (Or.inl rfl) (Or.inl rfl)).merge (sd_pp ho (Or.inl rfl) (Or.inr rfl))).merge (sd_pp ho (Or.inr rfl) (Or.inl rfl))).merge (sd_pp ho (Or.inr rfl) (Or.inr rfl))) (fun v => ?_) ?_
  · constructor
    · rintro (((⟨w, x, q1, -, q3⟩ | ⟨w, x, q1, -, q3⟩) | ⟨w, x, q1, -, q3⟩) | ⟨w, x, q1, -, q3⟩) <;> exact ⟨w, x, q1, q3⟩
    · rintro ⟨w, x, q1, q3⟩
      rcases w12 w x q1.1 with ⟨h0 | h0, h1 | h1⟩
      · exact Or.inl (Or.inl (Or.inl ⟨w, x, q1, ⟨h0, h1⟩, q3⟩))
      · exact Or.inl (Or.inl (Or.inr ⟨w, x, q1, ⟨h0, h1⟩, q3⟩))
      · exact Or.inl (Or.inr ⟨w, x, q1, ⟨h0, h1⟩, q3⟩)
      · exact Or.inr ⟨w, x, q1, ⟨h0, h1⟩, q3⟩
  · constructor
    · rintro (((⟨w, x, q1, -⟩ | ⟨w, x, q1, -⟩) | ⟨w, x, q1, -⟩) | ⟨w, x, q1, -⟩) <;> exact ⟨w, x, q1⟩
    · rintro ⟨w, x, q1⟩
      rcases w12 w x q1.1 with ⟨h0 | h0, h1 | h1⟩
      · exact Or.inl (Or.inl (Or.inl ⟨w, x, q1, h0, h1⟩))
      · exact Or.inl (Or.inl (Or.inr ⟨w, x, q1, h0, h1⟩))
      · exact Or.inl (Or.inr ⟨w, x, q1, h0, h1⟩)
      · exact Or.inr ⟨w, x, q1, h0, h1⟩
end DSEM
