/-! ===== days: could it still be a day? ===== -/
theorem anyN_iff (Q : Nat → Bool) : ∀ (d k : Nat), anyN Q d k = true ↔ ∃ j, k ≤ j ∧ j < k + d ∧ Q j = true := by
  intro d
  induction d with
  | zero => exact fun k => ⟨fun h => (by cases h), fun ⟨j, h1, h2, _⟩ => by omega⟩
  | succ d ih =>
    intro k
    rw [anyN, Bool.or_eq_true, ih]
    constructor
    · rintro (h | ⟨j, h1, h2, h3⟩)
      · exact ⟨k, by omega, by omega, h⟩
      · exact ⟨j, by omega, by omega, h3⟩
    · rintro ⟨j, h1, h2, h3⟩
      by_cases he : j = k
      · subst he; exact Or.inl h3
      · exact Or.inr ⟨j, by omega, by omega, h3⟩
/-- a leap year that begins with the digits typed -/
theorem leap_beg {c u : Nat} (hc : c < 4) (hu : u < 10 ^ c) : ∃ y, 1 ≤ y ∧ y ≤ 9999 ∧ y / 10 ^ (4 - c) = u ∧ leapN y = true := by
  rcases (show c = 0 ∨ c = 1 ∨ c = 2 ∨ c = 3 by omega) with rfl | rfl | rfl | rfl
  · refine ⟨4, by decide, by decide, ?_, by decide⟩
    simp at hu ⊢
    omega
  · simp at hu
    refine ⟨1000 * u + 4, by omega, by omega, ?_, ?_⟩
    · simp; omega
    · simp only [leapN, decide_eq_true_eq]; omega
  · simp at hu
    refine ⟨100 * u + 4, by omega, by omega, ?_, ?_⟩
    · simp; omega
    · simp only [leapN, decide_eq_true_eq]; omega
  · simp at hu
    by_cases he : u % 2 = 0
    · refine ⟨10 * u + 4, by omega, by omega, ?_, ?_⟩
      · simp; omega
      · simp only [leapN, decide_eq_true_eq]; omega
    · refine ⟨10 * u + 2, by omega, by omega, ?_, ?_⟩
      · simp; omega
      · simp only [leapN, decide_eq_true_eq]; omega
theorem lenN_mono (m : Nat) (b : Bool) : lenN m b ≤ lenN m true := by
  unfold lenN
  split
  · cases b <;> simp
  · exact Nat.le_refl _
theorem could_iff {c u : Nat → Nat} {g : Nat} (hg : g < 3) (hcu : ∀ p, p < 3 → c p ≤ mxN p ∧ u p < 10 ^ c p) (hst : ∀ p, p < 3 → p = g ∨ c p = 0 ∨ mnN p ≤ c p) : couldN c u (nI g) = true ↔ ∃ w x, okD w x ∧ (∀ p, p < 3 → cmpD c u g w x p) ∧ isDayN (x 2) (x 1) (x 0) = true := by
  obtain ⟨c0, u0⟩ := hcu 0 (by decide)
  obtain ⟨c1, u1⟩ := hcu 1 (by decide)
  obtain ⟨c2, u2⟩ := hcu 2 (by decide)
  have s0 := hst 0 (by decide)
  have s1 := hst 1 (by decide)
  have s2 := hst 2 (by decide)
  simp [mxN] at c0 c1 c2
  simp [mnN] at s0 s1 s2
  have g0 : nI g = 0 ↔ g = 0 := nI_z (by omega)
  have g1 : nI g = 1 ↔ g = 1 := nI_lit (by omega) (b := 1) (by decide) rfl
  have z : ∀ p, p < 3 → c p = 0 → u p = 0 := by
    intro p hp h
    have := (hcu p hp).2
    rw [h] at this
    omega
  unfold couldN
  rw [Bool.and_eq_true, anyN_iff]
  constructor
  · rintro ⟨hy, mo, m1, m2, hQ⟩
    have hy : ¬ (c 2 = 4 ∧ u 2 = 0) := by
      rw [Bool.not_eq_true', decide_eq_false_iff_not] at hy
      exact hy
    unfold cdQ at hQ
    rw [Bool.and_eq_true] at hQ
    obtain ⟨hm, hl⟩ := hQ
    simp only [cbm, decide_eq_true_eq, g1] at hm
    simp only [decide_eq_true_eq] at hl
    -- the year
    have hyear : ∃ y, 1 ≤ y ∧ y ≤ 9999 ∧ (if 2 = g ∨ c 2 = 0 then (c 2 ≤ 4 ∧ y / 10 ^ (4 - c 2) = u 2) else (4 = c 2 ∧ y = u 2)) ∧ lenN mo (lpN c u) ≤ lenN mo (leapN y) := by
      by_cases h4 : c 2 = 4
      · refine ⟨u 2, ?_, ?_, ?_, ?_⟩
        · rcases Nat.eq_zero_or_pos (u 2) with q | q
          · exact absurd ⟨h4, q⟩ hy
          · exact q
        · rw [h4] at u2; omega
        · rw [h4]
          split
          · exact ⟨by omega, by simp⟩
          · exact ⟨rfl, rfl⟩
        · simp [lpN, h4]
      · obtain ⟨y, q1, q2, q3, q4⟩ := leap_beg (c := c 2) (u := u 2) (by omega) u2
        refine ⟨y, q1, q2, ?_, ?_⟩
        · rw [if_pos (by omega)]
          exact ⟨by omega, q3⟩
        · rw [q4]; exact lenN_mono _ _
    obtain ⟨y, y1, y2, y3, y4⟩ := hyear
    -- the month
    have hmonth : ∃ w, (w = 1 ∨ w = 2) ∧ mo < 10 ^ w ∧ (if 1 = g ∨ c 1 = 0 then (c 1 ≤ w ∧ mo / 10 ^ (w - c 1) = u 1) else (w = c 1 ∧ mo = u 1)) := by
      by_cases h0 : c 1 = 0
      · refine ⟨2, Or.inr rfl, by omega, ?_⟩
        rw [if_pos (Or.inr h0), h0, z 1 (by decide) h0]
        simp
        omega
      · rcases hm with q | q | ⟨q1, q2, q3⟩
        · exact absurd q h0
        · refine ⟨c 1, by omega, by rw [q]; exact u1, ?_⟩
          split
          · exact ⟨Nat.le_refl _, by simp [q]⟩
          · exact ⟨rfl, q⟩
        · refine ⟨2, Or.inr rfl, by omega, ?_⟩
          rw [if_pos (Or.inl q2.symm), q1]
          exact ⟨by decide, by simpa using q3⟩
    obtain ⟨w1, a1, a2, a3⟩ := hmonth
    -- the day
    have hday : ∃ w d, (w = 1 ∨ w = 2) ∧ d < 10 ^ w ∧ (if 0 = g ∨ c 0 = 0 then (c 0 ≤ w ∧ d / 10 ^ (w - c 0) = u 0) else (w = c 0 ∧ d = u 0)) ∧ 1 ≤ d ∧ d ≤ ldN c u (nI g) := by
      unfold ldN at hl ⊢
      simp only [g0] at hl ⊢
      by_cases h0 : c 0 = 0
      · refine ⟨2, 1, Or.inr rfl, by decide, ?_, Nat.le_refl _, ?_⟩
        · rw [if_pos (Or.inr h0), h0, z 0 (by decide) h0]; decide
        · rw [if_pos (Or.inl h0)]; omega
      · by_cases hgz : c 0 = 1 ∧ g = 0
        · by_cases hu0 : u 0 = 0
          · refine ⟨2, 1, Or.inr rfl, by decide, ?_, Nat.le_refl _, ?_⟩
            · rw [if_pos (Or.inl hgz.2.symm), hgz.1, hu0]; decide
            · rw [if_pos (Or.inr hgz)]; omega
          · refine ⟨1, u 0, Or.inl rfl, by rw [hgz.1] at u0; exact u0, ?_, by omega, ?_⟩
            · rw [if_pos (Or.inl hgz.2.symm), hgz.1]; exact ⟨Nat.le_refl _, by simp⟩
            · rw [if_pos (Or.inr hgz)]; omega
        · rw [if_neg (fun q => q.elim h0 hgz)] at hl ⊢
          refine ⟨c 0, u 0, by omega, u0, ?_, by omega, Nat.le_refl _⟩
          split
          · exact ⟨Nat.le_refl _, by simp⟩
          · exact ⟨rfl, rfl⟩
    obtain ⟨w0, d, b1, b2, b3, b4, b5⟩ := hday
    refine ⟨w3 w0 w1 4, w3 d mo y, ?_, ?_, ?_⟩
    · intro p hp
      rcases (show p = 0 ∨ p = 1 ∨ p = 2 by omega) with rfl | rfl | rfl
      · show 1 ≤ w0 ∧ w0 ≤ 2 ∧ d < 10 ^ w0
        exact ⟨by omega, by omega, b2⟩
      · show 1 ≤ w1 ∧ w1 ≤ 2 ∧ mo < 10 ^ w1
        exact ⟨by omega, by omega, a2⟩
      · show 4 ≤ 4 ∧ 4 ≤ 4 ∧ y < 10 ^ 4
        exact ⟨by decide, by decide, by omega⟩
    · intro p hp
      rcases (show p = 0 ∨ p = 1 ∨ p = 2 by omega) with rfl | rfl | rfl
      · exact b3
      · exact a3
      · exact y3
    · show isDayN y mo d = true
      unfold isDayN
      rw [dim_len]
      exact decide_eq_true ⟨y1, y2, b4, ⟨m1, by omega⟩, by omega⟩
  · rintro ⟨w, x, hok, hc, hD⟩
    simp only [isDayN, decide_eq_true_eq] at hD
    obtain ⟨q1, q2, q3, q4, q5⟩ := hD
    have k0 := hc 0 (by decide)
    have k1 := hc 1 (by decide)
    have k2 := hc 2 (by decide)
    have o0 := hok 0 (by decide)
    have o1 := hok 1 (by decide)
    have o2 := hok 2 (by decide)
    simp [mnN, mxN] at o0 o1 o2
    have ow2 : w 2 = 4 := by omega
    unfold cmpD at k0 k1 k2
    have hx2 : c 2 = 4 → x 2 = u 2 := by
      intro h4
      rw [ow2, h4] at k2
      split at k2
      · simpa using k2.2
      · exact k2.2
    refine ⟨?_, x 1, q4.1, by omega, ?_⟩
    · have : ¬ (c 2 = 4 ∧ u 2 = 0) := fun q => by have := hx2 q.1; omega
      rw [Bool.not_eq_true', decide_eq_false_iff_not]
      exact this
    · unfold cdQ
      rw [Bool.and_eq_true]
      constructor
      · simp only [cbm, decide_eq_true_eq, g1]
        by_cases h0 : c 1 = 0
        · exact Or.inl h0
        · by_cases hgg : 1 = g
          · rw [if_pos (Or.inl hgg)] at k1
            rcases (show w 1 = c 1 ∨ (c 1 = 1 ∧ w 1 = 2) by omega) with h | h
            · rw [h] at k1
              right; left
              simpa using k1.2
            · rw [h.1, h.2] at k1
              right; right
              exact ⟨h.1, hgg.symm, by simpa using k1.2⟩
          · rw [if_neg (fun q => q.elim hgg h0)] at k1
            exact Or.inr (Or.inl k1.2)
      · simp only [decide_eq_true_eq]
        have hld : 1 ≤ ldN c u (nI g) ∧ ldN c u (nI g) ≤ x 0 := by
          unfold ldN
          simp only [g0]
          by_cases h0 : c 0 = 0
          · rw [if_pos (Or.inl h0), z 0 (by decide) h0]
            exact ⟨by omega, by omega⟩
          · by_cases hgz : c 0 = 1 ∧ g = 0
            · rw [if_pos (Or.inr hgz)]
              rw [if_pos (Or.inl hgz.2.symm), hgz.1] at k0
              rcases (show w 0 = 1 ∨ w 0 = 2 by omega) with h | h
              · rw [h] at k0
                have : x 0 = u 0 := by simpa using k0.2
                omega
              · rw [h] at k0
                have : x 0 / 10 = u 0 := by simpa using k0.2
                omega
            · rw [if_neg (fun q => q.elim h0 hgz)]
              by_cases hgg : 0 = g
              · rw [if_pos (Or.inl hgg)] at k0
                have hw : w 0 = c 0 := by
                  have : ¬ c 0 = 1 := fun q => hgz ⟨q, hgg.symm⟩
                  omega
                rw [hw] at k0
                have : x 0 = u 0 := by simpa using k0.2
                omega
              · rw [if_neg (fun q => q.elim hgg h0)] at k0
                omega
        refine ⟨hld.1, Nat.le_trans hld.2 (Nat.le_trans q5 ?_)⟩
        rw [dim_len]
        unfold lpN
        by_cases h4 : c 2 = 4
        · rw [hx2 h4]
          simp [h4]
        · simp [h4]
          exact lenN_mono _ _
/-- the class's day and the reference's agree -/
theorem day_same {T : Nat → Int32} {n : Nat} {o sg : Int32} (ho : o = 0 ∨ o = 1 ∨ o = 2) (hsg : digB sg = false) (s0 : Ds) (hs0 : s0.2.2.2 = (0, 0, 0)) (hR0 : Rp s0 (fun _ => 0) (fun _ => 0)) (S : Ds) (hS : S = dayS T n o sg s0) (fo : Int64) :
    ∃ c u, Rep S c u ∧ (((endS c u S).2.2.2.2.1 = 0 ∧ (hday T o sg n).2.map lN = some (endF c u S fo)) ∨ ((endS c u S).2.2.2.2.1 = 1 ∧ hday T o sg n = (true, none)) ∨ ((endS c u S).2.2.2.2.1 = 2 ∧ hday T o sg n = (false, none))) := by
  have main : ∀ p1 p2 p3 : Nat, ((o = 0 ∧ p1 = 0 ∧ p2 = 1 ∧ p3 = 2) ∨ (o = 1 ∧ p1 = 1 ∧ p2 = 0 ∧ p3 = 2) ∨ (o = 2 ∧ p1 = 2 ∧ p2 = 1 ∧ p3 = 0)) → paN o 0 = p1 → paN o 1 = p2 → paN o 2 = p3 → ∃ c u, Rep S c u ∧ (((endS c u S).2.2.2.2.1 = 0 ∧ (hday T o sg n).2.map lN = some (endF c u S fo)) ∨ ((endS c u S).2.2.2.2.1 = 1 ∧ hday T o sg n = (true, none)) ∨ ((endS c u S).2.2.2.2.1 = 2 ∧ hday T o sg n = (false, none))) := by
    intro p1 p2 p3 hp e0 e1 e2
    unfold dayS at hS
    rw [e0, e1, e2] at hS
    have hb : p1 < 3 ∧ p2 < 3 ∧ p3 < 3 ∧ p1 ≠ p2 ∧ p1 ≠ p3 ∧ p2 ≠ p3 := by
      rcases hp with ⟨-, rfl, rfl, rfl⟩ | ⟨-, rfl, rfl, rfl⟩ | ⟨-, rfl, rfl, rfl⟩ <;> decide
    have hsum : ∀ w : Nat → Nat, w p1 + w p2 + w p3 + 2 = w 0 + w 1 + w 2 + 2 := by
      intro w
      rcases hp with ⟨-, rfl, rfl, rfl⟩ | ⟨-, rfl, rfl, rfl⟩ | ⟨-, rfl, rfl, rfl⟩ <;> omega
    obtain ⟨c, u, hR, hcu, hcase⟩ := day_parse hsg hb.1 hb.2.1 hb.2.2.1 hb.2.2.2.1 hb.2.2.2.2.1 hb.2.2.2.2.2 s0 hs0 hR0 S hS
    have hRep : Rep S c u := by
      intro p hp3
      obtain ⟨h1, h2⟩ := hcu p hp3
      have h1' : c p ≤ 4 := by unfold mxN at h1; split at h1 <;> omega
      refine ⟨(hR p hp3).1, (hR p hp3).2, Nat.lt_of_lt_of_le h2 ?_, h1'⟩
      exact Nat.le_trans (Nat.pow_le_pow_right (by decide) h1') (by decide)
    have hH := hday_pp (T := T) (n := n) (sg := sg) hp
    refine ⟨c, u, hRep, ?_⟩
    unfold endS endF
    -- no full finding, and no beginning or some
    have fin0 : (∀ w x, ¬ dayC T n sg p1 p2 p3 w x) → hday T o sg n = (false, none) := by
      intro hno
      rcases hH with ⟨v, ⟨w, x, q, -⟩, -⟩ | ⟨-, h2, h3⟩
      · exact absurd q (hno w x)
      · refine Prod.ext ?_ h2
        rcases hb1 : (hday T o sg n).1 with _ | _
        · rfl
        · obtain ⟨w, x, q⟩ := h3.mp hb1
          exact absurd q (hno w x)
    have fin1 : (∃ w x, dayC T n sg p1 p2 p3 w x) → (∀ w x, dayC T n sg p1 p2 p3 w x → ¬ n = w 0 + w 1 + w 2 + 2) → hday T o sg n = (true, none) := by
      intro hy hno
      rcases hH with ⟨v, ⟨w, x, q, q2, -⟩, -⟩ | ⟨-, h2, h3⟩
      · exact absurd q2 (hno w x q)
      · exact Prod.ext (h3.mpr hy) h2
    rcases hcase with ⟨hst, hno⟩ | ⟨g, hg, hgr, hiff, hmin, hcase⟩
    · have h0 : ¬ (S.2.2.2.2.1 = 0 ∧ isDayN (u 2) (u 1) (u 0) = true) := fun q => by rw [hst] at q; exact absurd q.1 (by decide)
      rw [if_neg h0, if_pos hst]
      exact Or.inr (Or.inr ⟨hst, fin0 (fun w x q => hno w x q.1 q.2.1)⟩)
    · have hcould : couldN c u S.1 = true ↔ ∃ w x, dayC T n sg p1 p2 p3 w x := by
        rw [hgr, could_iff hg hcu hmin]
        constructor
        · rintro ⟨w, x, q1, q2, q3⟩
          exact ⟨w, x, q1, (hiff w x q1).mpr q2, q3⟩
        · rintro ⟨w, x, q1, q2, q3⟩
          exact ⟨w, x, q1, (hiff w x q1).mp q2, q3⟩
      have opn : ¬ S.2.2.2.2.1 = 2 → ¬ (S.2.2.2.2.1 = 0 ∧ isDayN (u 2) (u 1) (u 0) = true) → (∀ w x, dayC T n sg p1 p2 p3 w x → ¬ n = w 0 + w 1 + w 2 + 2) → (((if couldN c u S.1 = true then (1 : Int32) else 2) = 1 ∧ hday T o sg n = (true, none)) ∨ ((if couldN c u S.1 = true then (1 : Int32) else 2) = 2 ∧ hday T o sg n = (false, none))) := by
        intro _ _ hno
        by_cases hcb : couldN c u S.1 = true
        · left
          rw [if_pos hcb]
          exact ⟨rfl, fin1 (hcould.mp hcb) hno⟩
        · right
          rw [if_neg hcb]
          exact ⟨rfl, fin0 (fun w x q => hcb (hcould.mpr ⟨w, x, q⟩))⟩
      rcases hcase with ⟨hst, hn, hmn, hg3⟩ | ⟨hst, hlt⟩
      · -- all three parts stand
        have hfull : ∀ w x, dayC T n sg p1 p2 p3 w x → n = w 0 + w 1 + w 2 + 2 → x 0 = u 0 ∧ x 1 = u 1 ∧ x 2 = u 2 := by
          intro w x hw hwn
          have hc := (hiff w x hw.1).mp hw.2.1
          have hne : ∀ p, p < 3 → ¬ c p = 0 := fun p hp3 q => by have := hmn p hp3; unfold mnN at this; split at this <;> omega
          have hoth : ∀ p, p < 3 → ¬ p = g → w p = c p ∧ x p = u p := by
            intro p hp3 hpg
            have := hc p hp3
            unfold cmpD at this
            rw [if_neg (fun q => q.elim hpg (hne p hp3))] at this
            exact this
          have hg1 := hc g hg
          unfold cmpD at hg1
          rw [if_pos (Or.inl rfl)] at hg1
          have k1 := hoth p1 hb.1 (by rw [hg3]; exact hb.2.2.2.2.1)
          have k2 := hoth p2 hb.2.1 (by rw [hg3]; exact hb.2.2.2.2.2)
          have hw3 : w g = c g := by
            have := hsum w
            rw [hg3]
            omega
          have k3 : x g = u g := by
            have := hg1.2
            rw [hw3, Nat.sub_self, Nat.pow_zero, Nat.div_one] at this
            exact this
          rw [hg3] at k3
          rcases hp with ⟨-, rfl, rfl, rfl⟩ | ⟨-, rfl, rfl, rfl⟩ | ⟨-, rfl, rfl, rfl⟩
          · exact ⟨k1.2, k2.2, k3⟩
          · exact ⟨k2.2, k1.2, k3⟩
          · exact ⟨k3, k2.2, k1.2⟩
        by_cases hd : isDayN (u 2) (u 1) (u 0) = true
        · rw [if_pos ⟨hst, hd⟩, if_pos ⟨hst, hd⟩]
          left
          refine ⟨hst, ?_⟩
          have hok : okD c u := fun p hp3 => ⟨hmn p hp3, hcu p hp3⟩
          have hC : dayC T n sg p1 p2 p3 c u := by
            refine ⟨hok, (hiff c u hok).mpr (fun p hp3 => ?_), hd⟩
            unfold cmpD
            split
            · exact ⟨Nat.le_refl _, by simp⟩
            · exact ⟨rfl, rfl⟩
          rcases hH with ⟨v, ⟨w, x, q, q2, q3⟩, h2⟩ | ⟨h1, -, -⟩
          · obtain ⟨x0, x1, x2⟩ := hfull w x q q2
            rw [h2, q3, x0, x1, x2]
            rfl
          · exact absurd ⟨c, u, hC, by rw [← hsum c]; exact hn, rfl⟩ (h1 (dayN (u 0) (u 1) (u 2)))
        · have hno : ¬ (S.2.2.2.2.1 = 0 ∧ isDayN (u 2) (u 1) (u 0) = true) := fun q => hd q.2
          have h2 : ¬ S.2.2.2.2.1 = 2 := by rw [hst]; decide
          rw [if_neg hno, if_neg h2]
          right
          refine opn h2 hno (fun w x q q2 => hd ?_)
          obtain ⟨x0, x1, x2⟩ := hfull w x q q2
          have := q.2.2
          rw [x0, x1, x2] at this
          exact this
      · have hno : ¬ (S.2.2.2.2.1 = 0 ∧ isDayN (u 2) (u 1) (u 0) = true) := fun q => by rw [hst] at q; exact absurd q.1 (by decide)
        have h2 : ¬ S.2.2.2.2.1 = 2 := by rw [hst]; decide
        rw [if_neg hno, if_neg h2]
        right
        refine opn h2 hno (fun w x q q2 => ?_)
        have := hlt w x q.1 q.2.1
        rw [hsum w] at this
        omega
  rcases ho with rfl | rfl | rfl
  · exact main 0 1 2 (Or.inl ⟨rfl, rfl, rfl, rfl⟩) rfl rfl rfl
  · exact main 1 0 2 (Or.inr (Or.inl ⟨rfl, rfl, rfl, rfl⟩)) rfl rfl rfl
  · exact main 2 1 0 (Or.inr (Or.inr ⟨rfl, rfl, rfl, rfl⟩)) rfl rfl rfl
