/-! ===== land on both sides ===== -/
section RLAND
variable {m : Nat} {A : Nat → Nat → Int32} {B : Nat → Nat → Int64} {N M : Mem} {p g t mn mk b o d : Int32}
theorem r_land45 (M : Mem) : fX8_land_45 m p g t mn mk b o d M = fX8_land_76 m p g t mn mk b o d (bI (decide (¬ g = p ∧ (d = 47 ∨ d = 46 ∨ d = 45)))) M := by
  unfold fX8_land_45 fX8_land_75 fX8_land_71
  by_cases h1 : g = p
  · rw [if_pos h1, decide_eq_false (fun q => q.1 h1)]; rfl
  · rw [if_neg h1]
    by_cases h2 : d = 47
    · rw [if_pos h2, decide_eq_true (show ¬ g = p ∧ (d = 47 ∨ d = 46 ∨ d = 45) from ⟨h1, Or.inl h2⟩)]; rfl
    · rw [if_neg h2]
      by_cases h3 : d = 46
      · rw [if_pos h3, decide_eq_true (show ¬ g = p ∧ (d = 47 ∨ d = 46 ∨ d = 45) from ⟨h1, Or.inr (Or.inl h3)⟩)]; rfl
      · rw [if_neg h3]
        by_cases h4 : d = 45
        · rw [if_pos h4, decide_eq_true (show ¬ g = p ∧ (d = 47 ∨ d = 46 ∨ d = 45) from ⟨h1, Or.inr (Or.inr h4)⟩)]; rfl
        · rw [if_neg h4, decide_eq_false (fun q => by rcases q.2 with q | q | q; exact h2 q; exact h3 q; exact h4 q)]; rfl
theorem r_land17 (M : Mem) : fX8_land_17 m p g t mn mk b o d M = fX8_land_76 m p g t mn mk b o d (bI (decide ((g = 44 ∨ g = 46 ∨ g = 32 ∨ g = 39 ∨ g = 0) ∧ ¬ g = p ∧ (d = 47 ∨ d = 46 ∨ d = 45)))) M := by
  have yes : ∀ hg : (g = 44 ∨ g = 46 ∨ g = 32 ∨ g = 39 ∨ g = 0), decide (¬ g = p ∧ (d = 47 ∨ d = 46 ∨ d = 45)) = decide ((g = 44 ∨ g = 46 ∨ g = 32 ∨ g = 39 ∨ g = 0) ∧ ¬ g = p ∧ (d = 47 ∨ d = 46 ∨ d = 45)) := by
    intro hg
    by_cases h : ¬ g = p ∧ (d = 47 ∨ d = 46 ∨ d = 45)
    · rw [decide_eq_true h, decide_eq_true (show (g = 44 ∨ g = 46 ∨ g = 32 ∨ g = 39 ∨ g = 0) ∧ ¬ g = p ∧ (d = 47 ∨ d = 46 ∨ d = 45) from ⟨hg, h⟩)]
    · rw [decide_eq_false h, decide_eq_false (fun q => h q.2)]
  unfold fX8_land_17
  rw [r_land45]
  by_cases g1 : g = 44
  · rw [if_pos g1, yes (Or.inl g1)]
  · rw [if_neg g1]
    by_cases g2 : g = 46
    · rw [if_pos g2, yes (Or.inr (Or.inl g2))]
    · rw [if_neg g2]
      by_cases g3 : g = 32
      · rw [if_pos g3, yes (Or.inr (Or.inr (Or.inl g3)))]
      · rw [if_neg g3]
        by_cases g4 : g = 39
        · rw [if_pos g4, yes (Or.inr (Or.inr (Or.inr (Or.inl g4))))]
        · rw [if_neg g4]
          by_cases g5 : g = 0
          · rw [if_pos g5, yes (Or.inr (Or.inr (Or.inr (Or.inr g5))))]
          · rw [if_neg g5, decide_eq_false (fun q => by rcases q.1 with q | q | q | q | q; exact g1 q; exact g2 q; exact g3 q; exact g4 q; exact g5 q)]
            rfl
theorem r_landS (M : Mem) : fX8_land m p g t mn mk b o d M = (pF M 5 m 0 (.int 0)).bind fun M1 => fX8_land_76 m p g t mn mk b o d (bI (decide ((p = 44 ∨ p = 46) ∧ (g = 44 ∨ g = 46 ∨ g = 32 ∨ g = 39 ∨ g = 0) ∧ ¬ g = p ∧ (d = 47 ∨ d = 46 ∨ d = 45)))) M1 := by
  unfold fX8_land
  congr 1
  funext M1
  rw [r_land17]
  have yes : ∀ hp : (p = 44 ∨ p = 46), decide ((g = 44 ∨ g = 46 ∨ g = 32 ∨ g = 39 ∨ g = 0) ∧ ¬ g = p ∧ (d = 47 ∨ d = 46 ∨ d = 45)) = decide ((p = 44 ∨ p = 46) ∧ (g = 44 ∨ g = 46 ∨ g = 32 ∨ g = 39 ∨ g = 0) ∧ ¬ g = p ∧ (d = 47 ∨ d = 46 ∨ d = 45)) := by
    intro hp
    by_cases h : (g = 44 ∨ g = 46 ∨ g = 32 ∨ g = 39 ∨ g = 0) ∧ ¬ g = p ∧ (d = 47 ∨ d = 46 ∨ d = 45)
    · rw [decide_eq_true h, decide_eq_true (show (p = 44 ∨ p = 46) ∧ (g = 44 ∨ g = 46 ∨ g = 32 ∨ g = 39 ∨ g = 0) ∧ ¬ g = p ∧ (d = 47 ∨ d = 46 ∨ d = 45) from ⟨hp, h⟩)]
    · rw [decide_eq_false h, decide_eq_false (fun q => h q.2)]
  by_cases p1 : p = 44
  · rw [if_pos p1, yes (Or.inl p1)]
  · rw [if_neg p1]
    by_cases p2 : p = 46
    · rw [if_pos p2, yes (Or.inr p2)]
    · rw [if_neg p2, decide_eq_false (fun q => by rcases q.1 with q | q; exact p1 q; exact p2 q)]
      rfl
theorem r_land76 (s : Int32) : ∃ l : Bool, (l = true ↔ mkV mk) ∧ ∀ M, fX8_land_76 m p g t mn mk b o d s M = fX8_land_145 m p g t mn mk b o d s (bI l) M := by
  unfold fX8_land_76 fX8_land_144 mkV ltr
  by_cases h1 : mk >>> ((24 : Int32) &&& 31) = 0
  · by_cases h2 : ¬ (mk >>> ((16 : Int32) &&& 31)) &&& (255 : Int32) < 65 ∧ ¬ 90 < (mk >>> ((16 : Int32) &&& 31)) &&& (255 : Int32)
    · by_cases h3 : ¬ (mk >>> ((8 : Int32) &&& 31)) &&& (255 : Int32) < 65 ∧ ¬ 90 < (mk >>> ((8 : Int32) &&& 31)) &&& (255 : Int32)
      · by_cases h4 : ¬ mk &&& (255 : Int32) < 65 ∧ ¬ 90 < mk &&& (255 : Int32)
        · refine ⟨true, ⟨fun _ => ⟨h1, h2, h3, h4⟩, fun _ => rfl⟩, fun M => ?_⟩
          rw [if_pos h1, e_in, Option.bind_some]
          dsimp only
          rw [if_pos h2, if_neg (by decide), e_in, Option.bind_some]
          dsimp only
          rw [if_pos h3, if_neg (by decide), e_in, Option.bind_some]
          dsimp only
          rw [if_pos h4, if_neg (by decide)]
          rfl
        · refine ⟨false, ⟨(fun q => by cases q), fun q => absurd q.2.2.2 h4⟩, fun M => ?_⟩
          rw [if_pos h1, e_in, Option.bind_some]
          dsimp only
          rw [if_pos h2, if_neg (by decide), e_in, Option.bind_some]
          dsimp only
          rw [if_pos h3, if_neg (by decide), e_in, Option.bind_some]
          dsimp only
          rw [if_neg h4, if_pos rfl]
          rfl
      · refine ⟨false, ⟨(fun q => by cases q), fun q => absurd q.2.2.1 h3⟩, fun M => ?_⟩
        rw [if_pos h1, e_in, Option.bind_some]
        dsimp only
        rw [if_pos h2, if_neg (by decide), e_in, Option.bind_some]
        dsimp only
        rw [if_neg h3, if_pos rfl]
        rfl
    · refine ⟨false, ⟨(fun q => by cases q), fun q => absurd q.2.1 h2⟩, fun M => ?_⟩
      rw [if_pos h1, e_in, Option.bind_some]
      dsimp only
      rw [if_neg h2, if_pos rfl]
      rfl
  · refine ⟨false, ⟨(fun q => by cases q), fun q => absurd q.1 h1⟩, fun M => ?_⟩
    rw [if_neg h1]
    rfl
theorem rm_gN2 (R : RM m A B N M) : gN M 5 m 2 = some (m + 2) := by
  obtain ⟨I, A', fd, rfl, hC⟩ := R
  exact mm_gN2
theorem rm_gN3 (R : RM m A B N M) : gN M 5 m 3 = some (m + 3) := by
  obtain ⟨I, A', fd, rfl, hC⟩ := R
  exact mm_gN3
theorem rm_gN4 (R : RM m A B N M) : gN M 5 m 4 = some (m + 4) := by
  obtain ⟨I, A', fd, rfl, hC⟩ := R
  exact mm_gN4
theorem rm_gN5 (R : RM m A B N M) : gN M 5 m 5 = some (m + 5) := by
  obtain ⟨I, A', fd, rfl, hC⟩ := R
  exact mm_gN5
theorem rm_gN6 (R : RM m A B N M) : gN M 5 m 6 = some (m + 6) := by
  obtain ⟨I, A', fd, rfl, hC⟩ := R
  exact mm_gN6
theorem rm_gN7 (R : RM m A B N M) : gN M 5 m 7 = some (m + 7) := by
  obtain ⟨I, A', fd, rfl, hC⟩ := R
  exact mm_gN7
theorem rm_gN8 (R : RM m A B N M) : gN M 5 m 8 = some (m + 8) := by
  obtain ⟨I, A', fd, rfl, hC⟩ := R
  exact mm_gN8
theorem rm_gN9 (R : RM m A B N M) : gN M 5 m 9 = some (m + 9) := by
  obtain ⟨I, A', fd, rfl, hC⟩ := R
  exact mm_gN9
theorem rm_sZ7 {i : Nat} (hi : i < 24) (x : Int32) (R : RM m A B N M) : ∃ M', sZ M (m + 7) (nI i) x = some M' ∧ RM m (upA A 7 (upd (A 7) i (vp_nar .boolean x))) B N M' := by
  obtain ⟨I, A', fd, rfl, hC⟩ := R
  have hj' := hC 7 (by decide)
  refine ⟨mm m I (upA A' 7 (upd (A' 7) i (vp_nar .boolean x))) B fd N, ?_, I, _, fd, rfl, ?_⟩
  · rw [← mm_setA (by decide) (by decide)]
    unfold sZ
    rw [mm_arr (by decide) (by decide)]
    have h1 : mcell A' B 7 = .inl (.boolean, 24, .inl (A' 7)) := rfl
    rw [h1]
    dsimp only
    rw [if_pos (inr_nI hi (by decide)), nI_clamp (by omega)]
    rfl
  · intro k hk
    by_cases hkj : k = 7
    · simp only [upA, if_pos hkj, hj']
    · simp only [upA, if_neg hkj]
      exact hC k hk
/-- the reference's lands with one more -/
def landP (A : Nat → Nat → Int32) (nl : Nat) (v : L8) : Nat → Nat → Int32 := fun j => if j = 1 then upd (A 1) 0 (nI (nl + 1)) else if j = 2 then upd (A 2) nl v.1 else if j = 3 then upd (A 3) nl v.2.1 else if j = 4 then upd (A 4) nl v.2.2.1 else if j = 5 then upd (A 5) nl v.2.2.2.1 else if j = 6 then upd (A 6) nl v.2.2.2.2.1 else if j = 7 then upd (A 7) nl v.2.2.2.2.2.1 else if j = 8 then upd (A 8) nl v.2.2.2.2.2.2.1 else if j = 9 then upd (A 9) nl v.2.2.2.2.2.2.2 else A j
theorem p_land {nl : Nat} (hnl : nl ≤ 6) (h1 : A 1 0 = nI nl) (hb : b = 0 ∨ b = 1) (R : RM m A B N M) : (nl < 6 ∧ LV p g t mn mk o d ∧ ∃ M', fX8_land m p g t mn mk b o d M = some (nI nl, M') ∧ RM m (landP A nl (p, g, t, mn, mk, b, o, d)) B N M') ∨ (¬ (nl < 6 ∧ LV p g t mn mk o d) ∧ ∃ M', fX8_land m p g t mn mk b o d M = some (-1, M') ∧ RM m A B N M') := by
  obtain ⟨M1, e1, R1⟩ := rm_code R 0
  have a1 := (rm_1 h1 R1).2
  have g1 := (rm_1 h1 R1).1
  obtain ⟨l, hl, e76⟩ := r_land76 (m := m) (p := p) (g := g) (t := t) (mn := mn) (mk := mk) (b := b) (o := o) (d := d) (bI (decide ((p = 44 ∨ p = 46) ∧ (g = 44 ∨ g = 46 ∨ g = 32 ∨ g = 39 ∨ g = 0) ∧ ¬ g = p ∧ (d = 47 ∨ d = 46 ∨ d = 45))))
  rw [r_landS, e1, Option.bind_some, e76]
  unfold fX8_land_145 fX8_land_197
  rw [g1, Option.bind_some, a1, Option.bind_some]
  have no : ¬ (nl < 6 ∧ LV p g t mn mk o d) → (nl < 6 ∧ LV p g t mn mk o d ∧ ∃ M', some ((-1 : Int32), M1) = some (nI nl, M') ∧ RM m (landP A nl (p, g, t, mn, mk, b, o, d)) B N M') ∨ (¬ (nl < 6 ∧ LV p g t mn mk o d) ∧ ∃ M', some ((-1 : Int32), M1) = some (-1, M') ∧ RM m A B N M') := fun q => Or.inr ⟨q, M1, rfl, R1⟩
  have z6 := nI_lit (a := nl) (by omega) (b := 6) (by decide) (x := 6) rfl
  by_cases h6 : nl = 6
  · rw [if_pos (z6.mpr h6)]
    exact no (fun q => by omega)
  · rw [if_neg (fun q => h6 (z6.mp q))]
    by_cases hs : (p = 44 ∨ p = 46) ∧ (g = 44 ∨ g = 46 ∨ g = 32 ∨ g = 39 ∨ g = 0) ∧ ¬ g = p ∧ (d = 47 ∨ d = 46 ∨ d = 45)
    · rw [decide_eq_true hs, if_neg (by decide)]
      cases l with
      | false =>
        rw [if_pos (by decide)]
        exact no (fun q => absurd (hl.mpr q.2.2.1) (by decide))
      | true =>
        rw [if_neg (by decide), e_in, Option.bind_some]
        dsimp only
        by_cases ht : ¬ t < 0 ∧ ¬ 1 < t
        · rw [if_pos ht, if_neg (by decide), e_in, Option.bind_some]
          dsimp only
          by_cases hmn : ¬ mn < 0 ∧ ¬ 2 < mn
          · rw [if_pos hmn, if_neg (by decide), e_in, Option.bind_some]
            dsimp only
            by_cases ho : ¬ o < 0 ∧ ¬ 2 < o
            · rw [if_pos ho, if_neg (by decide), g1, Option.bind_some, a1, Option.bind_some, Option.bind_some, a1, Option.bind_some, nI_1]
              have ht2 : t = 0 ∨ t = 1 := by
                obtain ⟨k, k1, rfl⟩ := kind_of1 ht
                rcases (show k = 0 ∨ k = 1 by omega) with rfl | rfl
                · exact Or.inl rfl
                · exact Or.inr rfl
              have hl24 : nl < 24 := by omega
              obtain ⟨M2, s2, R2⟩ := rm_sI (j := 1) (i := 0) (by decide) (by decide) rfl (by decide) (by decide) (nI (nl + 1)) R1
              have s2' : sI M1 (m + 1) 0 (nI (nl + 1)) = some M2 := s2
              obtain ⟨M3, s3, R3⟩ := rm_sI (j := 2) (i := nl) (by decide) (by decide) rfl (by decide) hl24 p R2
              obtain ⟨M4, s4, R4⟩ := rm_sI (j := 3) (i := nl) (by decide) (by decide) rfl (by decide) hl24 g R3
              obtain ⟨M5, s5, R5⟩ := rm_sI (j := 4) (i := nl) (by decide) (by decide) rfl (by decide) hl24 t R4
              obtain ⟨M6, s6, R6⟩ := rm_sI (j := 5) (i := nl) (by decide) (by decide) rfl (by decide) hl24 mn R5
              obtain ⟨M7, s7, R7⟩ := rm_sI (j := 6) (i := nl) (by decide) (by decide) rfl (by decide) hl24 mk R6
              obtain ⟨M8, s8, R8⟩ := rm_sZ7 (i := nl) hl24 b R7
              have hvb : vp_nar .boolean b = b := by rcases hb with rfl | rfl <;> decide
              rw [hvb] at R8
              obtain ⟨M9, s9, R9⟩ := rm_sI (j := 8) (i := nl) (by decide) (by decide) rfl (by decide) hl24 o R8
              obtain ⟨M10, s10, R10⟩ := rm_sI (j := 9) (i := nl) (by decide) (by decide) rfl (by decide) hl24 d R9
              refine Or.inl ⟨by omega, ⟨⟨hs.1, hs.2.1, hs.2.2.1, ht2, hmn⟩, hl.mp rfl, ho, hs.2.2.2⟩, M10, ?_, ?_⟩
              · rw [s2', Option.bind_some, rm_gN2 R2, Option.bind_some, s3, Option.bind_some, rm_gN3 R3, Option.bind_some, s4, Option.bind_some, rm_gN4 R4, Option.bind_some, s5, Option.bind_some, rm_gN5 R5, Option.bind_some, s6, Option.bind_some, rm_gN6 R6, Option.bind_some, s7, Option.bind_some, rm_gN7 R7, Option.bind_some, s8, Option.bind_some, rm_gN8 R8, Option.bind_some, s9, Option.bind_some, rm_gN9 R9, Option.bind_some, s10, Option.bind_some]
              · refine (congrArg (fun X => RM m X B N M10) ?_).mp R10
                · funext j
                  unfold landP upA
                  by_cases j9 : j = 9
                  · subst j9; rfl
                  · rw [if_neg j9]
                    by_cases j8 : j = 8
                    · subst j8; rfl
                    · rw [if_neg j8]
                      by_cases j7 : j = 7
                      · subst j7; rfl
                      · rw [if_neg j7]
                        by_cases j6 : j = 6
                        · subst j6; rfl
                        · rw [if_neg j6]
                          by_cases j5 : j = 5
                          · subst j5; rfl
                          · rw [if_neg j5]
                            by_cases j4 : j = 4
                            · subst j4; rfl
                            · rw [if_neg j4]
                              by_cases j3 : j = 3
                              · subst j3; rfl
                              · rw [if_neg j3]
                                by_cases j2 : j = 2
                                · subst j2; rfl
                                · rw [if_neg j2]
                                  by_cases j1 : j = 1
                                  · subst j1; rfl
                                  · simp only [j1, j2, j3, j4, j5, j6, j7, j8, j9, if_false]
            · rw [if_neg ho, if_pos rfl]
              exact no (fun q => ho q.2.2.2.1)
          · rw [if_neg hmn, if_pos rfl]
            exact no (fun q => hmn q.2.1.2.2.2.2)
        · rw [if_neg ht, if_pos rfl]
          refine no (fun q => ht ?_)
          rcases q.2.1.2.2.2.1 with e | e <;> rw [e] <;> decide
    · rw [decide_eq_false hs, if_pos (by decide)]
      exact no (fun q => hs ⟨q.2.1.1, q.2.1.2.1, q.2.1.2.2.1, q.2.2.2.2⟩)
end RLAND
section SLAND
variable {z : Nat} {kc : KC} {σ : Sg} {im : Nat → Option (Nat × Sg)} {M : Mem}
theorem step_land (h : INV z kc σ im M) {p g t mn mk b o d : Int32} (hb : b = 0 ∨ b = 1) : Step z kc (fX7_land z p g t mn mk b o d) (fX8_land (z + 18) p g t mn mk b o d) M := by
  have hc := h.2.1
  have hok := co_ok hc
  have hsh := co_sh hc
  have hm := hc.1
  have hn6 := hok.1
  obtain ⟨lm, hlm, elm⟩ := e_money mk M
  by_cases hx : nlS σ < 6 ∧ LV p g t mn mk o d
  · obtain ⟨h6, hV⟩ := hx
    obtain ⟨M1, i1, i2, i3⟩ := e_newLand M (p := p) (g := g) (mn := mn) (mk := mk) (o := o) (d := d) hV.1.2.2.2.1 hb
    have at2 : ∀ a, a < M.1 → (mnw M (lcell (p, g, t, mn, mk, b, o, d))).2.1 a = M.2.1 a := fun a ha => mnw_ne _ _ (by omega)
    have gw := Chg.mnw M (lcell (p, g, t, mn, mk, b, o, d)) (z + 1) (z + 10)
    have nw := mnw_at M (lcell (p, g, t, mn, mk, b, o, d))
    have nw1 : (mnw M (lcell (p, g, t, mn, mk, b, o, d))).1 = M.1 + 1 := rfl
    generalize mnw M (lcell (p, g, t, mn, mk, b, o, d)) = M2 at i3 gw nw nw1 at2
    obtain ⟨s0, s1, s2, ⟨f, f1, f2, f3⟩, s4, s5, s6, s7⟩ := hsh
    have h20 : M2.2.1 (z + 1) = some (shc (z + 1) (nlS σ) (nrS σ)) := (at2 _ (by omega)).trans s0
    have h2z : gN M2 4 z 0 = some (z + 1) := by
      have : M2.2.1 z = _ := (at2 _ (by omega)).trans hc.2.1
      simp [gN, gF, this, vN]
    have h25 : M2.2.1 (z + 1 + 5) = some (.inl (.object RX1, 6, .inr (.inr (.inr (.inr f))))) := (at2 _ (by omega)).trans f1
    have a5 : aN M2 (z + 1 + 5) = some (nI 6) := by unfold aN; rw [h25]; rfl
    have ckb : ck M2 0 M.1 = some () := by simp [ck, nw, lcell]
    have b1 : sQ M2 0 (z + 1 + 5) (nI (nlS σ)) (some M.1) = some (mst M2 (z + 1 + 5) (.inl (.object RX1, 6, .inr (.inr (.inr (.inr (va_up f (nlS σ) (some M.1)))))))) := by
      unfold sQ
      rw [h25]
      dsimp only
      rw [if_pos ⟨inr_nI h6 (by decide), rfl, by simp [ckb]⟩, nI_clamp (by omega)]
    have g3 := Chg.mst M2 (z + 1 + 5) (.inl (.object RX1, 6, .inr (.inr (.inr (.inr (va_up f (nlS σ) (some M.1)))))))
    have n3 : (mst M2 (z + 1 + 5) (.inl (.object RX1, 6, .inr (.inr (.inr (.inr (va_up f (nlS σ) (some M.1)))))))).2.1 (z + 1 + 5) = some (.inl (.object RX1, 6, .inr (.inr (.inr (.inr (va_up f (nlS σ) (some M.1))))))) := mst_at _ _ _
    have n31 : (mst M2 (z + 1 + 5) (.inl (.object RX1, 6, .inr (.inr (.inr (.inr (va_up f (nlS σ) (some M.1)))))))).1 = M2.1 := rfl
    generalize mst M2 (z + 1 + 5) (.inl (.object RX1, 6, .inr (.inr (.inr (.inr (va_up f (nlS σ) (some M.1))))))) = M3 at b1 g3 n3 n31
    have h30 : M3.2.1 (z + 1) = some (shc (z + 1) (nlS σ) (nrS σ)) := (g3.2.2 _ (by omega) (by omega)).trans h20
    have b2 := pF_sh3 (j := nlS σ + 1) h30
    have g4 := Chg.mst M3 (z + 1) (shc (z + 1) (nlS σ + 1) (nrS σ))
    have n4 : (mst M3 (z + 1) (shc (z + 1) (nlS σ + 1) (nrS σ))).2.1 (z + 1) = some (shc (z + 1) (nlS σ + 1) (nrS σ)) := mst_at _ _ _
    have n41 : (mst M3 (z + 1) (shc (z + 1) (nlS σ + 1) (nrS σ))).1 = M3.1 := rfl
    generalize mst M3 (z + 1) (shc (z + 1) (nlS σ + 1) (nrS σ)) = M4 at b2 g4 n4 n41
    have gA : Chg (z + 1) (z + 10) M M4 := (gw.trans (g3.wide (by omega) (by omega))).trans (g4.wide (by omega) (by omega))
    have at4 : ∀ a, a < M2.1 → ¬ a = z + 1 → ¬ a = z + 1 + 5 → M4.2.1 a = M2.2.1 a := fun a h1 h2 h3 => (g4.2.2 a (by omega) (by omega)).trans (g3.2.2 a (by omega) (by omega))
    have gI3 : ∀ {M' : Mem} {a b : Nat}, M'.2.1 (z + 1) = some (shc (z + 1) a b) → gI M' 2 (z + 1) 3 = some (nI a) := fun e => by simp [gI, gF, e, shc, vI]
    have gN2 : ∀ {M' : Mem} {a b : Nat}, M'.2.1 (z + 1) = some (shc (z + 1) a b) → gN M' 2 (z + 1) 2 = some (z + 1 + 5) := fun e => by simp [gN, gF, e, shc, vN]
    have ckS : ∀ {M' : Mem} {a b : Nat}, M'.2.1 (z + 1) = some (shc (z + 1) a b) → ck M' 2 (z + 1) = some () := fun e => by simp [ck, e, shc]
    have c : fX7_land z p g t mn mk b o d M = some (nI (nlS σ), M4) := by
      have hl1 : lm = true := hlm.mpr hV.2.1
      unfold fX7_land fX3_addLand
      rw [co_g0 hc, Option.bind_some, gI3 s0, Option.bind_some, if_neg (li_nge 6 _ 6 rfl h6 (by decide)), e_nums, Option.bind_some, decide_eq_true hV.1]
      dsimp only
      rw [if_neg (by decide), elm, Option.bind_some, hl1]
      dsimp only
      rw [if_neg (by decide), e_days, Option.bind_some, decide_eq_true hV.2.2]
      dsimp only
      rw [if_neg (by decide), i1, Option.bind_some, i2, Option.bind_some, i3, Option.bind_some, h2z, Option.bind_some, ckS h20, Option.bind_some, gI3 h20, Option.bind_some, gN2 h20, Option.bind_some, a5, Option.bind_some, if_pos (nI_lt h6 (by decide)), Option.bind_some, Option.bind_some, b1, Option.bind_some, gI3 h30, Option.bind_some, nI_1, b2, Option.bind_some, gI3 n4, Option.bind_some, Option.bind_some]
      dsimp only
      rw [show nI (nlS σ + 1) - 1 = nI (nlS σ) from pk_sub (b := 1) (by omega)]
    have hl : ∀ b v, z + 42 ≤ b → b < M.1 → M.2.1 b = some (lcell v) → M4.2.1 b = some (lcell v) := fun b v q1 q2 q3 => (gA.2.2 b q2 (by omega)).trans q3
    have atA : ∀ a, a < M.1 → ¬ a = z + 1 → ¬ a = z + 1 + 5 → M4.2.1 a = M.2.1 a := fun a h1 h2 h3 => (at4 a (by omega) h2 h3).trans (at2 a h1)
    have hnew : M4.2.1 M.1 = some (lcell (p, g, t, mn, mk, b, o, d)) := (at4 _ (by omega) (by omega) (by omega)).trans nw
    have TXf : ∀ {t0 cap n : Nat} {L : Nat → Int32}, TX t0 cap n L M → t0 + 1 < M.1 → ¬ t0 = z + 1 → ¬ t0 = z + 1 + 5 → ¬ t0 + 1 = z + 1 → ¬ t0 + 1 = z + 1 + 5 → TX t0 cap n L M4 := by
      rintro t0 cap n L ⟨q0, q1, ff, q2, q3⟩ h1 h2 h3 h4 h5
      exact ⟨q0, (atA _ (by omega) h2 h3).trans q1, ff, (atA _ h1 h4 h5).trans q2, q3⟩
    have hσ' : CO z (wLands σ (nlS σ + 1) (fun l => if l = nlS σ then (p, g, t, mn, mk, b, o, d) else ldS σ l)) im M4 := by
      refine co_now hc gA ⟨n4, TXf s1 (by omega) (by omega) (by omega) (by omega) (by omega), TXf s2 (by omega) (by omega) (by omega) (by omega) (by omega), ?_, s4.fr (atA _ (by omega) (by omega) (by omega)), s5.fr (atA _ (by omega) (by omega) (by omega)), s6.fr (atA _ (by omega) (by omega) (by omega)), s7.fr (atA _ (by omega) (by omega) (by omega))⟩ ?_
      · refine ⟨va_up f (nlS σ) (some M.1), (g4.2.2 _ (by omega) (by omega)).trans n3, fun l hl2 => ?_, fun l hl2 b2 hb2 => ?_⟩
        · have hl2 : l < nlS σ + 1 := hl2
          show ∃ b', va_up f (nlS σ) (some M.1) l = some b' ∧ M4.2.1 b' = some (lcell (if l = nlS σ then (p, g, t, mn, mk, b, o, d) else ldS σ l))
          by_cases he : l = nlS σ
          · rw [if_pos he, he]
            exact ⟨M.1, if_pos rfl, hnew⟩
          · rw [if_neg he]
            obtain ⟨b', r1, r2⟩ := f2 l (by omega)
            obtain ⟨r3, r4, -⟩ := f3 l (by omega) b' r1
            exact ⟨b', (if_neg he).trans r1, hl b' _ r3 r4 r2⟩
        · by_cases he : l = nlS σ
          · have e : va_up f (nlS σ) (some M.1) l = some M.1 := by rw [he]; exact if_pos rfl
            rw [e] at hb2
            cases hb2
            exact ⟨hm, by omega, _, hnew⟩
          · have e : va_up f (nlS σ) (some M.1) l = f l := if_neg he
            rw [e] at hb2
            obtain ⟨r3, r4, v, r5⟩ := f3 l hl2 b2 hb2
            exact ⟨r3, by omega, v, hl b2 v r3 r4 r5⟩
      · refine ⟨h6, fun l hl2 => ?_, hok.2.2⟩
        have hl2 : l < nlS σ + 1 := hl2
        show L8Ok (if l = nlS σ then (p, g, t, mn, mk, b, o, d) else ldS σ l)
        by_cases he : l = nlS σ
        · rw [if_pos he]; exact lv_ok hV hb
        · rw [if_neg he]; exact hok.2.1 l (by omega)
    refine step_of h c (Cl.of gA hc.1 (by omega)) hσ' (fun A B hR hO => ?_)
    rcases p_land hn6 hO.1.1 hb hR with ⟨-, -, MR, r1, r2⟩ | ⟨r1, -⟩
    · refine ⟨_, B, MR, r1, r2, ?_⟩
      obtain ⟨⟨o1, o2, o3, o4, o5, o6, o7, o8, o9⟩, hO2⟩ := hO
      refine ⟨⟨?_, fun l hl2 => ?_, o3, o4, o5, o6, o7, o8, o9⟩, fun k hk => ⟨(hO2 k hk).1, fun s τ he => ?_⟩⟩
      · show upd (A 1) 0 (nI (nlS σ + 1)) 0 = _
        exact pk_us
      · have hl2 : l < nlS σ + 1 := hl2
        show (upd (A 2) (nlS σ) p (6 * 0 + l), upd (A 3) (nlS σ) g (6 * 0 + l), upd (A 4) (nlS σ) t (6 * 0 + l), upd (A 5) (nlS σ) mn (6 * 0 + l), upd (A 6) (nlS σ) mk (6 * 0 + l), upd (A 7) (nlS σ) b (6 * 0 + l), upd (A 8) (nlS σ) o (6 * 0 + l), upd (A 9) (nlS σ) d (6 * 0 + l)) = if l = nlS σ then (p, g, t, mn, mk, b, o, d) else ldS σ l
        rw [Nat.mul_zero, Nat.zero_add]
        by_cases he : l = nlS σ
        · rw [if_pos he, he, pk_us, pk_us, pk_us, pk_us, pk_us, pk_us, pk_us, pk_us]
        · rw [if_neg he, pk_un he, pk_un he, pk_un he, pk_un he, pk_un he, pk_un he, pk_un he, pk_un he]
          have := o2 l (by omega)
          rw [Nat.mul_zero, Nat.zero_add] at this
          exact this
      · obtain ⟨u1, u2, u3, u4, u5, u6, u7, u8, u9⟩ := (hO2 k hk).2 s τ he
        refine ⟨?_, fun l hl2 => ?_, u3, u4, u5, u6, u7, u8, u9⟩
        · show upd (A 1) 0 (nI (nlS σ + 1)) (k + 1) = _
          rw [pk_un (by omega)]; exact u1
        · show (upd (A 2) (nlS σ) p (6 * (k + 1) + l), upd (A 3) (nlS σ) g (6 * (k + 1) + l), upd (A 4) (nlS σ) t (6 * (k + 1) + l), upd (A 5) (nlS σ) mn (6 * (k + 1) + l), upd (A 6) (nlS σ) mk (6 * (k + 1) + l), upd (A 7) (nlS σ) b (6 * (k + 1) + l), upd (A 8) (nlS σ) o (6 * (k + 1) + l), upd (A 9) (nlS σ) d (6 * (k + 1) + l)) = _
          have he : 6 * (k + 1) + l ≠ nlS σ := by omega
          rw [pk_un he, pk_un he, pk_un he, pk_un he, pk_un he, pk_un he, pk_un he, pk_un he]
          exact u2 l hl2
    · exact absurd ⟨h6, hV⟩ r1
  · have c : fX7_land z p g t mn mk b o d M = some (-1, M) := by
      unfold fX7_land fX7_land_41
      rw [co_g0 hc, Option.bind_some, cs_g3 hsh, Option.bind_some]
      by_cases h6 : nlS σ < 6
      · rw [if_neg (li_nge 6 _ 6 rfl h6 (by decide)), e_nums, Option.bind_some]
        dsimp only
        by_cases v1 : (p = 44 ∨ p = 46) ∧ (g = 44 ∨ g = 46 ∨ g = 32 ∨ g = 39 ∨ g = 0) ∧ ¬ g = p ∧ (t = 0 ∨ t = 1) ∧ (¬ mn < 0 ∧ ¬ 2 < mn)
        · rw [decide_eq_true v1, if_neg (by decide), elm, Option.bind_some]
          dsimp only
          cases lm with
          | false => rw [if_pos (by decide)]
          | true =>
            rw [if_neg (by decide), e_days, Option.bind_some]
            dsimp only
            by_cases v3 : (¬ o < 0 ∧ ¬ 2 < o) ∧ (d = 47 ∨ d = 46 ∨ d = 45)
            · exact absurd ⟨h6, v1, hlm.mp rfl, v3⟩ hx
            · rw [decide_eq_false v3, if_pos (by decide)]
        · rw [decide_eq_false v1, if_pos (by decide)]
      · rw [if_pos (li_ge 6 _ 6 rfl (by omega) (by omega))]
    refine step_of h c (Cl.of (Chg.rf 0 0 M) hc.1 (by omega)) hc (fun A B hR hO => ?_)
    rcases p_land hn6 hO.1.1 hb hR with ⟨r1, r2, -⟩ | ⟨-, MR, r1, r2⟩
    · exact absurd ⟨r1, r2⟩ hx
    · exact ⟨A, B, MR, r1, r2, hO⟩
end SLAND
