/-! ===== the class: groups, a whole amount ===== -/
def mnA (mn : Int32) : Int32 := if mn = 1 then -1 else if mn = 2 then 40 else 45
def mnB (mn : Int32) : Int32 := if mn = 0 then -1 else if mn = 2 then 41 else 45
def aheadQ (t : Nat → Int32) (e : Nat) (mn mk mb mo : Int32) (q : Qs) : Qs := if ¬ mo = 0 ∧ mb = 0 then passQ t e 32 (markQ t e mk (passQ t e (mnA mn) q)) else passQ t e (mnA mn) q
def bodyQ (t : Nat → Int32) (e : Nat) (pt g tw : Int32) (q : Qs) : Qs := fracQ t e pt (groupsQ t e g tw (firstQ t e q).1 (firstQ t e q).2)
def behindQ (t : Nat → Int32) (e : Nat) (mk mb mo : Int32) (q : Qs) : Qs := if ¬ mo = 0 ∧ ¬ mb = 0 then markQ t e mk (passQ t e 32 q) else q
/-- the end of an amount: whether it is below 0, and the state -/
def endQ (t : Nat → Int32) (e : Nat) (mn : Int32) (below : Bool) (q : Qs) : Bool × Qs := if mn = 1 then (passB t e (mnB mn) q, passQ t e (mnB mn) q) else if mn = 2 ∧ below = true then (below, needQ t e (mnB mn) q) else (below, q)
def closeQ (e : Nat) (q : Qs) : Qs := if q.1 < e then lackQ e q else q
def amtQ (t : Nat → Int32) (e : Nat) (pt g tw mn mk mb mo : Int32) : Bool × Qs :=
  let w := endQ t e mn (passB t e (mnA mn) (0, 0, 0)) (behindQ t e mk mb mo (bodyQ t e pt g tw (aheadQ t e mn mk mb mo (0, 0, 0))))
  (w.1, closeQ e w.2)
theorem groupsQ_1 (t : Nat → Int32) (e : Nat) (g tw : Int32) (first : Nat) (q : Qs) (h : q.1 ≤ e) : (groupsQ t e g tw first q).1 ≤ e := grpQ_1 _ _ _ _ _ _ _ _ h
theorem aheadQ_1 (t : Nat → Int32) (e : Nat) (mn mk mb mo : Int32) (q : Qs) (h : q.1 ≤ e) : (aheadQ t e mn mk mb mo q).1 ≤ e := by
  unfold aheadQ
  split
  · exact passQ_1 _ _ _ _ (markQ_1 _ _ _ _ (passQ_1 _ _ _ _ h))
  · exact passQ_1 _ _ _ _ h
theorem bodyQ_1 (t : Nat → Int32) (e : Nat) (pt g tw : Int32) (q : Qs) (h : q.1 ≤ e) : (bodyQ t e pt g tw q).1 ≤ e := fracQ_1 _ _ _ _ (groupsQ_1 _ _ _ _ _ _ (firstQ_1 _ _ _ h))
theorem behindQ_1 (t : Nat → Int32) (e : Nat) (mk mb mo : Int32) (q : Qs) (h : q.1 ≤ e) : (behindQ t e mk mb mo q).1 ≤ e := by
  unfold behindQ
  split
  · exact markQ_1 _ _ _ _ (passQ_1 _ _ _ _ h)
  · exact h
theorem endQ_1 (t : Nat → Int32) (e : Nat) (mn : Int32) (below : Bool) (q : Qs) (h : q.1 ≤ e) : (endQ t e mn below q).2.1 ≤ e := by
  unfold endQ
  split
  · exact passQ_1 _ _ _ _ h
  · split
    · exact needQ_1 _ _ _ _ h
    · exact h
section RAMT2
variable {r by_ pp ww o e cap la : Nat} {fo : Int64} {gr : Int32} {N : Mem} {T : Nat → Int32} {pt g tw mn mk mb od ds : Int32}
theorem r_grp (hT : N.2.1 by_ = some (.inl (.int, cap, .inl T))) (hne : by_ ≠ r) (hcap : o + e ≤ cap) (hc : cap < 2 ^ 30) (hL : N.2.1 la = some (.inr (0, [.int pt, .int g, .int tw, .int mn, .int mk, .int mb, .int od, .int ds]))) (hla : la ≠ r) {most : Nat} (hm : most < 10) :
    ∀ (d s f : Nat) (may cm : Bool) (q : Qs), s + d = most → d < f → q.1 ≤ e → fX2_needGroups_58 f r la (bI may) (nI most) (bI cm) (nI s) (rq r by_ pp ww o e fo gr N q) = some (rq r by_ pp ww o e fo gr N (grpQ (fun k => T (o + k)) e g tw d may cm q)) := by
  have g1 : ∀ q, gI (rq r by_ pp ww o e fo gr N q) 0 la 1 = some g := fun q => by simp [gI, gF, rq_land hL hla q, vI]
  have g2 : ∀ q, gI (rq r by_ pp ww o e fo gr N q) 0 la 2 = some tw := fun q => by simp [gI, gF, rq_land hL hla q, vI]
  have fin : ∀ (cm : Bool) (q : Qs), q.1 ≤ e → fX2_needGroups_140 r (bI cm) (rq r by_ pp ww o e fo gr N q) = some (rq r by_ pp ww o e fo gr N (if cm = true then q else lackQ e q)) := by
    intro cm q hq
    unfold fX2_needGroups_140 fX2_needGroups_149
    cases cm with
    | true => rw [if_neg (by decide)]; rfl
    | false =>
      rw [if_pos (by decide), rq_ck, Option.bind_some, r_lack (by omega) q hq, Option.bind_some]
      rfl
  intro d
  induction d with
  | zero =>
    intro s f may cm q hs hf hq
    obtain ⟨f, rfl⟩ : ∃ g, f = g + 1 := ⟨f - 1, by omega⟩
    rw [fX2_needGroups_58, if_pos (nI_le (by omega) (by omega)), fin cm q hq]
    rfl
  | succ d ih =>
    intro s f may cm q hs hf hq
    obtain ⟨f, rfl⟩ : ∃ g, f = g + 1 := ⟨f - 1, by omega⟩
    rw [fX2_needGroups_58, if_neg (nI_ge (by omega) (by omega))]
    cases may with
    | false =>
      rw [if_pos (by decide), fin cm q hq]
      simp [grpQ]
    | true =>
      rw [if_neg (by decide), g1, Option.bind_some, rq_ck, Option.bind_some, r_gn hT hne hcap hc g q hq, Option.bind_some]
      by_cases hb : gnB (fun k => T (o + k)) e g q = true
      · have hk : q.1 < e := by
          simp only [gnB, decide_eq_true_eq] at hb
          exact hb.2.1
        have ga : gI (rq r by_ pp ww o e fo gr N q) 1 r 1 = some (nI (o + q.1)) := rd_g1
        have pa : pF (rq r by_ pp ww o e fo gr N q) 1 r 1 (.int (nI (o + q.1 + 1))) = some (rq r by_ pp ww o e fo gr N (q.1 + 1, q.2)) := by
          have : pF (rq r by_ pp ww o e fo gr N q) 1 r 1 (.int (nI (o + q.1 + 1))) = some (rd r by_ pp ww (nI (o + e)) fo gr N (nI (o + q.1 + 1)) q.2.1 q.2.2) := rd_p1
          rw [this]
          rfl
        have h3 := r_passDigits (pp := pp) (ww := ww) (fo := fo) (gr := gr) (most := 3) hT hne hcap hc (by decide) (q.1 + 1, q.2) hk
        rw [show nI 3 = 3 from rfl] at h3
        have hc3 := digsQ_c (fun k => T (o + k)) e 3 0 (q.1 + 1, q.2)
        have hq3 := digsQ_1 (fun k => T (o + k)) e 3 0 (q.1 + 1, q.2) hk
        simp only [hb, if_true]
        rw [if_neg (by decide), ga, Option.bind_some, nI_1, pa, Option.bind_some, rq_ck, Option.bind_some, h3, Option.bind_some]
        have hgq : grpQ (fun k => T (o + k)) e g tw (d + 1) true cm q = grpQ (fun k => T (o + k)) e g tw d (if tw = 0 then decide ((digsQ (fun k => T (o + k)) e 3 0 (q.1 + 1, q.2)).1 = 3) else decide ((digsQ (fun k => T (o + k)) e 3 0 (q.1 + 1, q.2)).1 = 2)) (decide ((digsQ (fun k => T (o + k)) e 3 0 (q.1 + 1, q.2)).1 = 3)) (digsQ (fun k => T (o + k)) e 3 0 (q.1 + 1, q.2)).2 := by
          rw [grpQ, if_pos ⟨rfl, hb⟩]
        rw [hgq]
        generalize digsQ (fun k => T (o + k)) e 3 0 (q.1 + 1, q.2) = z at hc3 hq3 ⊢
        unfold fX2_needGroups_108 fX2_needGroups_133
        have e3 := nI_lit (a := z.1) (by omega) (b := 3) (by decide) (x := 3) rfl
        have e2 := nI_lit (a := z.1) (by omega) (b := 2) (by decide) (x := 2) rfl
        have step : ∀ (m2 c2 : Bool), fX2_needGroups_58 f r la (bI m2) (nI most) (bI c2) (nI s + 1) (rq r by_ pp ww o e fo gr N z.2) = some (rq r by_ pp ww o e fo gr N (grpQ (fun k => T (o + k)) e g tw d m2 c2 z.2)) := by
          intro m2 c2
          rw [nI_1]
          exact ih (s + 1) f m2 c2 z.2 (by omega) (by omega) hq3
        by_cases h3 : z.1 = 3
        · rw [if_pos (e3.mpr h3), g2, Option.bind_some]
          by_cases ht : tw = 0
          · rw [if_pos ht, if_pos ht]
            have := step true true
            simp only [h3, decide_true]
            exact this
          · rw [if_neg ht, if_neg ht, if_neg (fun q => by have := e2.mp q; omega)]
            have := step false true
            simp only [h3, decide_true]
            exact this
        · rw [if_neg (fun q => h3 (e3.mp q)), g2, Option.bind_some]
          by_cases ht : tw = 0
          · rw [if_pos ht, if_pos ht]
            have := step false false
            simp only [h3, decide_false]
            exact this
          · rw [if_neg ht, if_neg ht]
            by_cases h2 : z.1 = 2
            · rw [if_pos (e2.mpr h2)]
              have := step true false
              simp only [h2, decide_true]
              exact this
            · rw [if_neg (fun q => h2 (e2.mp q))]
              have := step false false
              simp only [h3, h2, decide_false]
              exact this
      · simp only [hb, Bool.false_eq_true, if_false]
        rw [if_pos trivial, fin cm q hq]
        simp [grpQ, hb]
theorem r_groups (hT : N.2.1 by_ = some (.inl (.int, cap, .inl T))) (hne : by_ ≠ r) (hcap : o + e ≤ cap) (hc : cap < 2 ^ 30) (hL : N.2.1 la = some (.inr (0, [.int pt, .int g, .int tw, .int mn, .int mk, .int mb, .int od, .int ds]))) (hla : la ≠ r) {first : Nat} (hfi : first < 100) (q : Qs) (hq : q.1 ≤ e) : fX2_needGroups r la (nI first) (rq r by_ pp ww o e fo gr N q) = some (rq r by_ pp ww o e fo gr N (groupsQ (fun k => T (o + k)) e g tw first q)) := by
  have g1 : ∀ q, gI (rq r by_ pp ww o e fo gr N q) 0 la 1 = some g := fun q => by simp [gI, gF, rq_land hL hla q, vI]
  have g2 : ∀ q, gI (rq r by_ pp ww o e fo gr N q) 0 la 2 = some tw := fun q => by simp [gI, gF, rq_land hL hla q, vI]
  have g4 : gL (rq r by_ pp ww o e fo gr N q) 1 r 4 = some q.2.2 := rd_g4
  have k37 : ∀ may : Bool, fX2_needGroups_37 r la (bI may) (rq r by_ pp ww o e fo gr N q) = some (rq r by_ pp ww o e fo gr N (grpQ (fun k => T (o + k)) e g tw (if tw = 0 then 2 else 3) may true q)) := by
    intro may
    unfold fX2_needGroups_37 fX2_needGroups_50
    rw [g2, Option.bind_some]
    by_cases ht : tw = 0
    · rw [if_pos ht, if_pos ht]
      exact r_grp hT hne hcap hc hL hla (most := 2) (by decide) 2 0 FU may true q (by omega) (by unfold FU; omega) hq
    · rw [if_neg ht, if_neg ht]
      exact r_grp hT hne hcap hc hL hla (most := 3) (by decide) 3 0 FU may true q (by omega) (by unfold FU; omega) hq
  unfold fX2_needGroups fX2_needGroups_36 fX2_needGroups_29 groupsQ
  rw [g1, Option.bind_some]
  by_cases hg : g = 0
  · rw [if_pos hg]
    simp only [hg, not_true, false_and, decide_false]
    rw [hg] at k37
    exact k37 false
  · rw [if_neg hg, g4, Option.bind_some]
    by_cases hn : lg_cmp q.2.2 0 ≤ 0
    · rw [if_pos hn]
      simp only [hn, not_true, false_and, and_false, decide_false]
      exact k37 false
    · rw [if_neg hn, g2, Option.bind_some]
      by_cases ht : tw = 0
      · rw [if_pos ht]
        by_cases h3 : first ≤ 3
        · rw [if_neg (show ¬ (3 : Int32) < nI first from nI_nlt (a := 3) h3 (by decide))]
          have := k37 true
          simp only [hg, hn, ht, h3, if_true, not_false_eq_true, and_self, decide_true] at this ⊢
          exact this
        · rw [if_pos (show (3 : Int32) < nI first from nI_lt (a := 3) (by omega) (by omega))]
          have := k37 false
          simp only [ht, h3, if_true, and_false, decide_false] at this ⊢
          exact this
      · rw [if_neg ht]
        by_cases h2 : first ≤ 2
        · rw [if_neg (show ¬ (2 : Int32) < nI first from nI_nlt (a := 2) h2 (by decide))]
          have := k37 true
          simp only [hg, hn, ht, h2, if_false, not_false_eq_true, and_self, decide_true] at this ⊢
          exact this
        · rw [if_pos (show (2 : Int32) < nI first from nI_lt (a := 2) (by omega) (by omega))]
          have := k37 false
          simp only [ht, h2, if_false, and_false, decide_false] at this ⊢
          exact this
end RAMT2
