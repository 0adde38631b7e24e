/-! ===== the class: readAmount ===== -/
section RREAD
variable {r by_ pp ww o e cap la : Nat} {fo : Int64} {gr : Int32} {N : Mem} {T : Nat → Int32} {pt g tw mn mk mb od ds : Int32}
theorem e_mnA (M : Mem) (hL : M.2.1 la = some (.inr (0, [.int pt, .int g, .int tw, .int mn, .int mk, .int mb, .int od, .int ds]))) : fX1_minusAhead la M = some (mnA mn, M) := by
  have g3 : gI M 0 la 3 = some mn := by simp [gI, gF, hL, vI]
  unfold fX1_minusAhead fX1_minusAhead_25 mnA
  rw [g3, Option.bind_some]
  by_cases h1 : mn = 1
  · rw [if_pos h1, if_pos h1]
  · rw [if_neg h1, if_neg h1, Option.bind_some]
    by_cases h2 : mn = 2
    · rw [if_pos h2, if_pos h2]
    · rw [if_neg h2, if_neg h2]
theorem e_mnB (M : Mem) (hL : M.2.1 la = some (.inr (0, [.int pt, .int g, .int tw, .int mn, .int mk, .int mb, .int od, .int ds]))) : fX1_minusBehind la M = some (mnB mn, M) := by
  have g3 : gI M 0 la 3 = some mn := by simp [gI, gF, hL, vI]
  unfold fX1_minusBehind fX1_minusBehind_24 mnB
  rw [g3, Option.bind_some]
  by_cases h1 : mn = 0
  · rw [if_pos h1, if_pos h1]
  · rw [if_neg h1, if_neg h1, Option.bind_some]
    by_cases h2 : mn = 2
    · rw [if_pos h2, if_pos h2]
    · rw [if_neg h2, if_neg h2]
theorem r_116 (hc : o + e < 2 ^ 30) (below : Bool) (q : Qs) (hq : q.1 ≤ e) : fX2_readAmount_116 r (bI below) (rq r by_ pp ww o e fo gr N q) = some (rq r by_ pp ww o e (if below = true then - q.2.2 else q.2.2) gr N (closeQ e q)) := by
  have hn : (closeQ e q).2.2 = q.2.2 := by
    unfold closeQ lackQ
    split <;> (try split) <;> rfl
  unfold fX2_readAmount_116 fX2_readAmount_137
  rw [rq_ck, Option.bind_some, r_needEnd hc q hq, Option.bind_some]
  rw [show (if q.1 < e then lackQ e q else q) = closeQ e q from rfl]
  have g4 : gL (rq r by_ pp ww o e fo gr N (closeQ e q)) 1 r 4 = some (closeQ e q).2.2 := rd_g4
  have p5 : ∀ y, pF (rq r by_ pp ww o e fo gr N (closeQ e q)) 1 r 5 (.long y) = some (rq r by_ pp ww o e y gr N (closeQ e q)) := fun y => rd_p5
  rw [g4, Option.bind_some, Option.bind_some, p5, p5, hn, Option.bind_some, Option.bind_some]
  cases below with
  | true => rw [if_neg (by decide)]; rfl
  | false => rw [if_pos (by decide)]; rfl
theorem r_76 (hT : N.2.1 by_ = some (.inl (.int, cap, .inl T))) (hne : by_ ≠ r) (hcap : o + e ≤ cap) (hc : cap < 2 ^ 30) (hL : N.2.1 la = some (.inr (0, [.int pt, .int g, .int tw, .int mn, .int mk, .int mb, .int od, .int ds]))) (hla : la ≠ r) (below : Bool) (q : Qs) (hq : q.1 ≤ e) (w : Bool × Qs) (hw : w = endQ (fun k => T (o + k)) e mn below q) :
    fX2_readAmount_76 r la (bI below) (rq r by_ pp ww o e fo gr N q) = some (rq r by_ pp ww o e (if w.1 = true then - w.2.2.2 else w.2.2.2) gr N (closeQ e w.2)) := by
  have g3 : ∀ q, gI (rq r by_ pp ww o e fo gr N q) 0 la 3 = some mn := fun q => by simp [gI, gF, rq_land hL hla q, vI]
  have ckL : ∀ q, ck (rq r by_ pp ww o e fo gr N q) 0 la = some () := fun q => by simp [ck, rq_land hL hla q]
  unfold fX2_readAmount_76
  rw [g3, Option.bind_some]
  by_cases h1 : mn = 1
  · rw [if_pos h1, ckL, Option.bind_some, e_mnB _ (rq_land hL hla q), Option.bind_some, rq_ck, Option.bind_some, r_passes hT hne hcap hc (mnB mn) q hq, Option.bind_some]
    have hw2 : w = (passB (fun k => T (o + k)) e (mnB mn) q, passQ (fun k => T (o + k)) e (mnB mn) q) := by rw [hw, endQ, if_pos h1]
    have := r_116 (r := r) (by_ := by_) (pp := pp) (ww := ww) (fo := fo) (gr := gr) (N := N) (o := o) (e := e) (by omega) (passB (fun k => T (o + k)) e (mnB mn) q) _ (passQ_1 (fun k => T (o + k)) e (mnB mn) q hq)
    rw [hw2]
    unfold bI at this
    exact this
  · rw [if_neg h1, Option.bind_some]
    by_cases h2 : mn = 2
    · rw [if_pos h2]
      cases below with
      | false =>
        rw [if_pos (by decide)]
        have hw2 : w = (false, q) := by rw [hw, endQ, if_neg h1, if_neg (by simp)]
        rw [hw2]
        exact r_116 (by omega) false q hq
      | true =>
        rw [if_neg (by decide), ckL, Option.bind_some, e_mnB _ (rq_land hL hla q), Option.bind_some, rq_ck, Option.bind_some, r_need hT hne hcap hc (mnB mn) q hq, Option.bind_some]
        have hw2 : w = (true, needQ (fun k => T (o + k)) e (mnB mn) q) := by rw [hw, endQ, if_neg h1, if_pos ⟨h2, rfl⟩]
        rw [hw2]
        exact r_116 (by omega) true _ (needQ_1 _ _ _ _ hq)
    · rw [if_neg h2]
      have hw2 : w = (below, q) := by rw [hw, endQ, if_neg h1, if_neg (fun h => h2 h.1)]
      rw [hw2]
      exact r_116 (by omega) below q hq
theorem r_32 (hT : N.2.1 by_ = some (.inl (.int, cap, .inl T))) (hne : by_ ≠ r) (hcap : o + e ≤ cap) (hc : cap < 2 ^ 30) (hL : N.2.1 la = some (.inr (0, [.int pt, .int g, .int tw, .int mn, .int mk, .int mb, .int od, .int ds]))) (hla : la ≠ r) (mo : Int32) (below : Bool) (q : Qs) (hq : q.1 ≤ e) (w : Bool × Qs) (hw : w = endQ (fun k => T (o + k)) e mn below (behindQ (fun k => T (o + k)) e mk mb mo (bodyQ (fun k => T (o + k)) e pt g tw q))) :
    fX2_readAmount_32 r la mo (bI below) (rq r by_ pp ww o e fo gr N q) = some (rq r by_ pp ww o e (if w.1 = true then - w.2.2.2 else w.2.2.2) gr N (closeQ e w.2)) := by
  have g0 : ∀ q, gI (rq r by_ pp ww o e fo gr N q) 0 la 0 = some pt := fun q => by simp [gI, gF, rq_land hL hla q, vI]
  have g5 : ∀ q, gI (rq r by_ pp ww o e fo gr N q) 0 la 5 = some mb := fun q => by simp [gI, gF, rq_land hL hla q, vI]
  have hf1 := firstQ_1 (fun k => T (o + k)) e q hq
  have hfc : (firstQ (fun k => T (o + k)) e q).1 < 100 := by
    have := digsQ_c (fun k => T (o + k)) e 9 0 q
    unfold firstQ
    split
    · exact (by decide : (1 : Nat) < 100)
    · split
      · exact (by decide : (0 : Nat) < 100)
      · omega
  have hg1 := groupsQ_1 (fun k => T (o + k)) e g tw (firstQ (fun k => T (o + k)) e q).1 _ hf1
  have hb1 := bodyQ_1 (fun k => T (o + k)) e pt g tw q hq
  unfold fX2_readAmount_32
  rw [rq_ck, Option.bind_some, r_first hT hne hcap hc q hq, Option.bind_some, rq_ck, Option.bind_some, r_groups hT hne hcap hc hL hla hfc _ hf1, Option.bind_some, g0, Option.bind_some, rq_ck, Option.bind_some, r_frac hT hne hcap hc pt _ hg1, Option.bind_some]
  rw [show fracQ (fun k => T (o + k)) e pt (groupsQ (fun k => T (o + k)) e g tw (firstQ (fun k => T (o + k)) e q).1 (firstQ (fun k => T (o + k)) e q).2) = bodyQ (fun k => T (o + k)) e pt g tw q from rfl]
  generalize bodyQ (fun k => T (o + k)) e pt g tw q = qb at hb1 hw ⊢
  by_cases hm : mo = 0
  · rw [if_pos hm]
    refine r_76 hT hne hcap hc hL hla below qb hb1 w ?_
    rw [hw, behindQ, if_neg (fun h => h.1 hm)]
  · rw [if_neg hm, g5, Option.bind_some]
    by_cases hmb : mb = 0
    · rw [if_pos hmb]
      refine r_76 hT hne hcap hc hL hla below qb hb1 w ?_
      rw [hw, behindQ, if_neg (fun h => h.2 hmb)]
    · rw [if_neg hmb, rq_ck, Option.bind_some, r_passes hT hne hcap hc 32 qb hb1, Option.bind_some, rq_ck, Option.bind_some, r_mark hT hne hcap hc hL hla _ (passQ_1 _ _ _ _ hb1), Option.bind_some]
      refine r_76 hT hne hcap hc hL hla below _ (markQ_1 _ _ _ _ (passQ_1 _ _ _ _ hb1)) w ?_
      rw [hw, behindQ, if_pos ⟨hm, hmb⟩]
theorem r_readAmount (hT : N.2.1 by_ = some (.inl (.int, cap, .inl T))) (hne : by_ ≠ r) (hcap : o + e ≤ cap) (hc : cap < 2 ^ 30) (hL : N.2.1 la = some (.inr (0, [.int pt, .int g, .int tw, .int mn, .int mk, .int mb, .int od, .int ds]))) (hla : la ≠ r) (mo : Int32) (w : Bool × Qs) (hw : w = amtQ (fun k => T (o + k)) e pt g tw mn mk mb mo) :
    fX2_readAmount r la mo (rq r by_ pp ww o e fo gr N (0, 0, 0)) = some (rq r by_ pp ww o e (if w.1 = true then - w.2.2.2 else w.2.2.2) gr N w.2) := by
  have g5 : ∀ q, gI (rq r by_ pp ww o e fo gr N q) 0 la 5 = some mb := fun q => by simp [gI, gF, rq_land hL hla q, vI]
  have ckL : ∀ q, ck (rq r by_ pp ww o e fo gr N q) 0 la = some () := fun q => by simp [ck, rq_land hL hla q]
  have h0 : ((0, 0, 0) : Qs).1 ≤ e := Nat.zero_le _
  have hp1 := passQ_1 (fun k => T (o + k)) e (mnA mn) (0, 0, 0) h0
  have hcl : ∀ q : Qs, (closeQ e q).2.2 = q.2.2 := by
    intro q
    unfold closeQ lackQ
    split <;> (try split) <;> rfl
  have fin : ∀ qa : Qs, qa = aheadQ (fun k => T (o + k)) e mn mk mb mo (0, 0, 0) → qa.1 ≤ e → fX2_readAmount_32 r la mo (bI (passB (fun k => T (o + k)) e (mnA mn) (0, 0, 0))) (rq r by_ pp ww o e fo gr N qa) = some (rq r by_ pp ww o e (if w.1 = true then - w.2.2.2 else w.2.2.2) gr N w.2) := by
    intro qa hqa hle
    have := r_32 (pp := pp) (ww := ww) (fo := fo) (gr := gr) hT hne hcap hc hL hla mo (passB (fun k => T (o + k)) e (mnA mn) (0, 0, 0)) qa hle _ rfl
    rw [this, hw, hqa]
    simp only [amtQ, hcl]
  unfold fX2_readAmount
  rw [ckL, Option.bind_some, e_mnA _ (rq_land hL hla _), Option.bind_some, rq_ck, Option.bind_some, r_passes hT hne hcap hc (mnA mn) (0, 0, 0) h0, Option.bind_some]
  by_cases hm : mo = 0
  · rw [if_pos hm]
    exact fin _ (by rw [aheadQ, if_neg (fun h => h.1 hm)]) hp1
  · rw [if_neg hm, g5, Option.bind_some]
    by_cases hmb : mb = 0
    · rw [if_pos hmb, rq_ck, Option.bind_some, r_mark hT hne hcap hc hL hla _ hp1, Option.bind_some, rq_ck, Option.bind_some, r_passes hT hne hcap hc 32 _ (markQ_1 _ _ _ _ hp1), Option.bind_some]
      exact fin _ (by rw [aheadQ, if_pos ⟨hm, hmb⟩]) (passQ_1 _ _ _ _ (markQ_1 _ _ _ _ hp1))
    · rw [if_neg hmb]
      exact fin _ (by rw [aheadQ, if_neg (fun h => hmb h.2)]) hp1
end RREAD
