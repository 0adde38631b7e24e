/-! ===== the class: reading an amount ===== -/
def mbyte (mk : Int32) (i : Nat) : Int32 := (((mk.toUInt32 >>> (((24 : Int32) - ((8 : Int32) * nI (i + 1))).toUInt32 &&& Int32.toUInt32 31)).toInt32) &&& (255 : Int32))
def markQ (t : Nat → Int32) (e : Nat) (mk : Int32) (q : Qs) : Qs := needQ t e (mbyte mk 2) (needQ t e (mbyte mk 1) (needQ t e (mbyte mk 0) q))
def firstQ (t : Nat → Int32) (e : Nat) (q : Qs) : Nat × Qs := if passB t e 48 q = true then (1, passQ t e 48 q) else if (digsQ t e 9 0 q).1 = 0 then (0, lackQ e (digsQ t e 9 0 q).2) else digsQ t e 9 0 q
def gnB (t : Nat → Int32) (e : Nat) (g : Int32) (q : Qs) : Bool := decide (q.2.1 = 0 ∧ q.1 < e ∧ t q.1 = g ∧ (e ≤ q.1 + 1 ∨ digB (t (q.1 + 1)) = true))
def grpQ (t : Nat → Int32) (e : Nat) (g tw : Int32) : Nat → Bool → Bool → Qs → Qs
  | 0, _, cm, q => if cm = true then q else lackQ e q
  | d + 1, may, cm, q => if may = true ∧ gnB t e g q = true then grpQ t e g tw d (if tw = 0 then decide ((digsQ t e 3 0 (q.1 + 1, q.2)).1 = 3) else decide ((digsQ t e 3 0 (q.1 + 1, q.2)).1 = 2)) (decide ((digsQ t e 3 0 (q.1 + 1, q.2)).1 = 3)) (digsQ t e 3 0 (q.1 + 1, q.2)).2 else if cm = true then q else lackQ e q
def groupsQ (t : Nat → Int32) (e : Nat) (g tw : Int32) (first : Nat) (q : Qs) : Qs := grpQ t e g tw (if tw = 0 then 2 else 3) (decide (¬ g = 0 ∧ ¬ lg_cmp q.2.2 0 ≤ 0 ∧ first ≤ (if tw = 0 then 3 else 2))) true q
def mulQ : Nat → Qs → Qs
  | 0, q => q
  | d + 1, q => mulQ d (q.1, q.2.1, q.2.2 * 10)
def fracQ (t : Nat → Int32) (e : Nat) (pt : Int32) (q : Qs) : Qs := if passB t e pt q = true then mulQ (6 - (digsQ t e 6 0 (passQ t e pt q)).1) (if (digsQ t e 6 0 (passQ t e pt q)).1 = 0 then lackQ e (digsQ t e 6 0 (passQ t e pt q)).2 else (digsQ t e 6 0 (passQ t e pt q)).2) else mulQ 6 q
theorem mulQ_1 (d : Nat) (q : Qs) : (mulQ d q).1 = q.1 := by
  induction d generalizing q with
  | zero => rfl
  | succ d ih => rw [mulQ, ih]
theorem grpQ_1 (t : Nat → Int32) (e : Nat) (g tw : Int32) (d : Nat) (may cm : Bool) (q : Qs) (h : q.1 ≤ e) : (grpQ t e g tw d may cm q).1 ≤ e := by
  induction d generalizing may cm q with
  | zero =>
    simp only [grpQ]
    split
    · exact h
    · rw [lackQ_1]; exact h
  | succ d ih =>
    simp only [grpQ]
    split
    · rename_i hb
      refine ih _ _ _ (digsQ_1 _ _ _ _ _ ?_)
      have := hb.2
      simp only [gnB, decide_eq_true_eq] at this
      show q.1 + 1 ≤ e
      omega
    · split
      · exact h
      · rw [lackQ_1]; exact h
theorem firstQ_1 (t : Nat → Int32) (e : Nat) (q : Qs) (h : q.1 ≤ e) : (firstQ t e q).2.1 ≤ e := by
  unfold firstQ
  split
  · exact passQ_1 _ _ _ _ h
  · split
    · rw [lackQ_1]; exact digsQ_1 _ _ _ _ _ h
    · exact digsQ_1 _ _ _ _ _ h
theorem fracQ_1 (t : Nat → Int32) (e : Nat) (pt : Int32) (q : Qs) (h : q.1 ≤ e) : (fracQ t e pt q).1 ≤ e := by
  have h1 := digsQ_1 t e 6 0 _ (passQ_1 t e pt q h)
  unfold fracQ
  split
  · rw [mulQ_1]
    split
    · rw [lackQ_1]; exact h1
    · exact h1
  · rw [mulQ_1]; exact h
theorem markQ_1 (t : Nat → Int32) (e : Nat) (mk : Int32) (q : Qs) (h : q.1 ≤ e) : (markQ t e mk q).1 ≤ e := needQ_1 _ _ _ _ (needQ_1 _ _ _ _ (needQ_1 _ _ _ _ h))
section RAMT
variable {r by_ pp ww o e cap la : Nat} {fo : Int64} {gr : Int32} {N : Mem} {T : Nat → Int32} {pt g tw mn mk mb od ds : Int32}
theorem rq_ck (q : Qs) : ck (rq r by_ pp ww o e fo gr N q) 1 r = some () := rd_ck
theorem rq_land (hL : N.2.1 la = some (.inr (0, [.int pt, .int g, .int tw, .int mn, .int mk, .int mb, .int od, .int ds]))) (hne : la ≠ r) (q : Qs) : (rq r by_ pp ww o e fo gr N q).2.1 la = some (.inr (0, [.int pt, .int g, .int tw, .int mn, .int mk, .int mb, .int od, .int ds])) := (rd_ne hne).trans hL
theorem r_mark (hT : N.2.1 by_ = some (.inl (.int, cap, .inl T))) (hne : by_ ≠ r) (hcap : o + e ≤ cap) (hc : cap < 2 ^ 30) (hL : N.2.1 la = some (.inr (0, [.int pt, .int g, .int tw, .int mn, .int mk, .int mb, .int od, .int ds]))) (hla : la ≠ r) (q : Qs) (hq : q.1 ≤ e) : fX2_needMark r la (rq r by_ pp ww o e fo gr N q) = some (rq r by_ pp ww o e fo gr N (markQ (fun k => T (o + k)) e mk q)) := by
  obtain ⟨f, hf⟩ : ∃ f, FU = f + 1 + 1 + 1 + 1 := ⟨99996, rfl⟩
  have ckL : ∀ q, ck (rq r by_ pp ww o e fo gr N q) 0 la = some () := fun q => by simp [ck, rq_land hL hla q]
  have g4 : ∀ q, gI (rq r by_ pp ww o e fo gr N q) 0 la 4 = some mk := fun q => by simp [gI, gF, rq_land hL hla q, vI]
  have step : ∀ (f i : Nat) (q : Qs), i < 3 → q.1 ≤ e → fX2_needMark_2 (f + 1) r la (nI i) (rq r by_ pp ww o e fo gr N q) = fX2_needMark_2 f r la (nI (i + 1)) (rq r by_ pp ww o e fo gr N (needQ (fun k => T (o + k)) e (mbyte mk i) q)) := by
    intro f i q hi hq
    rw [fX2_needMark_2, if_neg (show ¬ (3 : Int32) ≤ nI i from nI_ge (b := 3) hi (by decide)), ckL, Option.bind_some]
    unfold fX1_markByte fX7_byteOf
    rw [g4, Option.bind_some, nI_1, Option.bind_some, Option.bind_some, rq_ck, Option.bind_some]
    have := r_need (pp := pp) (ww := ww) (fo := fo) (gr := gr) hT hne hcap hc (mbyte mk i) q hq
    unfold mbyte at this
    rw [this, Option.bind_some]
    rfl
  unfold fX2_needMark markQ
  rw [hf, show (0 : Int32) = nI 0 from rfl, step _ 0 q (by decide) hq, step _ 1 _ (by decide) (needQ_1 _ _ _ _ hq), step _ 2 _ (by decide) (needQ_1 _ _ _ _ (needQ_1 _ _ _ _ hq)), fX2_needMark_2, if_pos (by decide)]
theorem r_first (hT : N.2.1 by_ = some (.inl (.int, cap, .inl T))) (hne : by_ ≠ r) (hcap : o + e ≤ cap) (hc : cap < 2 ^ 30) (q : Qs) (hq : q.1 ≤ e) : fX2_needFirstDigits r (rq r by_ pp ww o e fo gr N q) = some (nI (firstQ (fun k => T (o + k)) e q).1, rq r by_ pp ww o e fo gr N (firstQ (fun k => T (o + k)) e q).2) := by
  unfold fX2_needFirstDigits fX2_needFirstDigits_19 fX2_needFirstDigits_28 firstQ
  rw [rq_ck, Option.bind_some, r_passes hT hne hcap hc 48 q hq, Option.bind_some]
  by_cases hb : passB (fun k => T (o + k)) e 48 q = true
  · simp only [hb, if_true]
    rw [if_neg (by decide), if_neg (by decide)]
    rfl
  · have hpq : passQ (fun k => T (o + k)) e 48 q = q := by unfold passQ; rw [if_neg hb]
    have h9 := r_passDigits (pp := pp) (ww := ww) (fo := fo) (gr := gr) (most := 9) hT hne hcap hc (by decide) q hq
    rw [show nI 9 = 9 from rfl] at h9
    have hc9 := digsQ_c (fun k => T (o + k)) e 9 0 q
    simp only [hb, Bool.false_eq_true, if_false, hpq]
    rw [if_pos trivial, rq_ck, Option.bind_some, h9, Option.bind_some]
    by_cases h0 : (digsQ (fun k => T (o + k)) e 9 0 q).1 = 0
    · rw [if_pos ((nI_z (by omega)).mpr h0), rq_ck, Option.bind_some, r_lack (by omega) _ (digsQ_1 _ _ _ _ _ hq), Option.bind_some, if_pos h0, h0]
    · rw [if_neg (fun h => h0 ((nI_z (by omega)).mp h)), if_neg h0]
theorem r_gn (hT : N.2.1 by_ = some (.inl (.int, cap, .inl T))) (hne : by_ ≠ r) (hcap : o + e ≤ cap) (hc : cap < 2 ^ 30) (g : Int32) (q : Qs) (hq : q.1 ≤ e) : fX2_isGroupNext r g (rq r by_ pp ww o e fo gr N q) = some (if gnB (fun k => T (o + k)) e g q = true then 1 else 0, rq r by_ pp ww o e fo gr N q) := by
  have g1 : gI (rq r by_ pp ww o e fo gr N q) 1 r 1 = some (nI (o + q.1)) := rd_g1
  have g2 : gI (rq r by_ pp ww o e fo gr N q) 1 r 2 = some (nI (o + e)) := rd_g2
  have g3 : gI (rq r by_ pp ww o e fo gr N q) 1 r 3 = some q.2.1 := rd_g3
  have g0 : gN (rq r by_ pp ww o e fo gr N q) 1 r 0 = some by_ := rd_g0
  unfold fX2_isGroupNext fX2_isGroupNext_65 fX2_isGroupNext_61 fX2_isGroupNext_66
  rw [g3, Option.bind_some, nz0, nz1]
  by_cases hs : q.2.1 = 0
  · rw [if_pos hs, g1, Option.bind_some, g2, Option.bind_some]
    by_cases hk : q.1 < e
    · have ga : aI (rq r by_ pp ww o e fo gr N q) by_ (nI (o + q.1)) = some (T (o + q.1)) := rd_a hT hne (by omega) (by omega)
      rw [if_neg (nI_ge (by omega) (by omega)), g0, Option.bind_some]
      simp only [Option.bind_some]
      rw [ga, Option.bind_some]
      by_cases hg : T (o + q.1) = g
      · rw [if_pos hg, nI_1]
        by_cases hk1 : e ≤ q.1 + 1
        · rw [if_pos (nI_le (by omega) (by omega))]
          have hb : gnB (fun k => T (o + k)) e g q = true := by simp [gnB, hs, hk, hg, hk1]
          rw [hb]
          rfl
        · have ga1 : aI (rq r by_ pp ww o e fo gr N q) by_ (nI (o + q.1 + 1)) = some (T (o + q.1 + 1)) := rd_a hT hne (by omega) (by omega)
          rw [if_neg (nI_ge (by omega) (by omega)), ga1, Option.bind_some, e_isDigit, Option.bind_some]
          by_cases hd : digB (T (o + q.1 + 1)) = true
          · have hb : gnB (fun k => T (o + k)) e g q = true := by simp [gnB, hs, hk, hg, ← Nat.add_assoc, hd]
            simp only [hd, if_true, hb]
            rw [if_neg (by decide)]
          · have hb : gnB (fun k => T (o + k)) e g q = false := by simp [gnB, ← Nat.add_assoc, hd, hk1]
            simp only [hd, Bool.false_eq_true, if_false, hb]
            rw [if_pos trivial]
      · have hb : gnB (fun k => T (o + k)) e g q = false := by simp [gnB, hg]
        rw [if_neg hg, hb]
        rfl
    · have hb : gnB (fun k => T (o + k)) e g q = false := by simp [gnB, hk]
      rw [if_pos (nI_le (by omega) (by omega)), hb]
      rfl
  · have hb : gnB (fun k => T (o + k)) e g q = false := by simp [gnB, hs]
    rw [if_neg hs, hb]
    rfl
theorem r_mul : ∀ (d c f : Nat) (q : Qs), c + d = 6 → d < f → fX2_passFraction_27 f r (nI c) (rq r by_ pp ww o e fo gr N q) = some (rq r by_ pp ww o e fo gr N (mulQ d q)) := by
  intro d
  induction d with
  | zero =>
    intro c f q hcd hf
    obtain ⟨f, rfl⟩ : ∃ g, f = g + 1 := ⟨f - 1, by omega⟩
    rw [fX2_passFraction_27, if_pos (show (6 : Int32) ≤ nI c from nI_le (a := 6) (by omega) (by omega))]
    rfl
  | succ d ih =>
    intro c f q hcd hf
    obtain ⟨f, rfl⟩ : ∃ g, f = g + 1 := ⟨f - 1, by omega⟩
    have g4 : gL (rq r by_ pp ww o e fo gr N q) 1 r 4 = some q.2.2 := rd_g4
    have p4 : pF (rq r by_ pp ww o e fo gr N q) 1 r 4 (.long (q.2.2 * 10)) = some (rq r by_ pp ww o e fo gr N (q.1, q.2.1, q.2.2 * 10)) := rd_p4
    rw [fX2_passFraction_27, if_neg (show ¬ (6 : Int32) ≤ nI c from nI_ge (b := 6) (by omega) (by decide)), g4, Option.bind_some, p4, Option.bind_some, nI_1, ih (c + 1) f _ (by omega) (by omega)]
    rfl
theorem r_frac (hT : N.2.1 by_ = some (.inl (.int, cap, .inl T))) (hne : by_ ≠ r) (hcap : o + e ≤ cap) (hc : cap < 2 ^ 30) (pt : Int32) (q : Qs) (hq : q.1 ≤ e) : fX2_passFraction r pt (rq r by_ pp ww o e fo gr N q) = some (rq r by_ pp ww o e fo gr N (fracQ (fun k => T (o + k)) e pt q)) := by
  unfold fX2_passFraction fX2_passFraction_25 fracQ
  rw [rq_ck, Option.bind_some, r_passes hT hne hcap hc pt q hq, Option.bind_some]
  by_cases hb : passB (fun k => T (o + k)) e pt q = true
  · have hpq := passQ_1 (fun k => T (o + k)) e pt q hq
    have h6 := r_passDigits (pp := pp) (ww := ww) (fo := fo) (gr := gr) (most := 6) hT hne hcap hc (by decide) _ hpq
    rw [show nI 6 = 6 from rfl] at h6
    have hc6 := digsQ_c (fun k => T (o + k)) e 6 0 (passQ (fun k => T (o + k)) e pt q)
    simp only [hb, if_true]
    rw [if_neg (by decide), rq_ck, Option.bind_some, h6, Option.bind_some]
    by_cases h0 : (digsQ (fun k => T (o + k)) e 6 0 (passQ (fun k => T (o + k)) e pt q)).1 = 0
    · rw [if_pos ((nI_z (by omega)).mpr h0), rq_ck, Option.bind_some, r_lack (by omega) _ (digsQ_1 _ _ _ _ _ hpq), Option.bind_some, if_pos h0, r_mul (6 - (digsQ (fun k => T (o + k)) e 6 0 (passQ (fun k => T (o + k)) e pt q)).1) _ FU _ (by omega) (by unfold FU; omega)]
    · rw [if_neg (fun h => h0 ((nI_z (by omega)).mp h)), if_neg h0, r_mul (6 - (digsQ (fun k => T (o + k)) e 6 0 (passQ (fun k => T (o + k)) e pt q)).1) _ FU _ (by omega) (by unfold FU; omega)]
  · have hpq : passQ (fun k => T (o + k)) e pt q = q := by unfold passQ; rw [if_neg hb]
    simp only [hb, Bool.false_eq_true, if_false, hpq]
    rw [if_pos trivial]
    have := r_mul (r := r) (by_ := by_) (pp := pp) (ww := ww) (o := o) (e := e) (fo := fo) (gr := gr) (N := N) 6 0 FU q (by omega) (by unfold FU; omega)
    exact this
end RAMT
