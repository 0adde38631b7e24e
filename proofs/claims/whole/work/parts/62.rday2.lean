/-! ===== the class: reading a day, to its end ===== -/
def Rep (s : Ds) (c u : Nat → Nat) : Prop := ∀ p, p < 3 → s.2.1 p = nI (u p) ∧ s.2.2.1 p = nI (c p) ∧ u p < 10000 ∧ c p ≤ 4
def cbm (c u : Nat → Nat) (gr : Int32) (mo : Nat) : Bool := decide (c 1 = 0 ∨ mo = u 1 ∨ (c 1 = 1 ∧ gr = 1 ∧ mo / 10 = u 1))
def ldN (c u : Nat → Nat) (gr : Int32) : Nat := if c 0 = 0 ∨ (c 0 = 1 ∧ gr = 0) then max (u 0) 1 else u 0
def anyN (Q : Nat → Bool) : Nat → Nat → Bool
  | 0, _ => false
  | d + 1, k => Q k || anyN Q d (k + 1)
def lpN (c u : Nat → Nat) : Bool := !(decide (c 2 = 4)) || leapN (u 2)
def cdQ (c u : Nat → Nat) (gr : Int32) (mo : Nat) : Bool := cbm c u gr mo && decide (1 ≤ ldN c u gr ∧ ldN c u gr ≤ lenN mo (lpN c u))
def couldN (c u : Nat → Nat) (gr : Int32) : Bool := !(decide (c 2 = 4 ∧ u 2 = 0)) && anyN (cdQ c u gr) 12 1
section RDAY2
variable {r by_ pp ww o e cap la : Nat} {fo : Int64} {N : Mem} {T : Nat → Int32} {pt g tw mn mk mb od ds : Int32} {c u : Nat → Nat}
theorem d_least (hD : Dst r by_ pp ww) {s : Ds} (hR : Rep s c u) : fX2_leastDay r (dm r by_ pp ww o e fo N s) = some (nI (ldN c u s.1), dm r by_ pp ww o e fo N s) := by
  obtain ⟨h1, h2, h3, h4⟩ := hR 0 (by decide)
  have hmax : fX2_leastDay_30 (nI (u 0)) (dm r by_ pp ww o e fo N s) = some (nI (max (u 0) 1), dm r by_ pp ww o e fo N s) := by
    unfold fX2_leastDay_30 fX2_leastDay_35 fX2_leastDay_49
    rw [if_neg (by decide)]
    unfold fJ9_max_7cf53 fJ9_max_7cf53_10
    by_cases h : u 0 < 1
    · rw [if_pos (li_lt 1 (u 0) 1 rfl h (by decide)), Option.bind_some]
      rw [show max (u 0) 1 = 1 by omega]
      rfl
    · rw [if_neg (li_nlt 1 (u 0) 1 rfl (by omega) (by omega)), Option.bind_some]
      rw [show max (u 0) 1 = u 0 by omega]
  have hmin : fX2_leastDay_34 (nI (u 0)) (dm r by_ pp ww o e fo N s) = some (nI (u 0), dm r by_ pp ww o e fo N s) := by
    unfold fX2_leastDay_34 fX2_leastDay_35 fX2_leastDay_49
    rw [if_pos rfl]
  unfold fX2_leastDay ldN
  have a0 : aI (dm r by_ pp ww o e fo N s) ww 0 = some (s.2.2.1 0) := dm_aW hD s (k := 0) (by decide)
  have b0 : aI (dm r by_ pp ww o e fo N s) pp 0 = some (s.2.1 0) := dm_aP hD s (k := 0) (by decide)
  rw [dm_g7, Option.bind_some, a0, Option.bind_some, dm_g6, Option.bind_some, b0, Option.bind_some, h1, h2]
  have z0 := nI_z (a := c 0) (by omega)
  have z1 := nI_lit (a := c 0) (by omega) (b := 1) (by decide) (x := 1) rfl
  by_cases c0 : c 0 = 0
  · rw [if_pos (z0.mpr c0), if_pos (Or.inl c0), hmax]
  · rw [if_neg (fun q => c0 (z0.mp q))]
    by_cases c1 : c 0 = 1
    · rw [if_pos (z1.mpr c1), dm_g8, Option.bind_some]
      by_cases hg : s.1 = 0
      · rw [if_pos hg, if_pos (Or.inr ⟨c1, hg⟩), hmax]
      · rw [if_neg hg, if_neg (fun q => q.elim c0 (fun q => hg q.2)), hmin]
    · rw [if_neg (fun q => c1 (z1.mp q)), if_neg (fun q => q.elim c0 (fun q => c1 q.1)), hmin]
theorem d_cbm (hD : Dst r by_ pp ww) {s : Ds} (hR : Rep s c u) {mo : Nat} (hmo : mo < 100) : fX2_couldBeMonth r (nI mo) (dm r by_ pp ww o e fo N s) = some (bI (cbm c u s.1 mo), dm r by_ pp ww o e fo N s) := by
  obtain ⟨h1, h2, h3, h4⟩ := hR 1 (by decide)
  have a0 : aI (dm r by_ pp ww o e fo N s) ww 1 = some (s.2.2.1 1) := dm_aW hD s (k := 1) (by decide)
  have b0 : aI (dm r by_ pp ww o e fo N s) pp 1 = some (s.2.1 1) := dm_aP hD s (k := 1) (by decide)
  have h40 : ∀ b : Bool, fX2_couldBeMonth_40 (nI mo) (nI (c 1)) (nI (u 1)) (bI b) (dm r by_ pp ww o e fo N s) = some (bI (decide (c 1 = 0 ∨ mo = u 1 ∨ b = true)), dm r by_ pp ww o e fo N s) := by
    intro b
    unfold fX2_couldBeMonth_40 fX2_couldBeMonth_56 fX2_couldBeMonth_61
    have z0 := nI_z (a := c 1) (by omega)
    have z1 := nI_eq (a := mo) (b := u 1) (by omega) (by omega)
    rw [nz1, nz0]
    by_cases c0 : c 1 = 0
    · rw [if_pos (z0.mpr c0)]
      simp [c0, bI]
    · by_cases c1 : mo = u 1
      · simp [z0, c0, z1, c1, bI]
      · cases b <;> simp [z0, c0, z1, c1, bI]
  unfold fX2_couldBeMonth fX2_couldBeMonth_39
  rw [dm_g7, Option.bind_some, a0, Option.bind_some, dm_g6, Option.bind_some, b0, Option.bind_some, h1, h2]
  have z1 := nI_lit (a := c 1) (by omega) (b := 1) (by decide) (x := 1) rfl
  have dv : nI mo / 10 = nI (mo / 10) := pk_div (d := 10) (by omega) (by decide) (by decide)
  have z2 := nI_eq (a := mo / 10) (b := u 1) (by omega) (by omega)
  have hf := h40 false
  have ht := h40 true
  rw [show bI false = 0 from rfl] at hf
  rw [show bI true = 1 from rfl] at ht
  unfold cbm
  by_cases c1 : c 1 = 1
  · rw [if_pos (z1.mpr c1), dm_g8, Option.bind_some]
    by_cases hg : s.1 = 1
    · rw [if_pos hg, dv]
      by_cases hm : mo / 10 = u 1
      · rw [if_pos (z2.mpr hm), ht]
        simp [c1, hg, hm]
      · rw [if_neg (fun q => hm (z2.mp q)), hf]
        simp [hm]
    · rw [if_neg hg, hf]
      simp [hg]
  · rw [if_neg (fun q => c1 (z1.mp q)), hf]
    simp [c1]
theorem d_cbLoop (hK : LenOk N) (hD : Dst r by_ pp ww) {s : Ds} (hR : Rep s c u) : ∀ (d mo f : Nat), mo + d = 13 → 1 ≤ mo → d < f → fX2_couldBeDay_59 f r (bI (lpN c u)) (nI (ldN c u s.1)) (nI mo) (dm r by_ pp ww o e fo N s) = some (bI (anyN (cdQ c u s.1) d mo), dm r by_ pp ww o e fo N s) := by
  have hl : ldN c u s.1 < 2 ^ 20 := by
    have := (hR 0 (by decide)).2.2.1
    unfold ldN
    split <;> omega
  have hK2 : LenOk (dm r by_ pp ww o e fo N s) := hK
  intro d
  induction d with
  | zero =>
    intro mo f hd h1 hf
    obtain ⟨f, rfl⟩ : ∃ g, f = g + 1 := ⟨f - 1, by omega⟩
    rw [fX2_couldBeDay_59, if_pos (li_gt 12 mo 12 rfl (by omega) (by omega)), nz0]
    rfl
  | succ d ih =>
    intro mo f hd h1 hf
    obtain ⟨f, rfl⟩ : ∃ g, f = g + 1 := ⟨f - 1, by omega⟩
    have hn := ih (mo + 1) f (by omega) (by omega) (by omega)
    rw [fX2_couldBeDay_59, if_neg (li_ngt 12 mo 12 rfl (by omega) (by decide)), dm_ck, Option.bind_some, d_cbm hD hR (by omega), Option.bind_some]
    dsimp only
    unfold fX2_couldBeDay_94
    rw [nI_1, hn]
    cases hb : cbm c u s.1 mo with
    | false =>
      rw [if_pos (by decide)]
      simp [anyN, cdQ, hb]
    | true =>
      rw [if_neg (by decide)]
      by_cases hl1 : ldN c u s.1 < 1
      · rw [if_pos (li_lt 1 _ 1 rfl hl1 (by decide))]
        have : ¬ 1 ≤ ldN c u s.1 := by omega
        simp [anyN, cdQ, this]
      · rw [if_neg (li_nlt 1 _ 1 rfl (by omega) (by omega)), e_cLen hK2 (by omega), Option.bind_some]
        dsimp only
        rw [if_pos (show 1 ≤ mo ∧ mo ≤ 12 by omega), hn]
        have := lenN_le mo (lpN c u)
        by_cases h2 : lenN mo (lpN c u) < ldN c u s.1
        · rw [if_pos (nI_lt h2 (by omega))]
          have : ¬ ldN c u s.1 ≤ lenN mo (lpN c u) := by omega
          simp [anyN, cdQ, this]
        · rw [if_neg (nI_nlt (by omega) (by omega)), nz1, Option.bind_some]
          have h3 : ldN c u s.1 ≤ lenN mo (lpN c u) := by omega
          have h4 : 1 ≤ ldN c u s.1 := by omega
          simp [anyN, cdQ, hb, h3, h4, bI]
theorem d_could (hK : LenOk N) (hD : Dst r by_ pp ww) {s : Ds} (hR : Rep s c u) : fX2_couldBeDay r (dm r by_ pp ww o e fo N s) = some (bI (couldN c u s.1), dm r by_ pp ww o e fo N s) := by
  obtain ⟨h1, h2, h3, h4⟩ := hR 2 (by decide)
  have a0 : aI (dm r by_ pp ww o e fo N s) ww 2 = some (s.2.2.1 2) := dm_aW hD s (k := 2) (by decide)
  have b0 : aI (dm r by_ pp ww o e fo N s) pp 2 = some (s.2.1 2) := dm_aP hD s (k := 2) (by decide)
  have hl := d_cbLoop (o := o) (e := e) (fo := fo) hK hD hR 12 1 FU (by decide) (by decide) (by unfold FU; decide)
  rw [show nI 1 = 1 from rfl] at hl
  have h49 : fX2_couldBeDay_49 r (bI (lpN c u)) (dm r by_ pp ww o e fo N s) = some (bI (anyN (cdQ c u s.1) 12 1), dm r by_ pp ww o e fo N s) := by
    unfold fX2_couldBeDay_49
    rw [dm_ck, Option.bind_some, d_least hD hR, Option.bind_some]
    exact hl
  have z4 := nI_lit (a := c 2) (by omega) (b := 4) (by decide) (x := 4) rfl
  have z0 := nI_z (a := u 2) (by omega)
  unfold fX2_couldBeDay fX2_couldBeDay_15 fX2_couldBeDay_33 fX2_couldBeDay_44
  rw [dm_g7, Option.bind_some, a0, Option.bind_some, h2]
  by_cases c4 : c 2 = 4
  · rw [if_pos (z4.mpr c4), dm_g6, Option.bind_some, b0, Option.bind_some, h1, if_neg (by decide)]
    by_cases u0 : u 2 = 0
    · rw [if_pos (z0.mpr u0), nz0]
      simp [couldN, c4, u0, bI]
    · rw [if_neg (fun q => u0 (z0.mp q)), if_neg (by decide), e_cLeap (by omega), Option.bind_some]
      dsimp only
      have e1 : lpN c u = leapN (u 2) := by simp [lpN, c4]
      have e2 : couldN c u s.1 = anyN (cdQ c u s.1) 12 1 := by simp [couldN, u0]
      rw [e2]
      rw [e1] at h49
      cases hlp : leapN (u 2) with
      | false =>
        rw [hlp] at h49
        rw [if_pos (by decide)]
        exact h49
      | true =>
        rw [hlp] at h49
        rw [if_neg (by decide)]
        exact h49
  · rw [if_neg (fun q => c4 (z4.mp q)), dm_g6, Option.bind_some, b0, Option.bind_some, if_pos rfl, if_pos rfl]
    have e1 : lpN c u = true := by simp [lpN, c4]
    have e2 : couldN c u s.1 = anyN (cdQ c u s.1) 12 1 := by simp [couldN, c4]
    rw [e2]
    rw [e1] at h49
    exact h49
/-- the parts of a day one after the other -/
def dayS (T : Nat → Int32) (n : Nat) (od sg : Int32) (s : Ds) : Ds := closeS n (partS T n (paN od 2) (needS T n sg (partS T n (paN od 1) (needS T n sg (partS T n (paN od 0) s)))))
def z3 (P : Nat → Int32) : Nat → Int32 := upd (upd (upd P 0 0) 1 0) 2 0
/-- how the reading of a day ends -/
def endS (c u : Nat → Nat) (s : Ds) : Ds := if s.2.2.2.2.1 = 0 ∧ isDayN (u 2) (u 1) (u 0) = true then s else if s.2.2.2.2.1 = 2 then s else (s.1, s.2.1, s.2.2.1, s.2.2.2.1, (if couldN c u s.1 = true then 1 else 2), s.2.2.2.2.2)
def endF (c u : Nat → Nat) (s : Ds) (fo : Int64) : Int64 := if s.2.2.2.2.1 = 0 ∧ isDayN (u 2) (u 1) (u 0) = true then lN (dayN (u 0) (u 1) (u 2)) else fo
theorem e_part {M : Mem} (hL : M.2.1 la = some (.inr (0, [.int pt, .int g, .int tw, .int mn, .int mk, .int mb, .int od, .int ds]))) {i : Nat} (hi : i < 3) : fX1_partAt la (nI i) M = some (nI (paN od i), M) := by
  have g6 : gI M 0 la 6 = some od := by simp [gI, gF, hL, vI]
  unfold fX1_partAt fX1_partAt_31 fX1_partAt_32 paN
  rw [g6, Option.bind_some]
  by_cases h2 : od = 2
  · rw [if_pos h2, if_pos h2, show (2 : Int32) - nI i = nI (2 - i) from pk_sub (a := 2) (by omega)]
  · rw [if_neg h2, if_neg h2, Option.bind_some]
    by_cases h1 : od = 1
    · rw [if_pos h1]
      by_cases hi2 : i < 2
      · rw [if_neg (li_nge 2 i 2 rfl hi2 (by decide)), if_pos ⟨h1, hi2⟩, show (1 : Int32) - nI i = nI (1 - i) from pk_sub (a := 1) (by omega)]
      · rw [if_pos (li_ge 2 i 2 rfl (by omega) (by omega)), if_neg (fun q => hi2 q.2)]
    · rw [if_neg h1, if_neg (fun q => h1 q.1)]
theorem paN_lt (od : Int32) {i : Nat} (hi : i < 3) : paN od i < 3 := by
  unfold paN
  split
  · omega
  · split <;> omega
theorem d_124 (hK : LenOk N) (hD : Dst r by_ pp ww) {s : Ds} (hR : Rep s c u) : fX2_readDay_124 r (dm r by_ pp ww o e fo N s) = some (dm r by_ pp ww o e fo N (if s.2.2.2.2.1 = 2 then s else (s.1, s.2.1, s.2.2.1, s.2.2.2.1, (if couldN c u s.1 = true then 1 else 2), s.2.2.2.2.2))) := by
  unfold fX2_readDay_124 fX2_readDay_148 fX2_readDay_145 fX2_readDay_148
  rw [dm_g3, Option.bind_some]
  by_cases h2 : s.2.2.2.2.1 = 2
  · rw [if_pos h2, if_pos h2]
  · rw [if_neg h2, if_neg h2, dm_ck, Option.bind_some, d_could hK hD hR, Option.bind_some]
    dsimp only
    cases hb : couldN c u s.1 with
    | false => rw [if_pos (by decide), dm_p3, Option.bind_some]; rfl
    | true => rw [if_neg (by decide), dm_p3, Option.bind_some]; rfl
theorem d_readDay (hK : LenOk N) (hD : Dst r by_ pp ww) (hT : N.2.1 by_ = some (.inl (.int, cap, .inl T))) (hcap : o + e ≤ cap) (hc : cap < 2 ^ 30) (hL : N.2.1 la = some (.inr (0, [.int pt, .int g, .int tw, .int mn, .int mk, .int mb, .int od, .int ds]))) (hla : la ≠ r ∧ la ≠ pp ∧ la ≠ ww) (s : Ds) (hs : s.2.2.2 = (0, 0, 0)) (S : Ds) (hS : S = dayS (fun k => T (o + k)) e od ds (-1, z3 s.2.1, z3 s.2.2.1, (0, 0, 0))) (hR : Rep S c u) :
    fX2_readDay r la (dm r by_ pp ww o e fo N s) = some (dm r by_ pp ww o e (endF c u S fo) N (endS c u S)) := by
  have hLd : ∀ v : Ds, (dm r by_ pp ww o e fo N v).2.1 la = some (.inr (0, [.int pt, .int g, .int tw, .int mn, .int mk, .int mb, .int od, .int ds])) := by
    intro v
    unfold dm rq
    rw [rd_ne hla.1]
    simp [dN, mst, hla.2.1, hla.2.2, hL]
  have ckL : ∀ v : Ds, ck (dm r by_ pp ww o e fo N v) 0 la = some () := fun v => by simp [ck, hLd v]
  have g7 : ∀ v : Ds, fX1_signOfDays la (dm r by_ pp ww o e fo N v) = some (ds, dm r by_ pp ww o e fo N v) := fun v => by
    unfold fX1_signOfDays
    have : gI (dm r by_ pp ww o e fo N v) 0 la 7 = some ds := by simp [gI, gF, hLd v, vI]
    rw [this, Option.bind_some]
  have step : ∀ (f : Nat) (i : Nat) (v : Ds), i < 3 → v.2.2.2.1 ≤ e → fX2_readDay_51 (fX2_readDay_34 f) r la (nI i) (dm r by_ pp ww o e fo N v) = fX2_readDay_34 f r la (nI (i + 1)) (dm r by_ pp ww o e fo N (partS (fun k => T (o + k)) e (paN od i) v)) := by
    intro f i v hi hv
    unfold fX2_readDay_51
    rw [ckL, Option.bind_some, e_part (hLd v) hi, Option.bind_some, dm_ck, Option.bind_some, d_part hD hT hcap hc (paN_lt od hi) v hv, Option.bind_some, nI_1]
  have n1 : ∀ v : Ds, v.2.2.2.1 ≤ e → (needS (fun k => T (o + k)) e ds v).2.2.2.1 ≤ e := fun v hv => needQ_1 _ _ _ _ hv
  have round : ∀ (f : Nat) (i : Nat) (v : Ds), 1 ≤ i → i < 3 → v.2.2.2.1 ≤ e → fX2_readDay_34 (f + 1) r la (nI i) (dm r by_ pp ww o e fo N v) = fX2_readDay_34 f r la (nI (i + 1)) (dm r by_ pp ww o e fo N (partS (fun k => T (o + k)) e (paN od i) (needS (fun k => T (o + k)) e ds v))) := by
    intro f i v h1 hi hv
    rw [fX2_readDay_34, if_neg (li_nge 3 i 3 rfl hi (by decide)), if_neg (li_nle 0 i 0 rfl (by omega) (by omega)), ckL, Option.bind_some, g7, Option.bind_some, dm_ck, Option.bind_some, d_need hD hT hcap hc ds v hv, Option.bind_some]
    exact step f i _ hi (n1 v hv)
  have r0 : ∀ (f : Nat) (v : Ds), v.2.2.2.1 ≤ e → fX2_readDay_34 (f + 1) r la 0 (dm r by_ pp ww o e fo N v) = fX2_readDay_34 f r la (nI 1) (dm r by_ pp ww o e fo N (partS (fun k => T (o + k)) e (paN od 0) v)) := by
    intro f v hv
    rw [fX2_readDay_34, if_neg (by decide), if_pos (by decide)]
    exact step f 0 v (by decide) hv
  unfold fX2_readDay
  rw [dm_p8, Option.bind_some]
  have a0 : fX2_readDay_7 FU r la 0 (dm r by_ pp ww o e fo N (-1, s.2)) = fX2_readDay_34 FU r la 0 (dm r by_ pp ww o e fo N (-1, z3 s.2.1, z3 s.2.2.1, (0, 0, 0))) := by
    have st : ∀ (f i : Nat) (v : Ds), i < 3 → fX2_readDay_7 (f + 1) r la (nI i) (dm r by_ pp ww o e fo N v) = fX2_readDay_7 f r la (nI (i + 1)) (dm r by_ pp ww o e fo N (v.1, upd v.2.1 i 0, upd v.2.2.1 i 0, v.2.2.2)) := by
      intro f i v hi
      rw [fX2_readDay_7, if_neg (li_nge 3 i 3 rfl hi (by decide)), dm_g6, Option.bind_some, dm_sP hD _ hi, Option.bind_some, dm_g7, Option.bind_some, dm_sW hD _ hi, Option.bind_some, nI_1]
    have e1 : fX2_readDay_7 FU r la 0 (dm r by_ pp ww o e fo N (-1, s.2)) = _ := st 99999 0 (-1, s.2) (by decide)
    have e2 := st 99998 1 (-1, upd s.2.1 0 0, upd s.2.2.1 0 0, s.2.2.2) (by decide)
    have e3 := st 99997 2 (-1, upd (upd s.2.1 0 0) 1 0, upd (upd s.2.2.1 0 0) 1 0, s.2.2.2) (by decide)
    rw [e1]
    refine e2.trans (e3.trans ?_)
    rw [fX2_readDay_7, if_pos (by decide)]
    show fX2_readDay_34 FU r la 0 (dm r by_ pp ww o e fo N (-1, z3 s.2.1, z3 s.2.2.1, s.2.2.2)) = _
    rw [hs]
  rw [a0]
  have q1 : ((-1, z3 s.2.1, z3 s.2.2.1, (0, 0, 0)) : Ds).2.2.2.1 ≤ e := Nat.zero_le _
  have q2 := partS_1 (t := fun k => T (o + k)) (p := paN od 0) q1
  have q3 := partS_1 (t := fun k => T (o + k)) (p := paN od 1) (n1 _ q2)
  have q4 := partS_1 (t := fun k => T (o + k)) (p := paN od 2) (n1 _ q3)
  have f1 : fX2_readDay_34 FU r la 0 (dm r by_ pp ww o e fo N (-1, z3 s.2.1, z3 s.2.2.1, (0, 0, 0))) = _ := r0 99999 _ q1
  rw [f1]
  refine (round 99998 1 _ (by decide) (by decide) q2).trans ((round 99997 2 _ (by decide) (by decide) q3).trans ?_)
  rw [fX2_readDay_34, if_pos (by decide), dm_ck, Option.bind_some]
  have hE : ∀ v : Ds, v.2.2.2.1 ≤ e → fX2_needEnd r (dm r by_ pp ww o e fo N v) = some (dm r by_ pp ww o e fo N (closeS e v)) := fun v hv => r_needEnd (by omega) v.2.2.2 hv
  rw [hE _ q4, Option.bind_some]
  rw [show closeS e (partS (fun k => T (o + k)) e (paN od 2) (needS (fun k => T (o + k)) e ds (partS (fun k => T (o + k)) e (paN od 1) (needS (fun k => T (o + k)) e ds (partS (fun k => T (o + k)) e (paN od 0) (-1, z3 s.2.1, z3 s.2.2.1, (0, 0, 0))))))) = S from hS.symm]
  have b0 : aI (dm r by_ pp ww o e fo N S) pp 0 = some (S.2.1 0) := dm_aP hD S (k := 0) (by decide)
  have b1 : aI (dm r by_ pp ww o e fo N S) pp 1 = some (S.2.1 1) := dm_aP hD S (k := 1) (by decide)
  have b2 : aI (dm r by_ pp ww o e fo N S) pp 2 = some (S.2.1 2) := dm_aP hD S (k := 2) (by decide)
  obtain ⟨u0, -, l0, -⟩ := hR 0 (by decide)
  obtain ⟨u1, -, l1, -⟩ := hR 1 (by decide)
  obtain ⟨u2, -, l2, -⟩ := hR 2 (by decide)
  have hK2 : LenOk (dm r by_ pp ww o e fo N S) := hK
  rw [dm_g6, Option.bind_some, b2, Option.bind_some, Option.bind_some, b1, Option.bind_some, Option.bind_some, b0, Option.bind_some, dm_g3, Option.bind_some, u0, u1, u2]
  unfold endF endS
  by_cases h0 : S.2.2.2.2.1 = 0
  · rw [if_pos h0, e_cIsDay hK2 (by omega) (by omega) (by omega), Option.bind_some]
    dsimp only
    cases hd : isDayN (u 2) (u 1) (u 0) with
    | false =>
      have hno : ¬ (S.2.2.2.2.1 = 0 ∧ false = true) := fun q => by cases q.2
      rw [if_pos (by decide), d_124 hK hD hR, if_neg hno, if_neg hno]
    | true =>
      rw [if_neg (by decide), if_pos ⟨h0, rfl⟩, if_pos ⟨h0, rfl⟩]
      have hd2 := hd
      simp only [isDayN, decide_eq_true_eq] at hd2
      obtain ⟨d1, d2, d3, d4, d5⟩ := hd2
      have := dimN_le (u 1) (u 2)
      rw [e_cNumber hK2 d1 d2 d4.1 d4.2 d3 (by omega), Option.bind_some]
      dsimp only
      rw [nI_l (dayN_lt d2 d4.2 (by omega)), dm_p5, Option.bind_some]
      rfl
  · have hno : ¬ (S.2.2.2.2.1 = 0 ∧ isDayN (u 2) (u 1) (u 0) = true) := fun q => h0 q.1
    rw [if_neg h0, d_124 hK hD hR, if_neg hno, if_neg hno]
end RDAY2
