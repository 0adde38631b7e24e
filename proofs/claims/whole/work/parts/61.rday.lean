/-! ===== the class: reading a day ===== -/
abbrev Ds : Type := Int32 × (Nat → Int32) × (Nat → Int32) × Qs
def i3 (P : Nat → Int32) : ME := .inl (.int, 3, .inl P)
def dN (pp ww : Nat) (N : Mem) (P W : Nat → Int32) : Mem := mst (mst N pp (i3 P)) ww (i3 W)
def dm (r by_ pp ww o e : Nat) (fo : Int64) (N : Mem) (s : Ds) : Mem := rq r by_ pp ww o e fo s.1 (dN pp ww N s.2.1 s.2.2.1) s.2.2.2
def Dst (r by_ pp ww : Nat) : Prop := by_ ≠ r ∧ pp ≠ r ∧ ww ≠ r ∧ pp ≠ ww ∧ by_ ≠ pp ∧ by_ ≠ ww
def partS (T : Nat → Int32) (n p : Nat) (s : Ds) : Ds :=
  if s.2.2.2.2.1 = 0 then
    let z := digsQ T n (if p = 2 then 4 else 2) 0 (s.2.2.2.1, s.2.2.2.2.1, 0)
    (if z.2.1 < n then s.1 else nI p, upd s.2.1 p z.2.2.2.toInt32, upd s.2.2.1 p (nI z.1), if z.1 < (if p = 2 then 4 else 1) then lackQ n z.2 else z.2)
  else s
def needS (T : Nat → Int32) (n : Nat) (sg : Int32) (s : Ds) : Ds := (s.1, s.2.1, s.2.2.1, needQ T n sg s.2.2.2)
def closeS (n : Nat) (s : Ds) : Ds := (s.1, s.2.1, s.2.2.1, closeQ n s.2.2.2)
def paN (o : Int32) (i : Nat) : Nat := if o = 2 then 2 - i else if o = 1 ∧ i < 2 then 1 - i else i
section RDAY
variable {r by_ pp ww o e cap la : Nat} {fo : Int64} {N : Mem} {T : Nat → Int32} {pt g tw mn mk mb od ds : Int32}
theorem dm_ck (s : Ds) : ck (dm r by_ pp ww o e fo N s) 1 r = some () := rd_ck
theorem dm_g6 (s : Ds) : gN (dm r by_ pp ww o e fo N s) 1 r 6 = some pp := by simp [dm, rq, gN, gF, rd_at, rcell, vN]
theorem dm_g7 (s : Ds) : gN (dm r by_ pp ww o e fo N s) 1 r 7 = some ww := by simp [dm, rq, gN, gF, rd_at, rcell, vN]
theorem dm_g8 (s : Ds) : gI (dm r by_ pp ww o e fo N s) 1 r 8 = some s.1 := by simp [dm, rq, gI, gF, rd_at, rcell, vI]
theorem dm_g1 (s : Ds) : gI (dm r by_ pp ww o e fo N s) 1 r 1 = some (nI (o + s.2.2.2.1)) := rd_g1
theorem dm_g2 (s : Ds) : gI (dm r by_ pp ww o e fo N s) 1 r 2 = some (nI (o + e)) := rd_g2
theorem dm_g3 (s : Ds) : gI (dm r by_ pp ww o e fo N s) 1 r 3 = some s.2.2.2.2.1 := rd_g3
theorem dm_g4 (s : Ds) : gL (dm r by_ pp ww o e fo N s) 1 r 4 = some s.2.2.2.2.2 := rd_g4
theorem dm_p8 (s : Ds) (x : Int32) : pF (dm r by_ pp ww o e fo N s) 1 r 8 (.int x) = some (dm r by_ pp ww o e fo N (x, s.2)) := by
  have h : pF (dm r by_ pp ww o e fo N s) 1 r 8 (.int x) = some (mst (dm r by_ pp ww o e fo N s) r (rcell by_ pp ww (nI (o + s.2.2.2.1)) (nI (o + e)) s.2.2.2.2.1 s.2.2.2.2.2 fo x)) := by simp [dm, rq, pF, rd_at, rcell]
  rw [h]
  unfold dm rq rd
  rw [mst_mst]
theorem dm_p3 (s : Ds) (x : Int32) : pF (dm r by_ pp ww o e fo N s) 1 r 3 (.int x) = some (dm r by_ pp ww o e fo N (s.1, s.2.1, s.2.2.1, s.2.2.2.1, x, s.2.2.2.2.2)) := rd_p3
theorem dm_p4 (s : Ds) (y : Int64) : pF (dm r by_ pp ww o e fo N s) 1 r 4 (.long y) = some (dm r by_ pp ww o e fo N (s.1, s.2.1, s.2.2.1, s.2.2.2.1, s.2.2.2.2.1, y)) := rd_p4
theorem dm_p5 (s : Ds) (y : Int64) : pF (dm r by_ pp ww o e fo N s) 1 r 5 (.long y) = some (dm r by_ pp ww o e y N s) := rd_p5
theorem dm_pp (hD : Dst r by_ pp ww) (s : Ds) : (dm r by_ pp ww o e fo N s).2.1 pp = some (i3 s.2.1) := by
  obtain ⟨h1, h2, h3, h4, h5, h6⟩ := hD
  unfold dm rq
  rw [rd_ne h2]
  simp [dN, mst, h4]
theorem dm_ww (hD : Dst r by_ pp ww) (s : Ds) : (dm r by_ pp ww o e fo N s).2.1 ww = some (i3 s.2.2.1) := by
  obtain ⟨h1, h2, h3, h4, h5, h6⟩ := hD
  unfold dm rq
  rw [rd_ne h3]
  simp [dN, mst]
theorem dm_aP (hD : Dst r by_ pp ww) (s : Ds) {k : Nat} (hk : k < 3) : aI (dm r by_ pp ww o e fo N s) pp (nI k) = some (s.2.1 k) := by
  simp [aI, dm_pp hD, i3, inr_nI hk (by decide), nI_clamp (show k < 2 ^ 31 by omega)]
theorem dm_aW (hD : Dst r by_ pp ww) (s : Ds) {k : Nat} (hk : k < 3) : aI (dm r by_ pp ww o e fo N s) ww (nI k) = some (s.2.2.1 k) := by
  simp [aI, dm_ww hD, i3, inr_nI hk (by decide), nI_clamp (show k < 2 ^ 31 by omega)]
theorem mst_comm (M : Mem) {a b : Nat} (h : a ≠ b) (e1 e2 : ME) : mst (mst M a e1) b e2 = mst (mst M b e2) a e1 := by
  refine Prod.ext rfl (Prod.ext (funext fun c => ?_) rfl)
  show (if c = b then some e2 else if c = a then some e1 else M.2.1 c) = if c = a then some e1 else if c = b then some e2 else M.2.1 c
  by_cases h1 : c = b
  · subst h1
    rw [if_pos rfl, if_neg (fun q => h q.symm), if_pos rfl]
  · rw [if_neg h1, if_neg h1]
theorem dm_sP (hD : Dst r by_ pp ww) (s : Ds) {k : Nat} (hk : k < 3) (x : Int32) : sI (dm r by_ pp ww o e fo N s) pp (nI k) x = some (dm r by_ pp ww o e fo N (s.1, upd s.2.1 k x, s.2.2)) := by
  have h : sI (dm r by_ pp ww o e fo N s) pp (nI k) x = some (mst (dm r by_ pp ww o e fo N s) pp (i3 (upd s.2.1 k x))) := by
    simp [sI, dm_pp hD, i3, inr_nI hk (by decide), nI_clamp (show k < 2 ^ 31 by omega)]
  rw [h]
  obtain ⟨h1, h2, h3, h4, h5, h6⟩ := hD
  unfold dm rq rd dN
  rw [mst_comm _ (Ne.symm h2), mst_comm _ (Ne.symm h4), mst_mst]
theorem dm_sW (hD : Dst r by_ pp ww) (s : Ds) {k : Nat} (hk : k < 3) (x : Int32) : sI (dm r by_ pp ww o e fo N s) ww (nI k) x = some (dm r by_ pp ww o e fo N (s.1, s.2.1, upd s.2.2.1 k x, s.2.2.2)) := by
  have h : sI (dm r by_ pp ww o e fo N s) ww (nI k) x = some (mst (dm r by_ pp ww o e fo N s) ww (i3 (upd s.2.2.1 k x))) := by
    simp [sI, dm_ww hD, i3, inr_nI hk (by decide), nI_clamp (show k < 2 ^ 31 by omega)]
  rw [h]
  obtain ⟨h1, h2, h3, h4, h5, h6⟩ := hD
  unfold dm rq rd dN
  rw [mst_comm _ (Ne.symm h3), mst_mst]
theorem dN_by (hD : Dst r by_ pp ww) (hT : N.2.1 by_ = some (.inl (.int, cap, .inl T))) (P W : Nat → Int32) : (dN pp ww N P W).2.1 by_ = some (.inl (.int, cap, .inl T)) := by
  obtain ⟨h1, h2, h3, h4, h5, h6⟩ := hD
  simp [dN, mst, h5, h6, hT]
theorem d_lack (hc : o + e < 2 ^ 30) (s : Ds) (hq : s.2.2.2.1 ≤ e) : fX2_lack r (dm r by_ pp ww o e fo N s) = some (dm r by_ pp ww o e fo N (s.1, s.2.1, s.2.2.1, lackQ e s.2.2.2)) := r_lack hc s.2.2.2 hq
theorem d_need (hD : Dst r by_ pp ww) (hT : N.2.1 by_ = some (.inl (.int, cap, .inl T))) (hcap : o + e ≤ cap) (hc : cap < 2 ^ 30) (sg : Int32) (s : Ds) (hq : s.2.2.2.1 ≤ e) : fX2_need r sg (dm r by_ pp ww o e fo N s) = some (dm r by_ pp ww o e fo N (needS (fun k => T (o + k)) e sg s)) := r_need (dN_by hD hT _ _) hD.1 hcap hc sg s.2.2.2 hq
theorem partS_1 {t : Nat → Int32} {n p : Nat} {s : Ds} (h : s.2.2.2.1 ≤ n) : (partS t n p s).2.2.2.1 ≤ n := by
  unfold partS
  split
  · have := digsQ_1 t n (if p = 2 then 4 else 2) 0 (s.2.2.2.1, s.2.2.2.2.1, 0) h
    generalize digsQ t n (if p = 2 then 4 else 2) 0 (s.2.2.2.1, s.2.2.2.2.1, 0) = z at this ⊢
    dsimp only
    by_cases hl : z.1 < (if p = 2 then 4 else 1)
    · rw [if_pos hl, lackQ_1]; exact this
    · rw [if_neg hl]; exact this
  · exact h
theorem d_part (hD : Dst r by_ pp ww) (hT : N.2.1 by_ = some (.inl (.int, cap, .inl T))) (hcap : o + e ≤ cap) (hc : cap < 2 ^ 30) {p : Nat} (hp : p < 3) (s : Ds) (hq : s.2.2.2.1 ≤ e) : fX2_needPart r (nI p) (dm r by_ pp ww o e fo N s) = some (dm r by_ pp ww o e fo N (partS (fun k => T (o + k)) e p s)) := by
  unfold fX2_needPart fX2_needPart_16 partS
  rw [dm_g3, Option.bind_some]
  by_cases hs : s.2.2.2.2.1 = 0
  · rw [if_pos hs, if_pos hs, if_neg (nI_pos (by omega)), if_pos (li_lt 3 p 3 rfl hp (by decide))]
    have h94 : ∀ (k : Nat) (c : Nat) (u : Ds), u.2.2.2.1 ≤ e → k < 100 → c < 100 → fX2_needPart_94 r (nI k) (nI c) (dm r by_ pp ww o e fo N u) = some (dm r by_ pp ww o e fo N (u.1, u.2.1, u.2.2.1, if c < k then lackQ e u.2.2.2 else u.2.2.2)) := by
      intro k c u hu hk hcc
      unfold fX2_needPart_94 fX2_needPart_101
      by_cases h : c < k
      · rw [if_neg (nI_ge h (by omega)), dm_ck, Option.bind_some, d_lack (by omega) u hu, Option.bind_some, if_pos h]
      · rw [if_pos (nI_le (by omega) (by omega)), if_neg h]
    have h48 : ∀ (x2 : Int32) (mx k : Nat), mx < 100 → k < 100 → (∀ (v : Int32) (M : Mem), (if x2 = 0 then fX2_needPart_94 r 1 v M else fX2_needPart_94 r 4 v M) = fX2_needPart_94 r (nI k) v M) → fX2_needPart_48 r (nI p) x2 (nI mx) r (nI p) ww (dm r by_ pp ww o e fo N (s.1, s.2.1, s.2.2.1, s.2.2.2.1, s.2.2.2.2.1, 0)) = some (dm r by_ pp ww o e fo N (let z := digsQ (fun k => T (o + k)) e mx 0 (s.2.2.2.1, s.2.2.2.2.1, 0)
        (if z.2.1 < e then s.1 else nI p, upd s.2.1 p z.2.2.2.toInt32, upd s.2.2.1 p (nI z.1), if z.1 < k then lackQ e z.2 else z.2))) := by
      intro x2 mx k hmx hk hx
      unfold fX2_needPart_48 fX2_needPart_79
      have hdg := r_passDigits (r := r) (pp := pp) (ww := ww) (fo := fo) (gr := s.1) (N := dN pp ww N s.2.1 s.2.2.1) (dN_by hD hT s.2.1 s.2.2.1) hD.1 hcap hc hmx (s.2.2.2.1, s.2.2.2.2.1, 0) hq
      have hz := digsQ_1 (fun k => T (o + k)) e mx 0 (s.2.2.2.1, s.2.2.2.2.1, 0) hq
      have hzc := digsQ_c (fun k => T (o + k)) e mx 0 (s.2.2.2.1, s.2.2.2.2.1, 0)
      rw [dm_ck, Option.bind_some]
      show ((fX2_passDigits r (nI mx) (rq r by_ pp ww o e fo s.1 (dN pp ww N s.2.1 s.2.2.1) (s.2.2.2.1, s.2.2.2.2.1, 0))).bind _) = _
      rw [hdg, Option.bind_some]
      dsimp only
      generalize digsQ (fun k => T (o + k)) e mx 0 (s.2.2.2.1, s.2.2.2.2.1, 0) = z at hz hzc ⊢
      show ((sI (dm r by_ pp ww o e fo N (s.1, s.2.1, s.2.2.1, z.2)) ww (nI p) (nI z.1)).bind _) = _
      rw [dm_sW hD _ hp, Option.bind_some, dm_g6, Option.bind_some, dm_g4, Option.bind_some, dm_sP hD _ hp, Option.bind_some, dm_g1, Option.bind_some, dm_g2, Option.bind_some]
      dsimp only
      have fin : ∀ gr', ((gN (dm r by_ pp ww o e fo N (gr', upd s.2.1 p z.2.2.2.toInt32, upd s.2.2.1 p (nI z.1), z.2)) 1 r 7).bind fun v1 => (aI (dm r by_ pp ww o e fo N (gr', upd s.2.1 p z.2.2.2.toInt32, upd s.2.2.1 p (nI z.1), z.2)) v1 (nI p)).bind fun v2 => if x2 = 0 then fX2_needPart_94 r 1 v2 (dm r by_ pp ww o e fo N (gr', upd s.2.1 p z.2.2.2.toInt32, upd s.2.2.1 p (nI z.1), z.2)) else fX2_needPart_94 r 4 v2 (dm r by_ pp ww o e fo N (gr', upd s.2.1 p z.2.2.2.toInt32, upd s.2.2.1 p (nI z.1), z.2))) = some (dm r by_ pp ww o e fo N (gr', upd s.2.1 p z.2.2.2.toInt32, upd s.2.2.1 p (nI z.1), if z.1 < k then lackQ e z.2 else z.2)) := by
        intro gr'
        rw [dm_g7, Option.bind_some, dm_aW hD _ hp, Option.bind_some, hx]
        dsimp only
        rw [show upd s.2.2.1 p (nI z.1) p = nI z.1 from pk_us, h94 k z.1 _ hz hk (by omega)]
      by_cases hl : z.2.1 < e
      · rw [if_pos (nI_lt (by omega) (by omega)), if_pos hl]
        exact fin s.1
      · rw [if_neg (nI_nlt (by omega) (by omega)), if_neg hl, dm_p8, Option.bind_some]
        exact fin (nI p)
    have a2 := nI_lit (a := p) (by omega) (b := 2) (by decide) (x := 2) rfl
    unfold fX2_needPart_27
    by_cases h2 : p = 2
    · rw [if_pos (a2.mpr h2), dm_p4, Option.bind_some, dm_g7, Option.bind_some, if_neg (by decide), if_pos h2, if_pos h2]
      exact h48 1 4 4 (by decide) (by decide) (fun v M => by rw [if_neg (by decide)]; rfl)
    · rw [if_neg (fun q => h2 (a2.mp q)), dm_p4, Option.bind_some, dm_g7, Option.bind_some, if_pos rfl, if_neg h2, if_neg h2]
      exact h48 0 2 1 (by decide) (by decide) (fun v M => by rw [if_pos rfl]; rfl)
  · rw [if_neg hs, if_neg hs]
end RDAY
