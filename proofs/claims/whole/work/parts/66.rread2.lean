/-! ===== the class: Reader.read ===== -/
theorem mst_same {N : Mem} {a : Nat} {e : ME} (h : N.2.1 a = some e) : mst N a e = N := by
  refine Prod.ext rfl (Prod.ext (funext fun b => ?_) rfl)
  show (if b = a then some e else N.2.1 b) = N.2.1 b
  by_cases hb : b = a
  · rw [if_pos hb, hb, h]
  · rw [if_neg hb]
theorem mst_at (M : Mem) (a : Nat) (e : ME) : (mst M a e).2.1 a = some e := by simp [mst]
theorem mst_ne (M : Mem) {a b : Nat} (e : ME) (h : b ≠ a) : (mst M a e).2.1 b = M.2.1 b := by simp [mst, h]
/-- a land's eight values: point, group, grouping, minus, mark, behind, order, day sign -/
abbrev L8 : Type := Int32 × Int32 × Int32 × Int32 × Int32 × Int32 × Int32 × Int32
def lcell (v : L8) : ME := .inr (0, [.int v.1, .int v.2.1, .int v.2.2.1, .int v.2.2.2.1, .int v.2.2.2.2.1, .int v.2.2.2.2.2.1, .int v.2.2.2.2.2.2.1, .int v.2.2.2.2.2.2.2])
def L8Ok (v : L8) : Prop := gOk v.1 v.2.1 ∧ (v.2.2.1 = 0 ∨ v.2.2.1 = 1) ∧ (v.2.2.2.1 = 0 ∨ v.2.2.2.1 = 1 ∨ v.2.2.2.1 = 2) ∧ mkOk v.2.2.2.2.1 ∧ (v.2.2.2.2.2.1 = 0 ∨ v.2.2.2.2.2.1 = 1) ∧ (v.2.2.2.2.2.2.1 = 0 ∨ v.2.2.2.2.2.2.1 = 1 ∨ v.2.2.2.2.2.2.1 = 2) ∧ (v.2.2.2.2.2.2.2 = 47 ∨ v.2.2.2.2.2.2.2 = 46 ∨ v.2.2.2.2.2.2.2 = 45)
/-- how n bytes are of a kind by a land: as hld, of the land's values -/
def hlv (v : L8) (kd : Int32) (T : Nat → Int32) (n : Nat) : Int32 × Option Int64 := if (2 : Int32) ≤ kd then (if (hday T v.2.2.2.2.2.2.1 v.2.2.2.2.2.2.2 n).2.isSome = true then 2 else bI (hday T v.2.2.2.2.2.2.1 v.2.2.2.2.2.2.2 n).1, (hday T v.2.2.2.2.2.2.1 v.2.2.2.2.2.2.2 n).2.map lN) else (if (scan T n (cands v.1 v.2.1 v.2.2.1 v.2.2.2.1 v.2.2.2.2.1 v.2.2.2.2.2.1 kd (if kd = 1 then 4 else 2)) 0).2.isSome = true then 2 else (scan T n (cands v.1 v.2.1 v.2.2.1 v.2.2.2.1 v.2.2.2.2.1 v.2.2.2.2.2.1 kd (if kd = 1 then 4 else 2)) 0).1, (scan T n (cands v.1 v.2.1 v.2.2.1 v.2.2.2.1 v.2.2.2.2.1 v.2.2.2.2.2.1 kd (if kd = 1 then 4 else 2)) 0).2)
theorem hld_v (A : Nat → Nat → Int32) (l : Nat) (kd : Int32) (T : Nat → Int32) (n : Nat) : hld A l kd T n = hlv (A 2 l, A 3 l, A 4 l, A 5 l, A 6 l, A 7 l, A 8 l, A 9 l) kd T n := rfl
/-- what a reading found against the reference's -/
def Found (h : Int32 × Option Int64) (st : Int32) (fo : Int64) : Prop := (st = 0 ∧ h = (2, some fo)) ∨ (st = 1 ∧ h = (1, none)) ∨ (st = 2 ∧ h = (0, none))
/-- the reader's three cells, whatever they hold -/
def RdS (r pp ww : Nat) (M : Mem) : Prop := (∃ b at_ en st nu fo gr, M.2.1 r = some (rcell b pp ww at_ en st nu fo gr)) ∧ (∃ P, M.2.1 pp = some (i3 P)) ∧ ∃ W, M.2.1 ww = some (i3 W)
section RREAD2
variable {r by_ pp ww o e cap la : Nat} {N : Mem} {T : Nat → Int32} {fo : Int64} {gr en at_ st : Int32} {nu : Int64}
theorem rd_p0 (b2 : Nat) : pF (rd r by_ pp ww en fo gr N at_ st nu) 1 r 0 (.ref b2) = some (rd r b2 pp ww en fo gr N at_ st nu) := by
  have h : pF (rd r by_ pp ww en fo gr N at_ st nu) 1 r 0 (.ref b2) = some (mst (rd r by_ pp ww en fo gr N at_ st nu) r (rcell b2 pp ww at_ en st nu fo gr)) := by simp [pF, rd_at, rcell]
  rw [h]
  unfold rd
  rw [mst_mst]
theorem rd_p2 (x : Int32) : pF (rd r by_ pp ww en fo gr N at_ st nu) 1 r 2 (.int x) = some (rd r by_ pp ww x fo gr N at_ st nu) := by
  have h : pF (rd r by_ pp ww en fo gr N at_ st nu) 1 r 2 (.int x) = some (mst (rd r by_ pp ww en fo gr N at_ st nu) r (rcell by_ pp ww at_ x st nu fo gr)) := by simp [pF, rd_at, rcell]
  rw [h]
  unfold rd
  rw [mst_mst]
theorem rep_rq {q : Qs} : rq r by_ pp ww o e fo gr N q = rd r by_ pp ww (nI (o + e)) fo gr N (nI (o + q.1)) q.2.1 q.2.2 := rfl
/-- the reader reads as the reference does -/
theorem r_read {kd : Int32} (hkd : kd = 0 ∨ kd = 1 ∨ kd = 2) (hK : LenOk N) (hD : Dst r by_ pp ww) (hS : RdS r pp ww N) (hT : N.2.1 by_ = some (.inl (.int, cap, .inl T))) (hcap : o + e ≤ cap) (hc : cap < 2 ^ 30) (v : L8) (hv : L8Ok v) (hL : N.2.1 la = some (lcell v)) (hla : la ≠ r ∧ la ≠ pp ∧ la ≠ ww) (hb : ∀ k, k < e → ¬ T (o + k) < 0) :
    ∃ st M' fo, fX2_read r by_ (nI o) (nI (o + e)) la kd N = some (st, M') ∧ Found (hlv v kd (fun k => T (o + k)) e) st fo ∧ gL M' 1 r 5 = some fo ∧ RdS r pp ww M' ∧ M'.1 = N.1 ∧ M'.2.2 = N.2.2 ∧ ∀ a, a ≠ r → a ≠ pp → a ≠ ww → M'.2.1 a = N.2.1 a := by
  obtain ⟨⟨b0, at0, en0, st0, nu0, fo0, gr0, h0⟩, ⟨P, hP⟩, ⟨W, hW⟩⟩ := hS
  have e0 : N = rd r b0 pp ww en0 fo0 gr0 N at0 st0 nu0 := (mst_same h0).symm
  have aNl : ∀ (x : Int32) (b : Nat), aN (rd r b pp ww en0 fo0 gr0 N x st0 nu0) by_ = some (nI cap) := by
    intro x b
    unfold aN
    rw [rd_ne hD.1, hT]
    rfl
  have start : fX2_read r by_ (nI o) (nI (o + e)) la kd N = if kd = 2 then ((ck (rq r by_ pp ww o e 0 gr0 N (0, 0, 0)) 1 r).bind fun _ => (fX2_readDay r la (rq r by_ pp ww o e 0 gr0 N (0, 0, 0))).bind fun r11 => fX2_read_71 r r11) else if kd = 1 then fX2_read_68 r 1 la r (rq r by_ pp ww o e 0 gr0 N (0, 0, 0)) else fX2_read_68 r 0 la r (rq r by_ pp ww o e 0 gr0 N (0, 0, 0)) := by
    have e1 : fX2_read r by_ (nI o) (nI (o + e)) la kd N = fX2_read r by_ (nI o) (nI (o + e)) la kd (rd r b0 pp ww en0 fo0 gr0 N at0 st0 nu0) := by rw [← e0]
    rw [e1]
    unfold fX2_read
    rw [rd_p0, Option.bind_some]
    have mx : fJ9_max_7cf53 (nI o) 0 (rd r by_ pp ww en0 fo0 gr0 N at0 st0 nu0) = some (nI o, rd r by_ pp ww en0 fo0 gr0 N at0 st0 nu0) := by
      unfold fJ9_max_7cf53 fJ9_max_7cf53_10
      rw [if_neg (nI_pos (by omega))]
    rw [mx, Option.bind_some]
    dsimp only
    rw [rd_p1, Option.bind_some, aNl, Option.bind_some]
    have mi : ∀ M : Mem, fJ9_min_7cf53 (nI (o + e)) (nI cap) M = some (nI (o + e), M) := by
      intro M
      unfold fJ9_min_7cf53 fJ9_min_7cf53_10
      rw [if_neg (nI_nlt hcap (by omega))]
    rw [mi, Option.bind_some]
    dsimp only
    rw [rd_p2, Option.bind_some, rd_p3, Option.bind_some, rd_p4, Option.bind_some, rd_p5, Option.bind_some]
    rfl
  rw [start]
  have hL2 : N.2.1 la = some (.inr (0, [.int v.1, .int v.2.1, .int v.2.2.1, .int v.2.2.2.1, .int v.2.2.2.2.1, .int v.2.2.2.2.2.1, .int v.2.2.2.2.2.2.1, .int v.2.2.2.2.2.2.2])) := hL
  obtain ⟨v1, v2, v3, v4, v5, v6, v7⟩ := hv
  -- an amount
  have amount : ∀ mo : Int32, (¬ mo = 0 ↔ kd = 1) → (kd = 0 ∨ kd = 1) → ∃ st M' fo, fX2_read_68 r mo la r (rq r by_ pp ww o e 0 gr0 N (0, 0, 0)) = some (st, M') ∧ Found (hlv v kd (fun k => T (o + k)) e) st fo ∧ gL M' 1 r 5 = some fo ∧ RdS r pp ww M' ∧ M'.1 = N.1 ∧ M'.2.2 = N.2.2 ∧ ∀ a, a ≠ r → a ≠ pp → a ≠ ww → M'.2.1 a = N.2.1 a := by
    intro mo hmo hk
    have hr := r_readAmount (r := r) (pp := pp) (ww := ww) (fo := 0) (gr := gr0) hT hD.1 hcap hc hL2 hla.1 mo _ rfl
    have hs := amt_same (T := fun k => T (o + k)) (n := e) (x := v.2.2.1) (bh := v.2.2.2.2.2.1) v1 v3 v4 hmo hb _ rfl
    generalize hw : amtQ (fun k => T (o + k)) e v.1 v.2.1 v.2.2.1 v.2.2.2.1 v.2.2.2.2.1 v.2.2.2.2.2.1 mo = w at hr hs
    refine ⟨w.2.2.1, rq r by_ pp ww o e (if w.1 = true then - w.2.2.2 else w.2.2.2) gr0 N w.2, if w.1 = true then - w.2.2.2 else w.2.2.2, ?_, ?_, ?_, ?_, ?_, ?_, ?_⟩
    · unfold fX2_read_68 fX2_read_71
      rw [rq_ck, Option.bind_some, hr, Option.bind_some]
      have g3 : gI (rq r by_ pp ww o e (if w.1 = true then - w.2.2.2 else w.2.2.2) gr0 N w.2) 1 r 3 = some w.2.2.1 := rd_g3
      rw [g3, Option.bind_some]
    · have hh : hlv v kd (fun k => T (o + k)) e = (if (scan (fun k => T (o + k)) e (cands v.1 v.2.1 v.2.2.1 v.2.2.2.1 v.2.2.2.2.1 v.2.2.2.2.2.1 kd (if kd = 1 then 4 else 2)) 0).2.isSome = true then 2 else (scan (fun k => T (o + k)) e (cands v.1 v.2.1 v.2.2.1 v.2.2.2.1 v.2.2.2.2.1 v.2.2.2.2.2.1 kd (if kd = 1 then 4 else 2)) 0).1, (scan (fun k => T (o + k)) e (cands v.1 v.2.1 v.2.2.1 v.2.2.2.1 v.2.2.2.2.1 v.2.2.2.2.2.1 kd (if kd = 1 then 4 else 2)) 0).2) := by
        unfold hlv
        rw [if_neg (by rcases hk with rfl | rfl <;> decide)]
      rw [hh]
      unfold Found
      rcases hs with ⟨q1, q2⟩ | ⟨q1, q2⟩ | ⟨q1, q2⟩
      · rw [q2]; exact Or.inl ⟨q1, rfl⟩
      · rw [q2]; exact Or.inr (Or.inl ⟨q1, rfl⟩)
      · rw [q2]; exact Or.inr (Or.inr ⟨q1, rfl⟩)
    · exact rd_g5
    · exact ⟨⟨_, _, _, _, _, _, _, rd_at⟩, ⟨P, (rd_ne hD.2.1).trans hP⟩, ⟨W, (rd_ne hD.2.2.1).trans hW⟩⟩
    · rfl
    · rfl
    · exact fun a ha _ _ => rd_ne ha
  rcases hkd with rfl | rfl | rfl
  · rw [if_neg (by decide), if_neg (by decide)]
    exact amount 0 (by decide) (Or.inl rfl)
  · rw [if_neg (by decide), if_pos rfl]
    exact amount 1 (by decide) (Or.inr rfl)
  · rw [if_pos rfl, rq_ck, Option.bind_some]
    have eN : dN pp ww N P W = N := by
      unfold dN
      rw [mst_same hP, mst_same hW]
    have ed : rq r by_ pp ww o e 0 gr0 N (0, 0, 0) = dm r by_ pp ww o e 0 N (gr0, P, W, (0, 0, 0)) := by
      unfold dm
      rw [eN]
    have hR0 : Rp ((-1, z3 P, z3 W, (0, 0, 0)) : Ds) (fun _ => 0) (fun _ => 0) := by
      intro p hp
      rcases (show p = 0 ∨ p = 1 ∨ p = 2 by omega) with rfl | rfl | rfl <;> exact ⟨rfl, rfl⟩
    have hsg : digB v.2.2.2.2.2.2.2 = false := by rcases v7 with h | h | h <;> rw [h] <;> decide
    obtain ⟨c, u, hRep, hcase⟩ := day_same (T := fun k => T (o + k)) (n := e) (o := v.2.2.2.2.2.2.1) (sg := v.2.2.2.2.2.2.2) v6 hsg (-1, z3 P, z3 W, (0, 0, 0)) rfl hR0 _ rfl 0
    have hr := d_readDay (r := r) (pp := pp) (ww := ww) (fo := 0) (c := c) (u := u) hK hD hT hcap hc hL2 hla (gr0, P, W, (0, 0, 0)) rfl _ rfl hRep
    generalize hSS : dayS (fun k => T (o + k)) e v.2.2.2.2.2.2.1 v.2.2.2.2.2.2.2 (-1, z3 P, z3 W, (0, 0, 0)) = S at hcase hRep hr
    refine ⟨(endS c u S).2.2.2.2.1, dm r by_ pp ww o e (endF c u S 0) N (endS c u S), endF c u S 0, ?_, ?_, rd_g5, ?_, rfl, rfl, ?_⟩
    · rw [ed, hr, Option.bind_some]
      unfold fX2_read_71
      rw [dm_g3, Option.bind_some]
    · unfold Found hlv
      rw [if_pos (by decide)]
      rcases hcase with ⟨q1, q2⟩ | ⟨q1, q2⟩ | ⟨q1, q2⟩
      · refine Or.inl ⟨q1, ?_⟩
        have hsome : (hday (fun k => T (o + k)) v.2.2.2.2.2.2.1 v.2.2.2.2.2.2.2 e).2.isSome = true := by
          cases hh : (hday (fun k => T (o + k)) v.2.2.2.2.2.2.1 v.2.2.2.2.2.2.2 e).2 with
          | none => rw [hh] at q2; cases q2
          | some y => rfl
        rw [if_pos hsome, q2]
      · rw [q2]; exact Or.inr (Or.inl ⟨q1, rfl⟩)
      · rw [q2]; exact Or.inr (Or.inr ⟨q1, rfl⟩)
    · exact ⟨⟨_, _, _, _, _, _, _, rd_at⟩, ⟨_, dm_pp hD _⟩, ⟨_, dm_ww hD _⟩⟩
    · intro a h1 h2 h3
      unfold dm rq
      rw [rd_ne h1]
      unfold dN
      rw [mst_ne _ _ h3, mst_ne _ _ h2]
end RREAD2
