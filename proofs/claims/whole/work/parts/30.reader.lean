/-! ===== the class: its reader ===== -/
theorem mst_mst (M : Mem) (a : Nat) (e1 e2 : ME) : mst (mst M a e1) a e2 = mst M a e2 := by
  refine Prod.ext rfl (Prod.ext (funext fun b => ?_) rfl)
  show (if b = a then some e2 else if b = a then some e1 else M.2.1 b) = if b = a then some e2 else M.2.1 b
  by_cases h : b = a
  · rw [if_pos h, if_pos h]
  · rw [if_neg h, if_neg h, if_neg h]
def rcell (by_ pp ww : Nat) (at_ en st : Int32) (nu fo : Int64) (gr : Int32) : ME := .inr (1, [.ref by_, .int at_, .int en, .int st, .long nu, .long fo, .ref pp, .ref ww, .int gr])
def rd (r by_ pp ww : Nat) (en : Int32) (fo : Int64) (gr : Int32) (N : Mem) (at_ st : Int32) (nu : Int64) : Mem := mst N r (rcell by_ pp ww at_ en st nu fo gr)
abbrev Qs : Type := Nat × Int32 × Int64
def lackQ (e : Nat) (q : Qs) : Qs := if q.2.1 = 0 then (q.1, (if q.1 < e then 2 else 1), q.2.2) else q
def passB (t : Nat → Int32) (e : Nat) (sg : Int32) (q : Qs) : Bool := decide (q.2.1 = 0 ∧ q.1 < e ∧ t q.1 = sg)
def passQ (t : Nat → Int32) (e : Nat) (sg : Int32) (q : Qs) : Qs := if passB t e sg q = true then (q.1 + 1, q.2) else q
def needQ (t : Nat → Int32) (e : Nat) (sg : Int32) (q : Qs) : Qs := if passB t e sg q = true then (q.1 + 1, q.2) else lackQ e q
def digB (c : Int32) : Bool := decide (¬ c < 48 ∧ ¬ 57 < c)
def digsQ (t : Nat → Int32) (e : Nat) : Nat → Nat → Qs → Nat × Qs
  | 0, c, q => (c, q)
  | d + 1, c, q => if q.2.1 = 0 ∧ q.1 < e ∧ digB (t q.1) = true then digsQ t e d (c + 1) (q.1 + 1, q.2.1, q.2.2 * 10 + (t q.1 - 48).toInt64) else (c, q)
theorem lackQ_1 (e : Nat) (q : Qs) : (lackQ e q).1 = q.1 := by
  unfold lackQ
  split <;> rfl
theorem passQ_1 (t : Nat → Int32) (e : Nat) (sg : Int32) (q : Qs) (h : q.1 ≤ e) : (passQ t e sg q).1 ≤ e := by
  unfold passQ
  split
  · rename_i hb
    simp only [passB, decide_eq_true_eq] at hb
    show q.1 + 1 ≤ e
    omega
  · exact h
theorem needQ_1 (t : Nat → Int32) (e : Nat) (sg : Int32) (q : Qs) (h : q.1 ≤ e) : (needQ t e sg q).1 ≤ e := by
  unfold needQ
  split
  · rename_i hb
    simp only [passB, decide_eq_true_eq] at hb
    show q.1 + 1 ≤ e
    omega
  · rw [lackQ_1]
    exact h
theorem digsQ_1 (t : Nat → Int32) (e d c : Nat) (q : Qs) (h : q.1 ≤ e) : (digsQ t e d c q).2.1 ≤ e := by
  induction d generalizing c q with
  | zero => exact h
  | succ d ih =>
    simp only [digsQ]
    split
    · rename_i hb
      exact ih _ _ hb.2.1
    · exact h
theorem digsQ_c (t : Nat → Int32) (e d c : Nat) (q : Qs) : (digsQ t e d c q).1 ≤ c + d := by
  induction d generalizing c q with
  | zero => exact Nat.le_refl _
  | succ d ih =>
    simp only [digsQ]
    split
    · have := ih (c + 1) (q.1 + 1, q.2.1, q.2.2 * 10 + (t q.1 - 48).toInt64)
      omega
    · exact Nat.le_add_right _ _
theorem e_isDigit (c : Int32) (M : Mem) : fX7_isDigit c M = some (if digB c = true then 1 else 0, M) := by
  unfold fX7_isDigit fX7_isDigit_16 fX7_isDigit_17 digB
  by_cases h1 : c < 48
  · simp [h1, nz0]
  · by_cases h2 : 57 < c
    · simp [h1, h2, nz0]
    · simp [h1, h2, nz1]
section READER
variable {r by_ pp ww o e cap : Nat} {fo : Int64} {gr : Int32} {N : Mem} {T : Nat → Int32}
/-- the reader's memory at a step: k bytes behind o -/
def rq (r by_ pp ww o e : Nat) (fo : Int64) (gr : Int32) (N : Mem) (q : Qs) : Mem := rd r by_ pp ww (nI (o + e)) fo gr N (nI (o + q.1)) q.2.1 q.2.2
theorem rd_at {en : Int32} {at_ st : Int32} {nu : Int64} : (rd r by_ pp ww en fo gr N at_ st nu).2.1 r = some (rcell by_ pp ww at_ en st nu fo gr) := by simp [rd, mst]
theorem rd_ne {en : Int32} {at_ st : Int32} {nu : Int64} {b : Nat} (h : b ≠ r) : (rd r by_ pp ww en fo gr N at_ st nu).2.1 b = N.2.1 b := by simp [rd, mst, h]
variable {en at_ st x : Int32} {nu y : Int64}
theorem rd_ck : ck (rd r by_ pp ww en fo gr N at_ st nu) 1 r = some () := by simp [ck, rd_at, rcell]
theorem rd_g0 : gN (rd r by_ pp ww en fo gr N at_ st nu) 1 r 0 = some by_ := by simp [gN, gF, rd_at, rcell, vN]
theorem rd_g1 : gI (rd r by_ pp ww en fo gr N at_ st nu) 1 r 1 = some at_ := by simp [gI, gF, rd_at, rcell, vI]
theorem rd_g2 : gI (rd r by_ pp ww en fo gr N at_ st nu) 1 r 2 = some en := by simp [gI, gF, rd_at, rcell, vI]
theorem rd_g3 : gI (rd r by_ pp ww en fo gr N at_ st nu) 1 r 3 = some st := by simp [gI, gF, rd_at, rcell, vI]
theorem rd_g4 : gL (rd r by_ pp ww en fo gr N at_ st nu) 1 r 4 = some nu := by simp [gL, gF, rd_at, rcell, vL]
theorem rd_g5 : gL (rd r by_ pp ww en fo gr N at_ st nu) 1 r 5 = some fo := by simp [gL, gF, rd_at, rcell, vL]
theorem rd_p1 : pF (rd r by_ pp ww en fo gr N at_ st nu) 1 r 1 (.int x) = some (rd r by_ pp ww en fo gr N x st nu) := by
  have h : pF (rd r by_ pp ww en fo gr N at_ st nu) 1 r 1 (.int x) = some (mst (rd r by_ pp ww en fo gr N at_ st nu) r (rcell by_ pp ww x en st nu fo gr)) := by simp [pF, rd_at, rcell]
  rw [h]
  unfold rd
  rw [mst_mst]
theorem rd_p3 : pF (rd r by_ pp ww en fo gr N at_ st nu) 1 r 3 (.int x) = some (rd r by_ pp ww en fo gr N at_ x nu) := by
  have h : pF (rd r by_ pp ww en fo gr N at_ st nu) 1 r 3 (.int x) = some (mst (rd r by_ pp ww en fo gr N at_ st nu) r (rcell by_ pp ww at_ en x nu fo gr)) := by simp [pF, rd_at, rcell]
  rw [h]
  unfold rd
  rw [mst_mst]
theorem rd_p4 : pF (rd r by_ pp ww en fo gr N at_ st nu) 1 r 4 (.long y) = some (rd r by_ pp ww en fo gr N at_ st y) := by
  have h : pF (rd r by_ pp ww en fo gr N at_ st nu) 1 r 4 (.long y) = some (mst (rd r by_ pp ww en fo gr N at_ st nu) r (rcell by_ pp ww at_ en st y fo gr)) := by simp [pF, rd_at, rcell]
  rw [h]
  unfold rd
  rw [mst_mst]
theorem rd_p5 : pF (rd r by_ pp ww en fo gr N at_ st nu) 1 r 5 (.long y) = some (rd r by_ pp ww en y gr N at_ st nu) := by
  have h : pF (rd r by_ pp ww en fo gr N at_ st nu) 1 r 5 (.long y) = some (mst (rd r by_ pp ww en fo gr N at_ st nu) r (rcell by_ pp ww at_ en st nu y gr)) := by simp [pF, rd_at, rcell]
  rw [h]
  unfold rd
  rw [mst_mst]
theorem rd_a {k : Nat} (hT : N.2.1 by_ = some (.inl (.int, cap, .inl T))) (hne : by_ ≠ r) (hk : k < cap) (hc : cap < 2 ^ 31) : aI (rd r by_ pp ww en fo gr N at_ st nu) by_ (nI k) = some (T k) := by
  simp [aI, rd_ne hne, hT, inr_nI hk hc, nI_clamp (show k < 2 ^ 31 by omega)]
theorem r_lack (ho : o + e < 2 ^ 30) (q : Qs) (hq : q.1 ≤ e) : fX2_lack r (rq r by_ pp ww o e fo gr N q) = some (rq r by_ pp ww o e fo gr N (lackQ e q)) := by
  unfold fX2_lack fX2_lack_24 fX2_lack_27 rq lackQ
  rw [rd_g3, Option.bind_some]
  by_cases hs : q.2.1 = 0
  · rw [if_pos hs, rd_g1, Option.bind_some, rd_g2, Option.bind_some, if_pos hs]
    by_cases hk : q.1 < e
    · rw [if_pos (nI_lt (by omega) (by omega)), rd_p3, Option.bind_some]
      simp [hk]
    · rw [if_neg (nI_nlt (by omega) (by omega)), rd_p3, Option.bind_some]
      simp [hk]
  · rw [if_neg hs, if_neg hs]
theorem r_passes (hT : N.2.1 by_ = some (.inl (.int, cap, .inl T))) (hne : by_ ≠ r) (hcap : o + e ≤ cap) (hc : cap < 2 ^ 30) (sg : Int32) (q : Qs) (hq : q.1 ≤ e) : fX2_passes r sg (rq r by_ pp ww o e fo gr N q) = some (if passB (fun k => T (o + k)) e sg q = true then 1 else 0, rq r by_ pp ww o e fo gr N (passQ (fun k => T (o + k)) e sg q)) := by
  unfold fX2_passes fX2_passes_31 passQ rq
  rw [rd_g3, Option.bind_some, nz0, nz1]
  by_cases hs : q.2.1 = 0
  · rw [if_pos hs, rd_g1, Option.bind_some, rd_g2, Option.bind_some]
    by_cases hk : q.1 < e
    · rw [if_neg (nI_ge (by omega) (by omega)), rd_g0, Option.bind_some]
      simp only [Option.bind_some]
      rw [rd_a hT hne (by omega) (by omega), Option.bind_some]
      by_cases hc : T (o + q.1) = sg
      · have hb : passB (fun k => T (o + k)) e sg q = true := by simp [passB, hs, hk, hc]
        rw [if_pos hc, hb]
        simp only [Option.bind_some, rd_p1, nI_1, if_true, Nat.add_assoc]
      · have hb : passB (fun k => T (o + k)) e sg q = false := by simp [passB, hc]
        rw [if_neg hc, hb]
        rfl
    · have hb : passB (fun k => T (o + k)) e sg q = false := by simp [passB, hk]
      rw [if_pos (nI_le (by omega) (by omega)), hb]
      rfl
  · have hb : passB (fun k => T (o + k)) e sg q = false := by simp [passB, hs]
    rw [if_neg hs, hb]
    rfl
theorem r_need (hT : N.2.1 by_ = some (.inl (.int, cap, .inl T))) (hne : by_ ≠ r) (hcap : o + e ≤ cap) (hc : cap < 2 ^ 30) (sg : Int32) (q : Qs) (hq : q.1 ≤ e) : fX2_need r sg (rq r by_ pp ww o e fo gr N q) = some (rq r by_ pp ww o e fo gr N (needQ (fun k => T (o + k)) e sg q)) := by
  have hck : ∀ q, ck (rq r by_ pp ww o e fo gr N q) 1 r = some () := fun q => rd_ck
  unfold fX2_need fX2_need_12 needQ
  rw [hck, Option.bind_some, r_passes hT hne hcap hc sg q hq, Option.bind_some]
  by_cases hb : passB (fun k => T (o + k)) e sg q = true
  · simp only [hb, if_true, passQ]
    rw [if_neg (by decide)]
  · simp only [hb, Bool.false_eq_true, if_false, passQ]
    rw [if_pos trivial, hck, Option.bind_some, r_lack (by omega) q hq, Option.bind_some]
theorem r_needEnd (ho : o + e < 2 ^ 30) (q : Qs) (hq : q.1 ≤ e) : fX2_needEnd r (rq r by_ pp ww o e fo gr N q) = some (rq r by_ pp ww o e fo gr N (if q.1 < e then lackQ e q else q)) := by
  have hck : ∀ q, ck (rq r by_ pp ww o e fo gr N q) 1 r = some () := fun q => rd_ck
  unfold fX2_needEnd fX2_needEnd_15
  have g1 : gI (rq r by_ pp ww o e fo gr N q) 1 r 1 = some (nI (o + q.1)) := rd_g1
  have g2 : gI (rq r by_ pp ww o e fo gr N q) 1 r 2 = some (nI (o + e)) := rd_g2
  rw [g1, Option.bind_some, g2, Option.bind_some]
  by_cases hk : q.1 < e
  · rw [if_neg (nI_ge (by omega) (by omega)), hck, Option.bind_some, r_lack ho q hq, Option.bind_some, if_pos hk]
  · rw [if_pos (nI_le (by omega) (by omega)), if_neg hk]
theorem r_digs (hT : N.2.1 by_ = some (.inl (.int, cap, .inl T))) (hne : by_ ≠ r) (hcap : o + e ≤ cap) (hc : cap < 2 ^ 30) {most : Nat} (hm : most < 100) : ∀ (d c f : Nat) (q : Qs), c + d = most → d < f → q.1 ≤ e → fX2_passDigits_2 f r (nI most) (nI c) (rq r by_ pp ww o e fo gr N q) = some (nI (digsQ (fun k => T (o + k)) e d c q).1, rq r by_ pp ww o e fo gr N (digsQ (fun k => T (o + k)) e d c q).2) := by
  intro d
  induction d with
  | zero =>
    intro c f q hcd hf hq
    obtain ⟨f, rfl⟩ : ∃ g, f = g + 1 := ⟨f - 1, by omega⟩
    rw [fX2_passDigits_2, if_pos (nI_le (by omega) (by omega))]
    rfl
  | succ d ih =>
    intro c f q hcd hf hq
    obtain ⟨f, rfl⟩ : ∃ g, f = g + 1 := ⟨f - 1, by omega⟩
    have g1 : gI (rq r by_ pp ww o e fo gr N q) 1 r 1 = some (nI (o + q.1)) := rd_g1
    have g2 : gI (rq r by_ pp ww o e fo gr N q) 1 r 2 = some (nI (o + e)) := rd_g2
    have g3 : gI (rq r by_ pp ww o e fo gr N q) 1 r 3 = some q.2.1 := rd_g3
    have g0 : gN (rq r by_ pp ww o e fo gr N q) 1 r 0 = some by_ := rd_g0
    have g4 : gL (rq r by_ pp ww o e fo gr N q) 1 r 4 = some q.2.2 := rd_g4
    rw [fX2_passDigits_2, if_neg (nI_ge (by omega) (by omega)), g3, Option.bind_some]
    unfold fX2_passDigits_82
    by_cases hs : q.2.1 = 0
    · rw [if_pos hs, g1, Option.bind_some, g2, Option.bind_some]
      by_cases hk : q.1 < e
      · have ga : aI (rq r by_ pp ww o e fo gr N q) by_ (nI (o + q.1)) = some (T (o + q.1)) := rd_a hT hne (by omega) (by omega)
        rw [if_neg (nI_ge (by omega) (by omega)), g0, Option.bind_some]
        simp only [Option.bind_some]
        rw [ga, Option.bind_some, e_isDigit, Option.bind_some]
        by_cases hb : digB (T (o + q.1)) = true
        · simp only [hb, if_true]
          rw [if_neg (by decide), g4, Option.bind_some, g0, Option.bind_some, g1, Option.bind_some, ga, Option.bind_some]
          have p4 : pF (rq r by_ pp ww o e fo gr N q) 1 r 4 (.long (q.2.2 * 10 + (T (o + q.1) - 48).toInt64)) = some (rd r by_ pp ww (nI (o + e)) fo gr N (nI (o + q.1)) q.2.1 (q.2.2 * 10 + (T (o + q.1) - 48).toInt64)) := rd_p4
          rw [p4, Option.bind_some, rd_g1, Option.bind_some, rd_p1, Option.bind_some, nI_1, nI_1]
          have := ih (c + 1) f (q.1 + 1, q.2.1, q.2.2 * 10 + (T (o + q.1) - 48).toInt64) (by omega) (by omega) hk
          simp only [rq] at this ⊢
          rw [show o + q.1 + 1 = o + (q.1 + 1) by omega, this]
          simp only [digsQ, hs, hk, hb, and_self, if_true]
        · simp only [hb, Bool.false_eq_true, if_false]
          rw [if_pos trivial]
          simp only [digsQ]
          rw [if_neg (fun h => hb h.2.2)]
      · rw [if_pos (nI_le (by omega) (by omega))]
        simp only [digsQ]
        rw [if_neg (fun h => hk h.2.1)]
    · rw [if_neg hs]
      simp only [digsQ]
      rw [if_neg (fun h => hs h.1)]
theorem r_passDigits (hT : N.2.1 by_ = some (.inl (.int, cap, .inl T))) (hne : by_ ≠ r) (hcap : o + e ≤ cap) (hc : cap < 2 ^ 30) {most : Nat} (hm : most < 100) (q : Qs) (hq : q.1 ≤ e) : fX2_passDigits r (nI most) (rq r by_ pp ww o e fo gr N q) = some (nI (digsQ (fun k => T (o + k)) e most 0 q).1, rq r by_ pp ww o e fo gr N (digsQ (fun k => T (o + k)) e most 0 q).2) := by
  unfold fX2_passDigits
  exact r_digs hT hne hcap hc hm most 0 FU q (by omega) (by unfold FU; omega) hq
end READER
