/-! ===== the reference: sum, fit, state ===== -/
/-- the sum of the rows r, r + 1 .. (so many), as long as they count -/
def sumS (W : Nat → Int32 × Option Int64) (P : Nat → Bool) : Nat → Nat → Int64 → Int64
  | 0, _, s => s
  | d + 1, r, s => if P r = true then sumS W P d (r + 1) (s + (W r).2.getD 0) else LEAST
def rowW (A : Nat → Nat → Int32) (len : Nat → Nat) (l k r : Nat) : Int32 × Option Int64 := hld A l (nI k) (fun j => A 16 (60 * r + j) &&& 255) (len r)
section MPUB2
variable {m : Nat} {A : Nat → Nat → Int32} {B : Nat → Nat → Int64} {N M : Mem} {nl nr : Nat} {len : Nat → Nat}
theorem rm_14 (hA14 : A 14 0 = nI nr) (R : RM m A B N M) : gN M 5 m 14 = some (m + 14) ∧ aI M (m + 14) 0 = some (nI nr) := by
  obtain ⟨I, A', fd, rfl, hC⟩ := R
  refine ⟨mm_gN14, ?_⟩
  rw [mm_aI14, if_pos (by decide)]
  show some (A' 14 0) = _
  rw [hC 14 (by decide), hA14]
theorem rm_1 (hA1 : A 1 0 = nI nl) (R : RM m A B N M) : gN M 5 m 1 = some (m + 1) ∧ aI M (m + 1) 0 = some (nI nl) := by
  obtain ⟨I, A', fd, rfl, hC⟩ := R
  refine ⟨mm_gN1, ?_⟩
  rw [mm_aI1, if_pos (by decide)]
  show some (A' 1 0) = _
  rw [hC 1 (by decide), hA1]
theorem p_sumLoop {l k : Nat} (hl : l < 24) (hk : k < 12) (hnr : nr ≤ 30) (hA14 : A 14 0 = nI nr) (hlen : ∀ r, r < nr → len r ≤ 60 ∧ A 15 r = nI (len r)) : ∀ (d r f : Nat) (s : Int64) (M : Mem), r + d = nr → d < f → RM m A B N M → ∃ M', RM m A B N M' ∧ fX8_sum_31 f m (nI l) (nI k) s (nI r) M = some (sumS (rowW A len l k) (rowOk A B len l k) d r s, M') := by
  intro d
  induction d with
  | zero =>
    intro r f s M hr hf R
    obtain ⟨f, rfl⟩ : ∃ g, f = g + 1 := ⟨f - 1, by omega⟩
    refine ⟨M, R, ?_⟩
    rw [fX8_sum_31, (rm_14 hA14 R).1, Option.bind_some, (rm_14 hA14 R).2, Option.bind_some, if_pos (nI_le (by omega) (by omega))]
    rfl
  | succ d ih =>
    intro r f s M hr hf R
    obtain ⟨f, rfl⟩ : ∃ g, f = g + 1 := ⟨f - 1, by omega⟩
    obtain ⟨hl60, h15⟩ := hlen r (by omega)
    obtain ⟨M1, h1, R1⟩ := rm_rowText (r := r) (by omega) hl60 h15 R
    obtain ⟨M2, h2, R2, hv⟩ := rt_counts (l := l) (k := k) hl (by omega) hk R1
    rw [fX8_sum_31, (rm_14 hA14 R).1, Option.bind_some, (rm_14 hA14 R).2, Option.bind_some, if_neg (nI_ge (by omega) (by omega)), rm_ck R, Option.bind_some, h1, Option.bind_some, rm_ck R1.rm, Option.bind_some, h2, Option.bind_some]
    dsimp only
    by_cases hc : rowOk A B len l k r = true
    · have hc' := hc
      unfold rowOk at hc'
      obtain ⟨v, hw⟩ := cnt_some hc'
      obtain ⟨M3, R3, h3⟩ := ih (r + 1) f (s + v) M2 (by omega) (by omega) R2.rm
      refine ⟨M3, R3, ?_⟩
      rw [if_pos hc', if_neg one_ne, hv v hw, Option.bind_some, nI_1, h3]
      simp [sumS, hc, rowW, hw]
    · refine ⟨M2, R2.rm, ?_⟩
      have hc' := hc
      unfold rowOk at hc'
      rw [if_neg hc', if_pos rfl]
      simp [sumS, hc]
def okLK1 (nl : Nat) (x kd : Int32) : Prop := (¬ x < 0 ∧ ¬ nI nl - 1 < x) ∧ (¬ kd < 0 ∧ ¬ 1 < kd)
theorem kind_of1 {kd : Int32} (h : ¬ kd < 0 ∧ ¬ 1 < kd) : ∃ k, k < 2 ∧ kd = nI k := by
  obtain ⟨j, hj, rfl⟩ := nI_of h.1
  refine ⟨j, ?_, rfl⟩
  rcases Nat.lt_or_ge j 2 with q | q
  · exact q
  · exact absurd (show (1 : Int32) < nI j from nI_lt (a := 1) (by omega) hj) h.2
theorem p_sum (hnl : nl ≤ 6) (hA1 : A 1 0 = nI nl) (hnr : nr ≤ 30) (hA14 : A 14 0 = nI nr) (hlen : ∀ r, r < nr → len r ≤ 60 ∧ A 15 r = nI (len r)) (x kd : Int32) (h : RM m A B N M) :
    ∃ M', RM m A B N M' ∧ ((¬ okLK1 nl x kd ∧ fX8_sum m x kd M = some (LEAST, M')) ∨ ∃ l k, l < nl ∧ x = nI l ∧ k < 2 ∧ kd = nI k ∧ fX8_sum m x kd M = some (sumS (rowW A len l k) (rowOk A B len l k) nr 0 0, M')) := by
  obtain ⟨M1, h1, R1⟩ := rm_code h 0
  unfold fX8_sum fX8_sum_22
  rw [h1, Option.bind_some, rm_ck R1, Option.bind_some, rm_isLand hnl hA1 x R1, Option.bind_some]
  dsimp only
  by_cases hx : ¬ x < 0 ∧ ¬ nI nl - 1 < x
  · obtain ⟨l, hl, rfl⟩ := (isL_iff hnl x).mp hx
    rw [if_pos hx, if_neg one_ne, e_in, Option.bind_some]
    dsimp only
    by_cases hk : ¬ kd < 0 ∧ ¬ 1 < kd
    · obtain ⟨k, hk3, rfl⟩ := kind_of1 hk
      obtain ⟨M3, R3, h3⟩ := p_sumLoop (l := l) (k := k) (by omega) (by omega) hnr hA14 hlen nr 0 FU 0 M1 (by omega) (by unfold FU; omega) R1
      rw [if_pos hk, if_neg one_ne]
      exact ⟨M3, R3, Or.inr ⟨l, k, hl, rfl, hk3, rfl, h3⟩⟩
    · rw [if_neg hk, if_pos rfl]
      exact ⟨M1, R1, Or.inl ⟨fun q => hk q.2, rfl⟩⟩
  · rw [if_neg hx, if_pos rfl]
    exact ⟨M1, R1, Or.inl ⟨fun q => hx q.1, rfl⟩⟩
/-- the bits of the lands l, l + 1 .. (so many) that fit -/
def fitS (P : Nat → Bool) : Nat → Nat → Int32 → Int32
  | 0, _, b => b
  | d + 1, l, b => fitS P d (l + 1) (b ||| (if P l = true then (1 : Int32) <<< (nI l &&& 31) else 0))
theorem oI_none {o : Option Nat} (h : ∀ r, o = some r → r < 2 ^ 31) : oI o = -1 ↔ o = none := by
  cases o with
  | none => simp [oI]
  | some r =>
    simp only [oI, reduceCtorEq, iff_false]
    intro q
    have := nI_pos (h r rfl)
    rw [q] at this
    exact this (by decide)
theorem firstBad_lt (P : Nat → Bool) : ∀ (d r q : Nat), firstBad P d r = some q → q < r + d := by
  intro d
  induction d with
  | zero => intro r q h; cases h
  | succ d ih =>
    intro r q h
    simp only [firstBad] at h
    split at h
    · have := ih (r + 1) q h
      omega
    · cases h
      omega
theorem p_fitLoop {k : Nat} (hk : k < 12) (hnl : nl ≤ 6) (hA1 : A 1 0 = nI nl) (hnr : nr ≤ 30) (hA14 : A 14 0 = nI nr) (hlen : ∀ r, r < nr → len r ≤ 60 ∧ A 15 r = nI (len r)) : ∀ (d l f : Nat) (b : Int32) (M : Mem), l + d = nl → d < f → RM m A B N M → ∃ M', RM m A B N M' ∧ fX8_fit_20 f m (nI k) b (nI l) M = some (fitS (fun l => (firstBad (rowOk A B len l k) nr 0).isNone) d l b, M') := by
  intro d
  induction d with
  | zero =>
    intro l f b M hl hf R
    obtain ⟨f, rfl⟩ : ∃ g, f = g + 1 := ⟨f - 1, by omega⟩
    refine ⟨M, R, ?_⟩
    rw [fX8_fit_20, (rm_1 hA1 R).1, Option.bind_some, (rm_1 hA1 R).2, Option.bind_some, if_pos (nI_le (by omega) (by omega))]
    rfl
  | succ d ih =>
    intro l f b M hl hf R
    obtain ⟨f, rfl⟩ : ∃ g, f = g + 1 := ⟨f - 1, by omega⟩
    obtain ⟨M1, R1, h1⟩ := p_misLoop (l := l) (k := k) (by omega) hk hnr hA14 hlen nr 0 FU M (by omega) (by unfold FU; omega) R
    have h1' : fX8_firstMisfit m (nI l) (nI k) M = some (oI (firstBad (rowOk A B len l k) nr 0), M1) := h1
    have ho := oI_none (o := firstBad (rowOk A B len l k) nr 0) (fun r hr => by have := firstBad_lt _ _ _ _ hr; omega)
    rw [fX8_fit_20, (rm_1 hA1 R).1, Option.bind_some, (rm_1 hA1 R).2, Option.bind_some, if_neg (nI_ge (by omega) (by omega)), rm_ck R, Option.bind_some, h1', Option.bind_some]
    unfold fX8_fit_48
    dsimp only
    by_cases hn : firstBad (rowOk A B len l k) nr 0 = none
    · obtain ⟨M2, R2, h2⟩ := ih (l + 1) f (b ||| (1 : Int32) <<< (nI l &&& 31)) M1 (by omega) (by omega) R1
      refine ⟨M2, R2, ?_⟩
      rw [if_pos (ho.mpr hn), nI_1, h2]
      simp [fitS, hn]
    · obtain ⟨M2, R2, h2⟩ := ih (l + 1) f (b ||| 0) M1 (by omega) (by omega) R1
      refine ⟨M2, R2, ?_⟩
      rw [if_neg (fun q => hn (ho.mp q)), nI_1, h2]
      simp [fitS, hn]
theorem p_fit (hnl : nl ≤ 6) (hA1 : A 1 0 = nI nl) (hnr : nr ≤ 30) (hA14 : A 14 0 = nI nr) (hlen : ∀ r, r < nr → len r ≤ 60 ∧ A 15 r = nI (len r)) (kd : Int32) (h : RM m A B N M) :
    ∃ M', RM m A B N M' ∧ ((¬ (¬ kd < 0 ∧ ¬ 2 < kd) ∧ fX8_fit m kd M = some (-1, M')) ∨ ∃ k, k < 3 ∧ kd = nI k ∧ fX8_fit m kd M = some (fitS (fun l => (firstBad (rowOk A B len l k) nr 0).isNone) nl 0 0, M')) := by
  obtain ⟨M1, h1, R1⟩ := rm_code h 0
  unfold fX8_fit
  rw [h1, Option.bind_some, e_in, Option.bind_some]
  dsimp only
  by_cases hk : ¬ kd < 0 ∧ ¬ 2 < kd
  · obtain ⟨k, hk3, rfl⟩ := kind_of hk
    obtain ⟨M3, R3, h3⟩ := p_fitLoop (k := k) (by omega) hnl hA1 hnr hA14 hlen nl 0 FU 0 M1 (by omega) (by unfold FU; omega) R1
    rw [if_pos hk, if_neg one_ne]
    exact ⟨M3, R3, Or.inr ⟨k, hk3, rfl, h3⟩⟩
  · rw [if_neg hk, if_pos rfl]
    exact ⟨M1, R1, Or.inl ⟨hk, rfl⟩⟩
end MPUB2
