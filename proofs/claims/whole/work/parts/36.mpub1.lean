/-! ===== the reference: value, open, good, misfit, sum ===== -/
theorem one_ne : ¬ (1 : Int32) = 0 := by decide
abbrev LEAST : Int64 := -9223372036854775808
theorem kind_of {kd : Int32} (h : ¬ kd < 0 ∧ ¬ 2 < kd) : ∃ k, k < 3 ∧ kd = nI k := by
  obtain ⟨j, hj, rfl⟩ := nI_of h.1
  refine ⟨j, ?_, rfl⟩
  rcases Nat.lt_or_ge j 3 with q | q
  · exact q
  · exact absurd (show (2 : Int32) < nI j from nI_lt (a := 2) (by omega) hj) h.2
def okLK (nl : Nat) (x kd : Int32) : Prop := (¬ x < 0 ∧ ¬ nI nl - 1 < x) ∧ (¬ kd < 0 ∧ ¬ 2 < kd)
/-- the value that counts, or the least long -/
def cv (w : Int32 × Option Int64) (lo hi : Int64) : Int64 := if cnt w lo hi = true then w.2.getD 0 else LEAST
section MPUB
variable {m : Nat} {A : Nat → Nat → Int32} {B : Nat → Nat → Int64} {N M : Mem} {nl len : Nat}
theorem cnt_some {w : Int32 × Option Int64} {lo hi : Int64} (h : cnt w lo hi = true) : ∃ v, w.2 = some v := by
  unfold cnt at h
  cases hw : w.2 with
  | none => rw [hw] at h; simp at h
  | some v => exact ⟨v, rfl⟩
theorem p_value (hnl : nl ≤ 6) (hA1 : A 1 0 = nI nl) (hlen : len ≤ 60) (hA : A 10 0 = nI len) (x kd : Int32) (h : RM m A B N M) :
    ∃ M', RM m A B N M' ∧ ((¬ okLK nl x kd ∧ fX8_value m x kd M = some (LEAST, M')) ∨ ∃ l k, l < nl ∧ x = nI l ∧ k < 3 ∧ kd = nI k ∧ fX8_value m x kd M = some (cv (hld A l (nI k) (A 11) len) (B 12 k) (B 13 k), M')) := by
  obtain ⟨M1, h1, R1⟩ := rm_code h 0
  unfold fX8_value fX8_value_22 fX8_value_49
  rw [h1, Option.bind_some, rm_ck R1, Option.bind_some, rm_isLand hnl hA1 x R1, Option.bind_some]
  by_cases hx : ¬ x < 0 ∧ ¬ nI nl - 1 < x
  · obtain ⟨l, hl, rfl⟩ := (isL_iff hnl x).mp hx
    dsimp only
    rw [if_pos hx, if_neg one_ne, e_in, Option.bind_some]
    dsimp only
    by_cases hk : ¬ kd < 0 ∧ ¬ 2 < kd
    · obtain ⟨k, hk3, rfl⟩ := kind_of hk
      obtain ⟨M2, h2, R2⟩ := rm_lineText hlen hA R1
      obtain ⟨M3, h3, R3, hv⟩ := rt_counts (l := l) (k := k) (by omega) (by omega) (by omega) R2
      rw [if_pos hk, if_neg one_ne, rm_ck R1, Option.bind_some, h2, Option.bind_some, rm_ck R2.rm, Option.bind_some, h3, Option.bind_some]
      refine ⟨M3, R3.rm, Or.inr ⟨l, k, hl, rfl, hk3, rfl, ?_⟩⟩
      unfold cv
      dsimp only
      by_cases hc : cnt (hld A l (nI k) (A 11) len) (B 12 k) (B 13 k) = true
      · obtain ⟨v, hw⟩ := cnt_some hc
        rw [if_pos hc, if_neg one_ne, hv v hw, Option.bind_some, if_pos hc, hw]
        rfl
      · rw [if_neg hc, if_pos rfl, if_neg hc]
    · rw [if_neg hk, if_pos rfl]
      exact ⟨M1, R1, Or.inl ⟨fun q => hk q.2, rfl⟩⟩
  · dsimp only
    rw [if_neg hx, if_pos rfl]
    exact ⟨M1, R1, Or.inl ⟨fun q => hx q.1, rfl⟩⟩
theorem p_open (hnl : nl ≤ 6) (hA1 : A 1 0 = nI nl) (hlen : len ≤ 60) (hA : A 10 0 = nI len) (x kd : Int32) (h : RM m A B N M) :
    ∃ M', RM m A B N M' ∧ ((¬ okLK nl x kd ∧ fX8_open m x kd M = some (0, M')) ∨ ∃ l k, l < nl ∧ x = nI l ∧ k < 3 ∧ kd = nI k ∧ fX8_open m x kd M = some (if (hld A l (nI k) (A 11) len).1 = 1 then 1 else 0, M')) := by
  obtain ⟨M1, h1, R1⟩ := rm_code h 0
  obtain ⟨M2, h2, R2⟩ := rm_lineText hlen hA R1
  unfold fX8_open fX8_open_44 fX8_open_45
  rw [h1, Option.bind_some, rm_ck R1, Option.bind_some, h2, Option.bind_some, rm_ck R2.rm, Option.bind_some, rm_isLand hnl hA1 x R2.rm, Option.bind_some, nz0, nz1]
  by_cases hx : ¬ x < 0 ∧ ¬ nI nl - 1 < x
  · obtain ⟨l, hl, rfl⟩ := (isL_iff hnl x).mp hx
    dsimp only
    rw [if_pos hx, if_neg one_ne, e_in, Option.bind_some]
    dsimp only
    by_cases hk : ¬ kd < 0 ∧ ¬ 2 < kd
    · obtain ⟨k, hk3, rfl⟩ := kind_of hk
      obtain ⟨M3, h3, R3, hv⟩ := rt_held (l := l) (n' := len) (by omega) (by omega) (Nat.le_refl _) (nI k) R2
      rw [if_pos hk, if_neg one_ne, rt_n R2, Option.bind_some, rm_ck R2.rm, Option.bind_some, h3, Option.bind_some]
      refine ⟨M3, R3.rm, Or.inr ⟨l, k, hl, rfl, hk3, rfl, ?_⟩⟩
      by_cases hc : (hld A l (nI k) (A 11) len).1 = 1
      · rw [if_pos hc, if_pos hc]
        rfl
      · rw [if_neg hc, if_neg hc]
        rfl
    · rw [if_neg hk, if_pos rfl]
      exact ⟨M2, R2.rm, Or.inl ⟨fun q => hk q.2, rfl⟩⟩
  · dsimp only
    rw [if_neg hx, if_pos rfl]
    exact ⟨M2, R2.rm, Or.inl ⟨fun q => hx q.1, rfl⟩⟩
/-- how many bytes are good: from k on, d more at most -/
def goodN (P : Nat → Bool) : Nat → Nat → Nat
  | 0, k => k
  | d + 1, k => if P (k + 1) = true then goodN P d (k + 1) else k
theorem p_goodLoop {T : Nat → Int32} {l k : Nat} (hl : l < 24) (hlen : len ≤ 60) : ∀ (d j f : Nat) (M : Mem), j + d = len → d < f → RT m A B N T len M → ∃ M', RM m A B N M' ∧ fX8_good_30 f m (nI l) (nI k) (nI j) M = some (nI (goodN (fun n => decide (¬ (hld A l (nI k) T n).1 ≤ 0)) d j), M') := by
  intro d
  induction d with
  | zero =>
    intro j f M hj hf R
    obtain ⟨f, rfl⟩ : ∃ g, f = g + 1 := ⟨f - 1, by omega⟩
    refine ⟨M, R.rm, ?_⟩
    rw [fX8_good_30, rt_n R, Option.bind_some, if_pos (nI_le (by omega) (by omega))]
    rfl
  | succ d ih =>
    intro j f M hj hf R
    obtain ⟨f, rfl⟩ : ∃ g, f = g + 1 := ⟨f - 1, by omega⟩
    obtain ⟨M1, h1, R1, -⟩ := rt_held (l := l) (n' := j + 1) hl (by omega) (by omega) (nI k) R
    rw [fX8_good_30, rt_n R, Option.bind_some, if_neg (nI_ge (by omega) (by omega)), rm_ck R.rm, Option.bind_some, nI_1, h1, Option.bind_some]
    by_cases hp : (hld A l (nI k) T (j + 1)).1 ≤ 0
    · refine ⟨M1, R1.rm, ?_⟩
      rw [if_pos hp]
      simp [goodN, hp, fX8_good_56]
    · obtain ⟨M2, R2, h2⟩ := ih (j + 1) f M1 (by omega) (by omega) R1
      refine ⟨M2, R2, ?_⟩
      rw [if_neg hp, h2]
      simp [goodN, hp]
theorem p_good (hnl : nl ≤ 6) (hA1 : A 1 0 = nI nl) (hlen : len ≤ 60) (hA : A 10 0 = nI len) (x kd : Int32) (h : RM m A B N M) :
    ∃ M', RM m A B N M' ∧ ((¬ okLK nl x kd ∧ fX8_good m x kd M = some (-1, M')) ∨ ∃ l k, l < nl ∧ x = nI l ∧ k < 3 ∧ kd = nI k ∧ fX8_good m x kd M = some (nI (goodN (fun n => decide (¬ (hld A l (nI k) (A 11) n).1 ≤ 0)) len 0), M')) := by
  obtain ⟨M1, h1, R1⟩ := rm_code h 0
  unfold fX8_good fX8_good_22
  rw [h1, Option.bind_some, rm_ck R1, Option.bind_some, rm_isLand hnl hA1 x R1, Option.bind_some]
  by_cases hx : ¬ x < 0 ∧ ¬ nI nl - 1 < x
  · obtain ⟨l, hl, rfl⟩ := (isL_iff hnl x).mp hx
    dsimp only
    rw [if_pos hx, if_neg one_ne, e_in, Option.bind_some]
    dsimp only
    by_cases hk : ¬ kd < 0 ∧ ¬ 2 < kd
    · obtain ⟨k, hk3, rfl⟩ := kind_of hk
      obtain ⟨M2, h2, R2⟩ := rm_lineText hlen hA R1
      obtain ⟨M3, R3, h3⟩ := p_goodLoop (l := l) (k := k) (by omega) hlen len 0 FU M2 (by omega) (by unfold FU; omega) R2
      rw [if_pos hk, if_neg one_ne, rm_ck R1, Option.bind_some, h2, Option.bind_some]
      exact ⟨M3, R3, Or.inr ⟨l, k, hl, rfl, hk3, rfl, h3⟩⟩
    · rw [if_neg hk, if_pos rfl]
      exact ⟨M1, R1, Or.inl ⟨fun q => hk q.2, rfl⟩⟩
  · dsimp only
    rw [if_neg hx, if_pos rfl]
    exact ⟨M1, R1, Or.inl ⟨fun q => hx q.1, rfl⟩⟩
/-- the first of the rows r, r + 1 .. (so many) that does not count -/
def firstBad (P : Nat → Bool) : Nat → Nat → Option Nat
  | 0, _ => none
  | d + 1, r => if P r = true then firstBad P d (r + 1) else some r
def oI (o : Option Nat) : Int32 := match o with
  | some r => nI r
  | none => -1
/-- whether a row counts -/
def rowOk (A : Nat → Nat → Int32) (B : Nat → Nat → Int64) (len : Nat → Nat) (l k r : Nat) : Bool := cnt (hld A l (nI k) (fun j => A 16 (60 * r + j) &&& 255) (len r)) (B 12 k) (B 13 k)
theorem p_misLoop {l k nr : Nat} {len : Nat → Nat} (hl : l < 24) (hk : k < 12) (hnr : nr ≤ 30) (hA14 : A 14 0 = nI nr) (hlen : ∀ r, r < nr → len r ≤ 60 ∧ A 15 r = nI (len r)) : ∀ (d r f : Nat) (M : Mem), r + d = nr → d < f → RM m A B N M → ∃ M', RM m A B N M' ∧ fX8_firstMisfit_2 f m (nI l) (nI k) (nI r) M = some (oI (firstBad (rowOk A B len l k) d r), M') := by
  have h14 : ∀ M, RM m A B N M → gN M 5 m 14 = some (m + 14) ∧ aI M (m + 14) 0 = some (nI nr) := by
    rintro M ⟨I, A', fd, rfl, hC⟩
    refine ⟨mm_gN14, ?_⟩
    rw [mm_aI14, if_pos (by decide)]
    show some (A' 14 0) = _
    rw [hC 14 (by decide), hA14]
  intro d
  induction d with
  | zero =>
    intro r f M hr hf R
    obtain ⟨f, rfl⟩ : ∃ g, f = g + 1 := ⟨f - 1, by omega⟩
    refine ⟨M, R, ?_⟩
    rw [fX8_firstMisfit_2, (h14 M R).1, Option.bind_some, (h14 M R).2, Option.bind_some, if_pos (nI_le (by omega) (by omega))]
    rfl
  | succ d ih =>
    intro r f M hr hf R
    obtain ⟨f, rfl⟩ : ∃ g, f = g + 1 := ⟨f - 1, by omega⟩
    obtain ⟨hl60, h15⟩ := hlen r (by omega)
    obtain ⟨M1, h1, R1⟩ := rm_rowText (r := r) (by omega) hl60 h15 R
    obtain ⟨M2, h2, R2, -⟩ := rt_counts (l := l) (k := k) hl (by omega) hk R1
    rw [fX8_firstMisfit_2, (h14 M R).1, Option.bind_some, (h14 M R).2, Option.bind_some, if_neg (nI_ge (by omega) (by omega)), rm_ck R, Option.bind_some, h1, Option.bind_some, rm_ck R1.rm, Option.bind_some, h2, Option.bind_some]
    dsimp only
    by_cases hc : rowOk A B len l k r = true
    · obtain ⟨M3, R3, h3⟩ := ih (r + 1) f M2 (by omega) (by omega) R2.rm
      refine ⟨M3, R3, ?_⟩
      have hc' := hc
      unfold rowOk at hc'
      rw [if_pos hc', if_neg one_ne, nI_1, h3]
      simp [firstBad, hc]
    · refine ⟨M2, R2.rm, ?_⟩
      have hc' := hc
      unfold rowOk at hc'
      rw [if_neg hc', if_pos rfl]
      simp [firstBad, hc, oI]
theorem p_misfit {nr : Nat} {len : Nat → Nat} (hnl : nl ≤ 6) (hA1 : A 1 0 = nI nl) (hnr : nr ≤ 30) (hA14 : A 14 0 = nI nr) (hlen : ∀ r, r < nr → len r ≤ 60 ∧ A 15 r = nI (len r)) (x kd : Int32) (h : RM m A B N M) :
    ∃ M', RM m A B N M' ∧ ((¬ okLK nl x kd ∧ fX8_misfit m x kd M = some (-1, M')) ∨ ∃ l k, l < nl ∧ x = nI l ∧ k < 3 ∧ kd = nI k ∧ fX8_misfit m x kd M = some (oI (firstBad (rowOk A B len l k) nr 0), M')) := by
  obtain ⟨M1, h1, R1⟩ := rm_code h 0
  unfold fX8_misfit fX8_misfit_31 fX8_misfit_32
  rw [h1, Option.bind_some, rm_ck R1, Option.bind_some, rm_isLand hnl hA1 x R1, Option.bind_some]
  by_cases hx : ¬ x < 0 ∧ ¬ nI nl - 1 < x
  · obtain ⟨l, hl, rfl⟩ := (isL_iff hnl x).mp hx
    dsimp only
    rw [if_pos hx, if_neg one_ne, e_in, Option.bind_some]
    dsimp only
    by_cases hk : ¬ kd < 0 ∧ ¬ 2 < kd
    · obtain ⟨k, hk3, rfl⟩ := kind_of hk
      obtain ⟨M3, R3, h3⟩ := p_misLoop (l := l) (k := k) (by omega) (by omega) hnr hA14 hlen nr 0 FU M1 (by omega) (by unfold FU; omega) R1
      have h3' : fX8_firstMisfit m (nI l) (nI k) M1 = some (oI (firstBad (rowOk A B len l k) nr 0), M3) := h3
      rw [if_pos hk, if_neg one_ne, rm_ck R1, Option.bind_some, h3', Option.bind_some]
      exact ⟨M3, R3, Or.inr ⟨l, k, hl, rfl, hk3, rfl, rfl⟩⟩
    · rw [if_neg hk, if_pos rfl]
      exact ⟨M1, R1, Or.inl ⟨fun q => hk q.2, rfl⟩⟩
  · dsimp only
    rw [if_neg hx, if_pos rfl]
    exact ⟨M1, R1, Or.inl ⟨fun q => hx q.1, rfl⟩⟩
end MPUB
