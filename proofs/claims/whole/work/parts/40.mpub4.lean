/-! ===== the reference: bounds, count, shown, take ===== -/
section MPUB4
variable {m : Nat} {A : Nat → Nat → Int32} {B : Nat → Nat → Int64} {N M : Mem} {nl len nr sh : Nat}
theorem cmp_le (x y : Int64) : lg_cmp x y ≤ 0 ↔ ¬ y < x := by
  have h := cmp_gt x y
  constructor
  · intro q hq
    have := h.mpr hq
    exact absurd this (Int32.not_lt.mpr q)
  · intro q
    exact Int32.not_lt.mp (fun hq => q (h.mp hq))
/-- the reference's bounds, changed -/
def bndP (B : Nat → Nat → Int64) (k : Nat) (lo hi : Int64) : Nat → Nat → Int64 := upB (upB B 12 (vp_updL (B 12) k lo)) 13 (vp_updL (B 13) k hi)
theorem p_bounds (x : Int32) (lo hi : Int64) (R : RM m A B N M) : (∃ k, k < 3 ∧ x = nI k ∧ ¬ hi < lo ∧ ∃ M', RM m A (bndP B k lo hi) N M' ∧ fX8_bounds m x lo hi M = some (1, M')) ∨ (¬ ((¬ x < 0 ∧ ¬ 2 < x) ∧ ¬ hi < lo) ∧ ∃ M', RM m A B N M' ∧ fX8_bounds m x lo hi M = some (0, M')) := by
  obtain ⟨M1, h1, R1⟩ := rm_code R 0
  unfold fX8_bounds fX8_bounds_21
  rw [h1, Option.bind_some, e_in, Option.bind_some, nz0, nz1]
  dsimp only
  by_cases hx : ¬ x < 0 ∧ ¬ 2 < x
  · obtain ⟨k, hk, rfl⟩ := kind_of hx
    rw [if_pos hx, if_neg one_ne]
    by_cases hc : hi < lo
    · rw [if_neg (fun q => (cmp_le lo hi).mp q hc)]
      exact Or.inr ⟨fun q => q.2 hc, M1, R1, rfl⟩
    · rw [if_pos ((cmp_le lo hi).mpr hc)]
      obtain ⟨I, A', fd, rfl, hC⟩ := R1
      refine Or.inl ⟨k, hk, rfl, hc, mm m I A' (bndP B k lo hi) fd N, ⟨I, A', fd, rfl, hC⟩, ?_⟩
      rw [mm_gN12, Option.bind_some, mm_sL12, if_pos (inr_nI (by omega) (by decide)), Option.bind_some, mm_gN13, Option.bind_some, mm_sL13, if_pos (inr_nI (by omega) (by decide)), Option.bind_some, nI_clamp (by omega)]
      rfl
  · rw [if_neg hx, if_pos rfl]
    exact Or.inr ⟨fun q => hx q.1, M1, R1, rfl⟩
theorem rm_0 {j v : Nat} (hj : 1 ≤ j) (hj2 : j ≤ 18) (hty : mty j = .int) (h12 : ¬ (j = 12 ∨ j = 13)) (hi : 0 < msz j) (hA : A j 0 = nI v) (R : RM m A B N M) : aI M (m + j) 0 = some (nI v) := by
  have := rm_aI (j := j) (i := 0) hj hj2 hty h12 hi R
  rw [hA] at this
  exact this
theorem p_count (h1 : A 1 0 = nI nl) (h10 : A 10 0 = nI len) (h14 : A 14 0 = nI nr) (h17 : A 17 0 = nI sh) (x : Int32) (R : RM m A B N M) : ∃ M', RM m A B N M' ∧ fX8_count m x M = some (if x = 0 then nI nl else if x = 1 then nI len else if x = 2 then nI nr else if x = 3 then nI sh else -1, M') := by
  obtain ⟨M1, e1, R1⟩ := rm_code R 0
  refine ⟨M1, R1, ?_⟩
  unfold fX8_count
  rw [e1, Option.bind_some]
  by_cases x0 : x = 0
  · rw [if_pos x0, if_pos x0, rm_gN1 R1, Option.bind_some, rm_0 (by decide) (by decide) rfl (by decide) (by decide) h1 R1, Option.bind_some]
  · rw [if_neg x0, if_neg x0]
    by_cases x1 : x = 1
    · rw [if_pos x1, if_pos x1, rm_gN10 R1, Option.bind_some, rm_0 (by decide) (by decide) rfl (by decide) (by decide) h10 R1, Option.bind_some]
    · rw [if_neg x1, if_neg x1]
      by_cases x2 : x = 2
      · rw [if_pos x2, if_pos x2, rm_gN14 R1, Option.bind_some, rm_0 (by decide) (by decide) rfl (by decide) (by decide) h14 R1, Option.bind_some]
      · rw [if_neg x2, if_neg x2]
        by_cases x3 : x = 3
        · rw [if_pos x3, if_pos x3, rm_gN17 R1, Option.bind_some, rm_0 (by decide) (by decide) rfl (by decide) (by decide) h17 R1, Option.bind_some]
        · rw [if_neg x3, if_neg x3]
theorem below_iff {n : Nat} (hn : n < 2 ^ 30) (x : Int32) : (¬ x < 0 ∧ ¬ nI n - 1 < x) ↔ ∃ j, j < n ∧ x = nI j := by
  constructor
  · intro ⟨h1, h2⟩
    obtain ⟨j, hj, rfl⟩ := nI_of h1
    refine ⟨j, ?_, rfl⟩
    rcases Nat.eq_zero_or_pos n with h0 | h0
    · subst h0
      exfalso
      apply h2
      have : nI 0 - 1 = -1 := by decide
      rw [this, Int32.lt_iff_toInt_lt, nI_toInt hj, show (-1 : Int32).toInt = -1 by decide]
      omega
    · have e : nI n - 1 = nI (n - 1) := pk_sub (b := 1) h0
      rw [e] at h2
      rcases Nat.lt_or_ge j n with q | q
      · exact q
      · exact absurd (nI_lt (by omega) hj) h2
  · rintro ⟨l, hl, rfl⟩
    refine ⟨nI_pos (by omega), ?_⟩
    have e : nI n - 1 = nI (n - 1) := pk_sub (b := 1) (by omega)
    rw [e]
    exact nI_nlt (by omega) (by omega)
theorem p_shown (hsh : sh ≤ 160) (h17 : A 17 0 = nI sh) (x : Int32) (R : RM m A B N M) : ∃ M', RM m A B N M' ∧ ((∃ j, j < sh ∧ x = nI j ∧ fX8_shown m x M = some (A 18 j, M')) ∨ (¬ (∃ j, j < sh ∧ x = nI j) ∧ fX8_shown m x M = some (-1, M'))) := by
  obtain ⟨M1, e1, R1⟩ := rm_code R 0
  refine ⟨M1, R1, ?_⟩
  unfold fX8_shown fX8_shown_31
  rw [e1, Option.bind_some, rm_gN17 R1, Option.bind_some, rm_0 (by decide) (by decide) rfl (by decide) (by decide) h17 R1, Option.bind_some, e_in, Option.bind_some]
  dsimp only
  have hb := below_iff (n := sh) (by omega) x
  by_cases hx : ¬ x < 0 ∧ ¬ nI sh - 1 < x
  · obtain ⟨j, hj, rfl⟩ := hb.mp hx
    refine Or.inl ⟨j, hj, rfl, ?_⟩
    rw [if_pos hx, if_neg one_ne, rm_gN18 R1, Option.bind_some, rm_aI (j := 18) (i := j) (by decide) (by decide) rfl (by decide) (show j < 640 by omega) R1, Option.bind_some]
  · rw [if_neg hx, if_pos rfl]
    exact Or.inr ⟨fun q => hx (hb.mpr q), rfl⟩
/-- the reference's line, taken out of what is shown: k bytes so far -/
def takeP (A : Nat → Nat → Int32) (sh k : Nat) : Nat → Nat → Int32 := upA (upA A 10 (upd (A 10) 0 (nI sh))) 11 (ovf (A 11) (A 18) k)
theorem p_takeLoop (hsh : sh ≤ 60) : ∀ (d k f : Nat) (M : Mem), k + d = sh → d < f → RM m (takeP A sh k) B N M → ∃ M', RM m (takeP A sh sh) B N M' ∧ fX8_take_41 f m (nI k) M = some (nI sh, M') := by
  have t10 : ∀ k, takeP A sh k 10 0 = nI sh := fun k => by simp [takeP, upA, upd]
  have t18 : ∀ k, takeP A sh k 18 = A 18 := fun k => rfl
  have t11 : ∀ k, takeP A sh k 11 = ovf (A 11) (A 18) k := fun k => rfl
  intro d
  induction d with
  | zero =>
    intro k f M hk hf R
    obtain ⟨f, rfl⟩ : ∃ g, f = g + 1 := ⟨f - 1, by omega⟩
    have : k = sh := by omega
    subst this
    refine ⟨M, R, ?_⟩
    rw [fX8_take_41, rm_gN10 R, Option.bind_some, rm_len (t10 k) R, Option.bind_some, if_pos (nI_le (Nat.le_refl _) (by omega)), Option.bind_some, rm_len (t10 k) R, Option.bind_some]
  | succ d ih =>
    intro k f M hk hf R
    obtain ⟨f, rfl⟩ : ∃ g, f = g + 1 := ⟨f - 1, by omega⟩
    obtain ⟨M1, h1, R1⟩ := rm_sI (j := 11) (i := k) (by decide) (by decide) rfl (by decide) (show k < 240 by omega) (A 18 k) R
    have hst : upA (takeP A sh k) 11 (upd (takeP A sh k 11) k (A 18 k)) = takeP A sh (k + 1) := by
      rw [t11, ovf_s]
      unfold takeP
      rw [upA_upA]
    rw [hst] at R1
    obtain ⟨M2, R2, h2⟩ := ih (k + 1) f M1 (by omega) (by omega) R1
    refine ⟨M2, R2, ?_⟩
    have a18 := rm_aI (j := 18) (i := k) (by decide) (by decide) rfl (by decide) (show k < 640 by omega) R
    rw [t18] at a18
    rw [fX8_take_41, rm_gN10 R, Option.bind_some, rm_len (t10 k) R, Option.bind_some, if_neg (nI_ge (by omega) (by omega)), rm_gN11 R, Option.bind_some, rm_gN18 R, Option.bind_some, a18, Option.bind_some, h1, Option.bind_some, nI_1, h2]
theorem p_take (hsh : sh ≤ 160) (h17 : A 17 0 = nI sh) (R : RM m A B N M) : (0 < sh ∧ sh ≤ 60 ∧ ∃ M', RM m (takeP A sh sh) B N M' ∧ fX8_take m M = some (nI sh, M')) ∨ (¬ (0 < sh ∧ sh ≤ 60) ∧ ∃ M', RM m A B N M' ∧ fX8_take m M = some (-1, M')) := by
  obtain ⟨M1, e1, R1⟩ := rm_code R 0
  have a17 := rm_0 (by decide) (by decide) rfl (by decide) (by decide) h17 R1
  unfold fX8_take fX8_take_25
  rw [e1, Option.bind_some, rm_gN17 R1, Option.bind_some, a17, Option.bind_some]
  by_cases h0 : sh = 0
  · rw [if_pos ((nI_z (by omega)).mpr h0)]
    exact Or.inr ⟨fun q => by omega, M1, R1, rfl⟩
  · rw [if_neg (fun q => h0 ((nI_z (by omega)).mp q)), Option.bind_some, a17, Option.bind_some]
    by_cases h6 : sh ≤ 60
    · obtain ⟨M2, h2, R2⟩ := rm_sI (j := 10) (i := 0) (by decide) (by decide) rfl (by decide) (by decide) (nI sh) R1
      have h2' : sI M1 (m + 10) 0 (nI sh) = some M2 := h2
      have R2' : RM m (takeP A sh 0) B N M2 := by
        unfold takeP
        rw [ovf_0]
        have : upA (upA A 10 (upd (A 10) 0 (nI sh))) 11 (A 11) = upA A 10 (upd (A 10) 0 (nI sh)) := upA_same (upA A 10 (upd (A 10) 0 (nI sh))) 11
        rw [this]
        exact R2
      obtain ⟨M3, R3, h3⟩ := p_takeLoop h6 sh 0 FU M2 (by omega) (by unfold FU; omega) R2'
      refine Or.inl ⟨by omega, h6, M3, R3, ?_⟩
      rw [if_pos (show nI sh ≤ 60 from nI_le (b := 60) h6 (by decide)), rm_gN10 R1, Option.bind_some, Option.bind_some, a17, Option.bind_some, h2', Option.bind_some]
      exact h3
    · rw [if_neg (show ¬ nI sh ≤ 60 from nI_ge (a := 60) (b := sh) (by omega) (by omega))]
      exact Or.inr ⟨fun q => h6 q.2, M1, R1, rfl⟩
end MPUB4
