/-! ===== the reference: key, keys, undo, bounds, count, clear, shown ===== -/
section MPUB3
variable {m : Nat} {A : Nat → Nat → Int32} {B : Nat → Nat → Int64} {N M : Mem} {len : Nat}
theorem msz_lt (j : Nat) : msz j < 2 ^ 31 := by
  have : ∀ j, j < 24 → msz j < 2 ^ 31 := by decide
  rcases Nat.lt_or_ge j 24 with h | h
  · exact this j h
  · unfold msz
    rw [List.getD_eq_getElem?_getD, List.getElem?_eq_none (by simpa using h)]
    decide
theorem rm_aI {j i : Nat} (hj : 1 ≤ j) (hj2 : j ≤ 18) (hty : mty j = .int) (h12 : ¬ (j = 12 ∨ j = 13)) (hi : i < msz j) (R : RM m A B N M) : aI M (m + j) (nI i) = some (A j i) := by
  obtain ⟨I, A', fd, rfl, hC⟩ := R
  have hz := msz_lt j
  unfold aI
  rw [mm_arr hj (by omega)]
  simp only [mcell, if_neg h12, hty, inr_nI hi hz, if_true, nI_clamp (show i < 2 ^ 31 by omega)]
  rw [hC j (Or.inl hj2)]
theorem rm_sI {j i : Nat} (hj : 1 ≤ j) (hj2 : j ≤ 18) (hty : mty j = .int) (h12 : ¬ (j = 12 ∨ j = 13)) (hi : i < msz j) (x : Int32) (R : RM m A B N M) : ∃ M', sI M (m + j) (nI i) x = some M' ∧ RM m (upA A j (upd (A j) i x)) B N M' := by
  obtain ⟨I, A', fd, rfl, hC⟩ := R
  have hz := msz_lt j
  have hj' := hC j (Or.inl hj2)
  refine ⟨mm m I (upA A' j (upd (A' j) i x)) B fd N, ?_, I, _, fd, rfl, ?_⟩
  · rw [← mm_setA hj (by omega)]
    unfold sI
    rw [mm_arr hj (by omega)]
    simp only [mcell, if_neg h12, hty, inr_nI hi hz, if_true, nI_clamp (show i < 2 ^ 31 by omega), upA]
  · intro k hk
    by_cases hkj : k = j
    · simp only [upA, if_pos hkj, hj']
    · simp only [upA, if_neg hkj]
      exact hC k hk
theorem rm_gN10 (R : RM m A B N M) : gN M 5 m 10 = some (m + 10) := by
  obtain ⟨I, A', fd, rfl, hC⟩ := R
  exact mm_gN10
theorem rm_gN11 (R : RM m A B N M) : gN M 5 m 11 = some (m + 11) := by
  obtain ⟨I, A', fd, rfl, hC⟩ := R
  exact mm_gN11
theorem rm_gN17 (R : RM m A B N M) : gN M 5 m 17 = some (m + 17) := by
  obtain ⟨I, A', fd, rfl, hC⟩ := R
  exact mm_gN17
theorem rm_gN18 (R : RM m A B N M) : gN M 5 m 18 = some (m + 18) := by
  obtain ⟨I, A', fd, rfl, hC⟩ := R
  exact mm_gN18
theorem rm_gN14 (R : RM m A B N M) : gN M 5 m 14 = some (m + 14) := by
  obtain ⟨I, A', fd, rfl, hC⟩ := R
  exact mm_gN14
theorem rm_gN1 (R : RM m A B N M) : gN M 5 m 1 = some (m + 1) := by
  obtain ⟨I, A', fd, rfl, hC⟩ := R
  exact mm_gN1
theorem rm_len (hA : A 10 0 = nI len) (R : RM m A B N M) : aI M (m + 10) 0 = some (nI len) := by
  have := rm_aI (j := 10) (i := 0) (by decide) (by decide) rfl (by decide) (by decide) R
  rw [hA] at this
  exact this
/-- the reference's line with one byte more -/
def lineP (A : Nat → Nat → Int32) (len : Nat) (x : Int32) : Nat → Nat → Int32 := upA (upA A 11 (upd (A 11) len x)) 10 (upd (A 10) 0 (nI (len + 1)))
theorem lineP_10 (A : Nat → Nat → Int32) (len : Nat) (x : Int32) : lineP A len x 10 0 = nI (len + 1) := by simp [lineP, upA, upd]
theorem p_key1 (hlen : len < 60) (hA : A 10 0 = nI len) (x : Int32) (R : RM m A B N M) : ∃ M1 M2, sI M (m + 11) (nI len) x = some M1 ∧ gN M1 5 m 10 = some (m + 10) ∧ aI M1 (m + 10) 0 = some (nI len) ∧ sI M1 (m + 10) 0 (nI len + 1) = some M2 ∧ RM m (lineP A len x) B N M2 := by
  obtain ⟨M1, h1, R1⟩ := rm_sI (j := 11) (i := len) (by decide) (by decide) rfl (by decide) (show len < 240 by omega) x R
  have hA' : (upA A 11 (upd (A 11) len x)) 10 0 = nI len := hA
  obtain ⟨M2, h2, R2⟩ := rm_sI (j := 10) (i := 0) (by decide) (by decide) rfl (by decide) (by decide) (nI (len + 1)) R1
  refine ⟨M1, M2, h1, rm_gN10 R1, rm_len hA' R1, ?_, R2⟩
  rw [nI_1]
  exact h2
theorem p_key (hlen : len ≤ 60) (hA : A 10 0 = nI len) (x : Int32) (R : RM m A B N M) : (((¬ x < 0 ∧ ¬ 255 < x) ∧ len < 60) ∧ ∃ M', RM m (lineP A len x) B N M' ∧ fX8_key m x M = some (nI (len + 1), M')) ∨ (¬ ((¬ x < 0 ∧ ¬ 255 < x) ∧ len < 60) ∧ ∃ M', RM m A B N M' ∧ fX8_key m x M = some (-1, M')) := by
  obtain ⟨M1, h1, R1⟩ := rm_code R 0
  unfold fX8_key fX8_key_27
  rw [h1, Option.bind_some, e_in, Option.bind_some]
  dsimp only
  by_cases hx : ¬ x < 0 ∧ ¬ 255 < x
  · rw [if_pos hx, if_neg one_ne, rm_gN10 R1, Option.bind_some, rm_len hA R1, Option.bind_some]
    have h60 := nI_lit (a := len) (by omega) (b := 60) (by decide) (x := 60) rfl
    by_cases hl : len = 60
    · rw [if_pos (h60.mpr hl)]
      exact Or.inr ⟨fun q => by omega, M1, R1, rfl⟩
    · obtain ⟨M2, M3, a1, a2, a3, a4, R3⟩ := p_key1 (len := len) (by omega) hA x R1
      refine Or.inl ⟨⟨hx, by omega⟩, M3, R3, ?_⟩
      rw [if_neg (fun q => hl (h60.mp q)), rm_gN11 R1, Option.bind_some, Option.bind_some, rm_len hA R1, Option.bind_some, a1, Option.bind_some, a2, Option.bind_some, a3, Option.bind_some, a4, Option.bind_some, rm_gN10 R3, Option.bind_some, rm_len (lineP_10 A len x) R3, Option.bind_some]
  · rw [if_neg hx, if_pos rfl]
    exact Or.inr ⟨fun q => hx q.1, M1, R1, rfl⟩
theorem p_undo (hlen : len ≤ 60) (hA : A 10 0 = nI len) (x : Int32) (R : RM m A B N M) : (∃ j, j ≤ len ∧ x = nI j ∧ ∃ M', RM m (upA A 10 (upd (A 10) 0 (nI (len - j)))) B N M' ∧ fX8_undo m x M = some (nI (len - j), M')) ∨ (¬ (∃ j, j ≤ len ∧ x = nI j) ∧ ∃ M', RM m A B N M' ∧ fX8_undo m x M = some (-1, M')) := by
  obtain ⟨M1, h1, R1⟩ := rm_code R 0
  unfold fX8_undo
  rw [h1, Option.bind_some, rm_gN10 R1, Option.bind_some, rm_len hA R1, Option.bind_some, e_in, Option.bind_some]
  dsimp only
  by_cases hx : ¬ x < 0 ∧ ¬ nI len < x
  · obtain ⟨j, hj, rfl⟩ := nI_of hx.1
    have hjl : j ≤ len := by
      rcases Nat.lt_or_ge len j with q | q
      · exact absurd (nI_lt q hj) hx.2
      · exact q
    obtain ⟨M2, h2, R2⟩ := rm_sI (j := 10) (i := 0) (by decide) (by decide) rfl (by decide) (by decide) (nI (len - j)) R1
    have h2' : sI M1 (m + 10) 0 (nI (len - j)) = some M2 := h2
    refine Or.inl ⟨j, hjl, rfl, M2, R2, ?_⟩
    rw [if_pos hx, if_neg one_ne, rm_gN10 R1, Option.bind_some, rm_len hA R1, Option.bind_some, pk_sub hjl, h2', Option.bind_some, rm_gN10 R2, Option.bind_some, rm_len (len := len - j) (by simp [upA, upd]) R2, Option.bind_some]
  · rw [if_neg hx, if_pos rfl]
    refine Or.inr ⟨?_, M1, R1, rfl⟩
    rintro ⟨j, hj, rfl⟩
    exact hx ⟨nI_pos (by omega), nI_nlt hj (by omega)⟩
theorem p_clear (R : RM m A B N M) : ∃ M', RM m (upA A 14 (upd (A 14) 0 0)) B N M' ∧ fX8_clear m M = some M' := by
  obtain ⟨M1, h1, R1⟩ := rm_code R 0
  obtain ⟨M2, h2, R2⟩ := rm_sI (j := 14) (i := 0) (by decide) (by decide) rfl (by decide) (by decide) 0 R1
  have h2' : sI M1 (m + 14) 0 0 = some M2 := h2
  refine ⟨M2, R2, ?_⟩
  unfold fX8_clear
  rw [h1, Option.bind_some, rm_gN14 R1, Option.bind_some, h2', Option.bind_some]
end MPUB3
