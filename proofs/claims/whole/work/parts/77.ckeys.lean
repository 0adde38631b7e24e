/-! ===== the calls, one by one: keys, row ===== -/
def kB (x : Int32) (i : Nat) : Int32 := (((x.toUInt32 >>> (((24 : Int32) - ((8 : Int32) * nI i)).toUInt32 &&& Int32.toUInt32 31)).toInt32) &&& (255 : Int32))
theorem i32_nat (y : Int32) : (y.toBitVec.toNat : Int) = if y.toInt < 0 then y.toInt + 2 ^ 32 else y.toInt := by
  have h := BitVec.toInt_eq_toNat_cond y.toBitVec
  have hl := y.toBitVec.isLt
  have e : y.toInt = y.toBitVec.toInt := rfl
  rw [e, h]
  split <;> split <;> omega
theorem kB_eq (x : Int32) : ∀ i, i < 4 → kB x i = (x >>> (((24 : Int32) - ((8 : Int32) * nI i)) &&& 31)) &&& (255 : Int32) := by
  have main : ∀ (k : Nat) (s s' : Int32), (k = 0 ∨ k = 8 ∨ k = 16 ∨ k = 24) → ((s.toUInt32 &&& Int32.toUInt32 31).toBitVec % 32).toNat = k → (s'.toBitVec.smod 32).toNat = k → ((x.toUInt32 >>> (s.toUInt32 &&& Int32.toUInt32 31)).toInt32) &&& (255 : Int32) = (x >>> s') &&& (255 : Int32) := by
    intro k s s' hk h1 h2
    rw [pk_and _ (m := 255) 8 (by decide), pk_and _ (m := 255) 8 (by decide), pk_ushr x s k h1]
    congr 1
    have e1 := i32_nat (x >>> s')
    rw [pk_shr x s' k h2] at e1
    have e2 := i32_nat x
    have hsh : x.toInt >>> k = x.toInt / (2 ^ k : Int) := by
      rw [Int.shiftRight_eq_div_pow]
      norm_cast
    rw [hsh] at e1
    rcases hk with rfl | rfl | rfl | rfl
    · simp at e1 ⊢; split at e1 <;> split at e2 <;> omega
    · simp at e1 ⊢; split at e1 <;> split at e2 <;> omega
    · simp at e1 ⊢; split at e1 <;> split at e2 <;> omega
    · simp at e1 ⊢; split at e1 <;> split at e2 <;> omega
  intro i hi
  unfold kB
  rcases (show i = 0 ∨ i = 1 ∨ i = 2 ∨ i = 3 by omega) with rfl | rfl | rfl | rfl
  · exact main 24 _ _ (by decide) (by decide) (by decide)
  · exact main 16 _ _ (by decide) (by decide) (by decide)
  · exact main 8 _ _ (by decide) (by decide) (by decide)
  · exact main 0 _ _ (by decide) (by decide) (by decide)
theorem kB_byt (x : Int32) (i : Nat) : byt (kB x i) := by
  obtain ⟨j, hj, e⟩ := pk_andE ((x.toUInt32 >>> (((24 : Int32) - ((8 : Int32) * nI i)).toUInt32 &&& Int32.toUInt32 31)).toInt32) (m := 255) 8 (by decide)
  exact ⟨j, hj, e⟩
def kcN (x : Int32) : Nat → Nat → Nat
  | 0, i => i
  | d + 1, i => if kB x i = 0 then i else kcN x d (i + 1)
theorem kcN_le (x : Int32) : ∀ (d i : Nat), kcN x d i ≤ i + d := by
  intro d
  induction d with
  | zero => exact fun i => Nat.le_refl _
  | succ d ih =>
    intro i
    rw [kcN]
    split
    · omega
    · have := ih (i + 1); omega
section CKEYS
variable {z : Nat} {kc : KC} {σ : Sg} {im : Nat → Option (Nat × Sg)} {M N : Mem} {A A' : Nat → Nat → Int32} {B B' : Nat → Nat → Int64} {m : Nat}
theorem c_keysCount (x : Int32) (M : Mem) : ∀ (d i f : Nat), i + d = 4 → d < f → fX7_keys_2 f z x (nI i) M = fX7_keys_21 z x (nI (kcN x d i)) M := by
  intro d
  induction d with
  | zero =>
    intro i f hi hf
    obtain ⟨f, rfl⟩ : ∃ g, f = g + 1 := ⟨f - 1, by omega⟩
    rw [fX7_keys_2, if_pos (li_ge 4 i 4 rfl (by omega) (by omega))]
    rfl
  | succ d ih =>
    intro i f hi hf
    obtain ⟨f, rfl⟩ : ∃ g, f = g + 1 := ⟨f - 1, by omega⟩
    have e : fX7_byteOf x (nI i) M = some (kB x i, M) := rfl
    rw [fX7_keys_2, if_neg (li_nge 4 i 4 rfl (by omega) (by decide)), e, Option.bind_some, kcN]
    dsimp only
    by_cases h0 : kB x i = 0
    · rw [if_pos h0, if_pos h0]
    · rw [if_neg h0, if_neg h0, nI_1, ih (i + 1) f (by omega) (by omega)]
theorem r_keysCount (x : Int32) (M : Mem) : ∀ (d i f : Nat), i + d = 4 → d < f → fX8_keys_7 f m x (nI i) M = fX8_keys_34 m x (nI (kcN x d i)) M := by
  intro d
  induction d with
  | zero =>
    intro i f hi hf
    obtain ⟨f, rfl⟩ : ∃ g, f = g + 1 := ⟨f - 1, by omega⟩
    rw [fX8_keys_7, if_pos (li_ge 4 i 4 rfl (by omega) (by omega))]
    rfl
  | succ d ih =>
    intro i f hi hf
    obtain ⟨f, rfl⟩ : ∃ g, f = g + 1 := ⟨f - 1, by omega⟩
    rw [fX8_keys_7, if_neg (li_nge 4 i 4 rfl (by omega) (by decide)), ← kB_eq x i (by omega), kcN]
    by_cases h0 : kB x i = 0
    · rw [if_pos h0, if_pos h0]
    · rw [if_neg h0, if_neg h0, nI_1, ih (i + 1) f (by omega) (by omega)]
theorem c_keysAdd (x : Int32) {c : Nat} (hc4 : c ≤ 4) : ∀ (d i f : Nat) (σ : Sg) (M : Mem), i + d = c → d < f → CO z σ im M → lnS σ + d ≤ 60 → ∃ M' L', fX7_keys_42 f z x (nI c) (nI i) M = some (nI (lnS σ + d), M') ∧ Chg (z + 2) (z + 3) M M' ∧ CO z (wLine σ (lnS σ + d) L') im M' ∧ (∀ k, k < lnS σ → L' k = lbS σ k) ∧ ∀ j, j < d → L' (lnS σ + j) = kB x (i + j) := by
  intro d
  induction d with
  | zero =>
    intro i f σ M hi hf hc hn
    obtain ⟨f, rfl⟩ : ∃ g, f = g + 1 := ⟨f - 1, by omega⟩
    have hsh := co_sh hc
    refine ⟨M, lbS σ, ?_, Chg.rf _ _ _, hc, fun _ _ => rfl, fun j hj => absurd hj (Nat.not_lt_zero j)⟩
    rw [fX7_keys_42, if_pos (nI_le (by omega) (by omega)), co_g0 hc, Option.bind_some, cs_g0 hsh, Option.bind_some, tx_ck hsh.2.1, Option.bind_some, tx_len hsh.2.1, Option.bind_some]
    rfl
  | succ d ih =>
    intro i f σ M hi hf hc hn
    obtain ⟨f, rfl⟩ : ∃ g, f = g + 1 := ⟨f - 1, by omega⟩
    have hsh := co_sh hc
    have hok := co_ok hc
    have e : fX7_byteOf x (nI i) M = some (kB x i, M) := rfl
    obtain ⟨M1, q1, q2, q3⟩ := tx_add hsh.2.1 (by decide) (by omega) (kB x i)
    have hby : ∀ k, k < lnS σ + 1 → byt (upd (lbS σ) (lnS σ) (kB x i) k) := by
      intro k hk
      by_cases he : k = lnS σ
      · rw [he, pk_us]; exact kB_byt x i
      · rw [pk_un he]; exact hok.2.2.2.1 k (by omega)
    have hc1 := co_line hc q2 (q3.wide (by omega) (by omega)) hby
    obtain ⟨M', L', r1, r2, r3, r4, r5⟩ := ih (i + 1) f _ M1 (by omega) (by omega) hc1 (by show lnS σ + 1 + d ≤ 60; omega)
    have e2 : lnS (wLine σ (lnS σ + 1) (upd (lbS σ) (lnS σ) (kB x i))) = lnS σ + 1 := rfl
    rw [e2] at r1 r3 r4 r5
    have e3 : lnS σ + 1 + d = lnS σ + (d + 1) := by omega
    rw [e3] at r1 r3
    refine ⟨M', L', ?_, (q3.wide (by omega) (by omega)).trans r2, r3, fun k hk => ?_, fun j hj => ?_⟩
    · rw [fX7_keys_42, if_neg (nI_ge (by omega) (by omega)), co_g0 hc, Option.bind_some, cs_g0 hsh, Option.bind_some, e, Option.bind_some]
      dsimp only
      rw [tx_ck hsh.2.1, Option.bind_some, q1, Option.bind_some, nI_1, r1]
    · rw [r4 k (by omega)]
      show upd (lbS σ) (lnS σ) (kB x i) k = _
      exact pk_un (by omega)
    · cases j with
      | zero =>
        rw [Nat.add_zero, r4 (lnS σ) (by omega)]
        exact pk_us
      | succ j =>
        have := r5 j (by omega)
        rw [show lnS σ + 1 + j = lnS σ + (j + 1) by omega, show i + 1 + j = i + (j + 1) by omega] at this
        exact this
theorem r_keysAdd (x : Int32) {c : Nat} (hc4 : c ≤ 4) : ∀ (d i f len : Nat) (A : Nat → Nat → Int32) (M : Mem), i + d = c → d < f → A 10 0 = nI len → len + d ≤ 60 → RM m A B N M → ∃ M' A', fX8_keys_51 f m x (nI c) (nI i) M = some (nI (len + d), M') ∧ RM m A' B N M' ∧ (∀ j, ¬ j = 10 → ¬ j = 11 → A' j = A j) ∧ A' 10 0 = nI (len + d) ∧ (∀ i, 1 ≤ i → A' 10 i = A 10 i) ∧ (∀ k, k < len → A' 11 k = A 11 k) ∧ (∀ j, j < d → A' 11 (len + j) = kB x (i + j)) ∧ ∀ i, 60 ≤ i → A' 11 i = A 11 i := by
  intro d
  induction d with
  | zero =>
    intro i f len A M hi hf hA hn R
    obtain ⟨f, rfl⟩ : ∃ g, f = g + 1 := ⟨f - 1, by omega⟩
    refine ⟨M, A, ?_, R, fun _ _ _ => rfl, hA, fun _ _ => rfl, fun _ _ => rfl, fun j hj => absurd hj (Nat.not_lt_zero j), fun _ _ => rfl⟩
    rw [fX8_keys_51, if_pos (nI_le (by omega) (by omega)), rm_gN10 R, Option.bind_some, rm_len hA R, Option.bind_some]
    rfl
  | succ d ih =>
    intro i f len A M hi hf hA hn R
    obtain ⟨f, rfl⟩ : ∃ g, f = g + 1 := ⟨f - 1, by omega⟩
    obtain ⟨M1, M2, q1, q2, q3, q4, q5⟩ := p_key1 (by omega) hA (kB x i) R
    obtain ⟨M', A', r1, r2, r3, r4, r5, r6, r7, r8⟩ := ih (i + 1) f (len + 1) _ M2 (by omega) (by omega) (lineP_10 A len (kB x i)) (by omega) q5
    have e3 : len + 1 + d = len + (d + 1) := by omega
    rw [e3] at r1 r4
    refine ⟨M', A', ?_, r2, fun j h1 h2 => ?_, r4, fun j hj => ?_, fun k hk => ?_, fun j hj => ?_, fun j hj => ?_⟩
    · rw [fX8_keys_51, if_neg (nI_ge (by omega) (by omega)), rm_gN11 R, Option.bind_some, rm_gN10 R, Option.bind_some, rm_len hA R, Option.bind_some, ← kB_eq x i (by omega), q1, Option.bind_some, q2, Option.bind_some, q3, Option.bind_some, q4, Option.bind_some, nI_1, r1]
    · rw [r3 j h1 h2]
      unfold lineP upA
      rw [if_neg h1, if_neg h2]
    · rw [r5 j hj]
      show upd (A 10) 0 _ j = _
      exact pk_un (by omega)
    · rw [r6 k (by omega)]
      show upd (A 11) len _ k = _
      exact pk_un (by omega)
    · cases j with
      | zero =>
        rw [Nat.add_zero, r6 len (by omega)]
        show upd (A 11) len _ len = _
        exact pk_us
      | succ j =>
        have := r7 j (by omega)
        rw [show len + 1 + j = len + (j + 1) by omega, show i + 1 + j = i + (j + 1) by omega] at this
        exact this
    · rw [r8 j hj]
      show upd (A 11) len _ j = _
      exact pk_un (by omega)
theorem step_keys (h : INV z kc σ im M) (x : Int32) : Step z kc (fX7_keys z x) (fX8_keys (z + 18) x) M := by
  have hc := h.2.1
  have hok := co_ok hc
  have hsh := co_sh hc
  have hln := hok.2.2.1
  have hk4 := kcN_le x 4 0
  have ec : fX7_keys z x M = fX7_keys_21 z x (nI (kcN x 4 0)) M := c_keysCount x M 4 0 FU (by decide) (by unfold FU; decide)
  have er : ∀ M1, fX8_keys_7 FU (z + 18) x 0 M1 = fX8_keys_34 (z + 18) x (nI (kcN x 4 0)) M1 := fun M1 => r_keysCount x M1 4 0 FU (by decide) (by unfold FU; decide)
  generalize kcN x 4 0 = c at hk4 ec er
  by_cases hx : lnS σ + c ≤ 60
  · obtain ⟨M', L', r1, r2, r3, r4, r5⟩ := c_keysAdd x (c := c) (by omega) c 0 FU σ M (by omega) (by unfold FU; omega) hc hx
    have cc : fX7_keys z x M = some (nI (lnS σ + c), M') := by
      rw [ec]
      unfold fX7_keys_21
      rw [co_g0 hc, Option.bind_some, cs_g0 hsh, Option.bind_some, tx_ck hsh.2.1, Option.bind_some, tx_len hsh.2.1, Option.bind_some]
      dsimp only
      rw [nI_add, if_pos (li_le 60 _ 60 rfl hx (by decide))]
      exact r1
    refine step_of h cc (Cl.of r2 hc.1 (by omega)) r3 (fun A B hR hO => ?_)
    obtain ⟨M1, s1, R1⟩ := rm_code hR 0
    obtain ⟨M2, A', t1, t2, t3, t4, t5, t6, t7, t8⟩ := r_keysAdd x (c := c) (by omega) c 0 FU (lnS σ) A M1 (by omega) (by unfold FU; omega) hO.1.2.2.1 hx R1
    refine ⟨A', B, M2, ?_, t2, ro_line hO t3 t4 (fun k hk => ?_) t5 t8⟩
    · unfold fX8_keys
      rw [s1, Option.bind_some, er]
      unfold fX8_keys_34
      rw [rm_gN10 R1, Option.bind_some, rm_len hO.1.2.2.1 R1, Option.bind_some, nI_add, if_pos (li_le 60 _ 60 rfl hx (by decide))]
      exact t1
    · rcases Nat.lt_or_ge k (lnS σ) with q | q
      · have := hO.1.2.2.2.1 k q
        rw [Nat.mul_zero, Nat.zero_add] at this
        rw [t6 k q, r4 k q, this]
      · obtain ⟨j, rfl⟩ : ∃ j, k = lnS σ + j := ⟨k - lnS σ, by omega⟩
        rw [t7 j (by omega), r5 j (by omega)]
  · have cc : fX7_keys z x M = some (-1, M) := by
      rw [ec]
      unfold fX7_keys_21
      rw [co_g0 hc, Option.bind_some, cs_g0 hsh, Option.bind_some, tx_ck hsh.2.1, Option.bind_some, tx_len hsh.2.1, Option.bind_some]
      dsimp only
      rw [nI_add, if_neg (li_nle 60 _ 60 rfl (by omega) (by omega))]
    refine step_of h cc (Cl.of (Chg.rf 0 0 M) hc.1 (by omega)) hc (fun A B hR hO => ?_)
    obtain ⟨M1, s1, R1⟩ := rm_code hR 0
    refine ⟨A, B, M1, ?_, R1, hO⟩
    unfold fX8_keys
    rw [s1, Option.bind_some, er]
    unfold fX8_keys_34
    rw [rm_gN10 R1, Option.bind_some, rm_len hO.1.2.2.1 R1, Option.bind_some, nI_add, if_neg (li_nle 60 _ 60 rfl (by omega) (by omega))]
end CKEYS
