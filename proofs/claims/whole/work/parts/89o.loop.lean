/-! ===== the law's loop ===== -/
theorem cmp_rf (x : Int64) : lg_cmp x x = 0 := by
  unfold lg_cmp
  rw [if_neg (show ¬ x > x from Int64.lt_irrefl), if_pos rfl]
section LLOOP
variable {z b L : Nat} {kc : KC} {xs : Nat → Int32}
theorem l_len (hb : KF kc .int b L xs) {M : Mem} (hM : M.2.2 = kc) : kN M b = some (nI L) := by
  obtain ⟨n, f, h1, h2, h3, h4⟩ := hb
  unfold kN
  rw [hM, h1]
  exact congrArg some h3
theorem l_at (hb : KF kc .int b L xs) (hL : L < 10000) {M : Mem} (hM : M.2.2 = kc) {j : Nat} (hj : j < L) : kA M .int b (nI j) = some (xs j) := by
  obtain ⟨n, f, h1, h2, h3, h4⟩ := hb
  unfold kA
  rw [hM, h1]
  dsimp only
  have hin : inr (nI j) n = true := by
    unfold inr
    rw [decide_eq_true (nI_pos (show j < 2 ^ 31 by omega)), nI_clamp (show j < 2 ^ 31 by omega), decide_eq_true (show j < n by omega)]
    rfl
  rw [if_pos ⟨rfl, hin⟩, nI_clamp (show j < 2 ^ 31 by omega), h4 j hj]
theorem l_end {i : Nat} (hL : L < 10000) (hi : i < 20000) : nI L - 9 < nI i ↔ L < i + 9 := by
  rcases Nat.lt_or_ge L 9 with h | h
  · have h9 : ∀ L, L < 9 → nI L - 9 < 0 := by decide
    have h0 := h9 L h
    refine ⟨fun _ => by omega, fun _ => ?_⟩
    have hp := nI_pos (n := i) (by omega)
    rw [Int32.lt_iff_toInt_lt] at h0 hp ⊢
    omega
  · rw [show nI L - 9 = nI (L - 9) from pk_sub (b := 9) h]
    constructor
    · intro q
      rcases Nat.lt_or_ge L (i + 9) with q2 | q2
      · exact q2
      · exact absurd q (nI_nlt (by omega) (by omega))
    · intro q
      exact nI_lt (by omega) (by omega)
set_option maxHeartbeats 4000000 in
set_option maxRecDepth 100000 in
theorem law_loop (hb : KF kc .int b L xs) (hlen : KF kc .int (kc.1 0) 12 (fun j => lenL.getD j 0)) (hS : StrOk kc) (hL : L ≤ 4608) : ∀ (d i f : Nat) (σ : Sg) (im : Nat → Option (Nat × Sg)) (M : Mem), L < i + 9 * d + 9 → i ≤ L + 9 → d < f → INV z kc σ im M → ∃ M', fL_law_18 f b z (z + 18) (nI i) M = some (1, M') := by
  intro d
  induction d with
  | zero =>
    intro i f σ im M h1 h2 hf h
    obtain ⟨f, rfl⟩ : ∃ g, f = g + 1 := ⟨f - 1, by omega⟩
    refine ⟨M, ?_⟩
    rw [fL_law_18, l_len hb h.1, Option.bind_some, if_pos ((l_end (by omega) (by omega)).mpr (by omega)), nz1, Option.bind_some]
  | succ d ih =>
    intro i f σ im M h1 h2 hf h
    obtain ⟨f, rfl⟩ : ∃ g, f = g + 1 := ⟨f - 1, by omega⟩
    by_cases hend : L < i + 9
    · refine ⟨M, ?_⟩
      rw [fL_law_18, l_len hb h.1, Option.bind_some, if_pos ((l_end (by omega) (by omega)).mpr hend), nz1, Option.bind_some]
    · have go : ∀ {σ' : Sg} {im' : Nat → Option (Nat × Sg)} {M2 : Mem}, INV z kc σ' im' M2 → ∃ M', fL_law_994 (fL_law_18 f) b z (z + 18) (nI i) M2 = some (1, M') := by
        intro σ' im' M2 h2'
        unfold fL_law_994
        rw [show nI i + 9 = nI (i + 9) from nI_add i 9]
        exact ih (i + 9) f σ' im' M2 (by omega) (by omega) (by omega) h2'
      have hK : LenOk M := by
        unfold LenOk
        rw [h.1]
        exact hlen
      have hSM : StrOk M.2.2 := by rw [h.1]; exact hS
      have hck := co_ck h.2.1
      have a1 : ∀ {M : Mem}, M.2.2 = kc → kA M .int b (nI i + 1) = some (xs (i + 1)) := fun {M} hM => by
        rw [show nI i + 1 = nI (i + 1) from nI_add i 1]
        exact l_at hb (by omega) hM (by omega)
      have a2 : ∀ {M : Mem}, M.2.2 = kc → kA M .int b (nI i + 2) = some (xs (i + 2)) := fun {M} hM => by
        rw [show nI i + 2 = nI (i + 2) from nI_add i 2]
        exact l_at hb (by omega) hM (by omega)
      have a3 : ∀ {M : Mem}, M.2.2 = kc → kA M .int b (nI i + 3) = some (xs (i + 3)) := fun {M} hM => by
        rw [show nI i + 3 = nI (i + 3) from nI_add i 3]
        exact l_at hb (by omega) hM (by omega)
      have a4 : ∀ {M : Mem}, M.2.2 = kc → kA M .int b (nI i + 4) = some (xs (i + 4)) := fun {M} hM => by
        rw [show nI i + 4 = nI (i + 4) from nI_add i 4]
        exact l_at hb (by omega) hM (by omega)
      have a5 : ∀ {M : Mem}, M.2.2 = kc → kA M .int b (nI i + 5) = some (xs (i + 5)) := fun {M} hM => by
        rw [show nI i + 5 = nI (i + 5) from nI_add i 5]
        exact l_at hb (by omega) hM (by omega)
      have a6 : ∀ {M : Mem}, M.2.2 = kc → kA M .int b (nI i + 6) = some (xs (i + 6)) := fun {M} hM => by
        rw [show nI i + 6 = nI (i + 6) from nI_add i 6]
        exact l_at hb (by omega) hM (by omega)
      have a7 : ∀ {M : Mem}, M.2.2 = kc → kA M .int b (nI i + 7) = some (xs (i + 7)) := fun {M} hM => by
        rw [show nI i + 7 = nI (i + 7) from nI_add i 7]
        exact l_at hb (by omega) hM (by omega)
      have a8 : ∀ {M : Mem}, M.2.2 = kc → kA M .int b (nI i + 8) = some (xs (i + 8)) := fun {M} hM => by
        rw [show nI i + 8 = nI (i + 8) from nI_add i 8]
        exact l_at hb (by omega) hM (by omega)
      have hM := h.1
      rw [fL_law_18, l_len hb hM, Option.bind_some, if_neg (fun q => hend ((l_end (by omega) (by omega)).mp q)), l_at hb (by omega) hM (show i < L by omega), Option.bind_some]
      by_cases t0 : xs i &&& 31 = 0
      · rw [if_pos t0]
        have land : ∀ q : Int32, (q = 0 ∨ q = 1) → (xs (i + 6) = 0 ∧ q = 0 ∨ ¬ xs (i + 6) = 0 ∧ q = 1) → ∃ M', fL_law_180 (fL_law_18 f) b z (z + 18) (nI i) q (xs (i + 5)) (xs (i + 4)) (xs (i + 3)) (xs (i + 2)) (xs (i + 1)) z M = some (1, M') := by
          intro q hq hq2
          obtain ⟨r, M1, M2, σ', im', c1, c2, c3, c4, c5⟩ := step_land h (p := xs (i + 1)) (g := xs (i + 2)) (t := xs (i + 3)) (mn := xs (i + 4)) (mk := xs (i + 5)) (b := q) (o := xs (i + 7)) (d := xs (i + 8)) hq
          have l235 : ∃ M', fL_law_235 (fL_law_18 f) b z (z + 18) (nI i) q (xs (i + 5)) (xs (i + 4)) (xs (i + 3)) (xs (i + 2)) (xs (i + 1)) (z + 18) r M1 = some (1, M') := by
            unfold fL_law_235
            rw [a7 c2, Option.bind_some, a8 c2, Option.bind_some, c3, Option.bind_some, c4, Option.bind_some]
            dsimp only
            rw [if_pos rfl]
            exact go c5
          unfold fL_law_180
          rw [a7 hM, Option.bind_some, a8 hM, Option.bind_some, hck, Option.bind_some, c1, Option.bind_some]
          dsimp only
          rw [a1 c2, Option.bind_some, a2 c2, Option.bind_some, a3 c2, Option.bind_some, a4 c2, Option.bind_some, a5 c2, Option.bind_some, a6 c2, Option.bind_some]
          rcases hq2 with ⟨e1, e2⟩ | ⟨e1, e2⟩
          · rw [if_pos e1]; rw [e2] at l235; exact l235
          · rw [if_neg e1]; rw [e2] at l235; exact l235
        rw [a1 hM, Option.bind_some, a2 hM, Option.bind_some, a3 hM, Option.bind_some, a4 hM, Option.bind_some, a5 hM, Option.bind_some, a6 hM, Option.bind_some]
        by_cases h6 : xs (i + 6) = 0
        · rw [if_pos h6]; exact land 0 (Or.inl rfl) (Or.inl ⟨h6, rfl⟩)
        · rw [if_neg h6]; exact land 1 (Or.inr rfl) (Or.inr ⟨h6, rfl⟩)
      rw [if_neg t0]
      by_cases t1 : xs i &&& 31 = 1
      · rw [if_pos t1]
        obtain ⟨r, M1, M2, σ', im', c1, c2, c3, c4, c5⟩ := step_key h (xs (i + 1))
        rw [a1 hM, Option.bind_some, hck, Option.bind_some, c1, Option.bind_some]
        dsimp only
        rw [a1 c2, Option.bind_some, c3, Option.bind_some, c4, Option.bind_some]
        dsimp only
        rw [if_pos rfl]
        exact go c5
      rw [if_neg t1]
      by_cases t2 : xs i &&& 31 = 2
      · rw [if_pos t2]
        obtain ⟨r, M1, M2, σ', im', c1, c2, c3, c4, c5⟩ := step_keys h (xs (i + 1))
        rw [a1 hM, Option.bind_some, hck, Option.bind_some, c1, Option.bind_some]
        dsimp only
        rw [a1 c2, Option.bind_some, c3, Option.bind_some, c4, Option.bind_some]
        dsimp only
        rw [if_pos rfl]
        exact go c5
      rw [if_neg t2]
      by_cases t3 : xs i &&& 31 = 3
      · rw [if_pos t3]
        obtain ⟨r, M1, M2, σ', im', c1, c2, c3, c4, c5⟩ := step_undo h (xs (i + 1))
        rw [a1 hM, Option.bind_some, hck, Option.bind_some, c1, Option.bind_some]
        dsimp only
        rw [a1 c2, Option.bind_some, c3, Option.bind_some, c4, Option.bind_some]
        dsimp only
        rw [if_pos rfl]
        exact go c5
      rw [if_neg t3]
      by_cases t4 : xs i &&& 31 = 4
      · rw [if_pos t4]
        obtain ⟨r, M1, M2, σ', im', c1, c2, c3, c4, c5⟩ := step_bounds h (xs (i + 1)) ((((xs (i + 2)).toInt64) <<< ((32 : Int32).toInt64 &&& 63)) ||| (((xs (i + 3)).toInt64) &&& (4294967295 : Int64))) ((((xs (i + 4)).toInt64) <<< ((32 : Int32).toInt64 &&& 63)) ||| (((xs (i + 5)).toInt64) &&& (4294967295 : Int64)))
        rw [a1 hM, Option.bind_some, a2 hM, Option.bind_some, a3 hM, Option.bind_some, a4 hM, Option.bind_some, a5 hM, Option.bind_some, hck, Option.bind_some, c1, Option.bind_some]
        dsimp only
        rw [a1 c2, Option.bind_some, a2 c2, Option.bind_some, a3 c2, Option.bind_some, a4 c2, Option.bind_some, a5 c2, Option.bind_some, c3, Option.bind_some, c4, Option.bind_some]
        dsimp only
        rw [if_pos rfl]
        exact go c5
      rw [if_neg t4]
      by_cases t5 : xs i &&& 31 = 5
      · rw [if_pos t5]
        obtain ⟨r, M1, M2, σ', im', c1, c2, c3, c4, c5⟩ := step_value h hK (xs (i + 1)) (xs (i + 2))
        rw [a1 hM, Option.bind_some, a2 hM, Option.bind_some, hck, Option.bind_some, c1, Option.bind_some]
        dsimp only
        rw [a1 c2, Option.bind_some, a2 c2, Option.bind_some, c3, Option.bind_some, c4, Option.bind_some]
        dsimp only
        rw [if_pos (cmp_rf r)]
        exact go c5
      rw [if_neg t5]
      by_cases t6 : xs i &&& 31 = 6
      · rw [if_pos t6]
        obtain ⟨r, M1, M2, σ', im', c1, c2, c3, c4, c5⟩ := step_open h hK (xs (i + 1)) (xs (i + 2))
        rw [a1 hM, Option.bind_some, a2 hM, Option.bind_some, hck, Option.bind_some, c1, Option.bind_some]
        dsimp only
        rw [a1 c2, Option.bind_some, a2 c2, Option.bind_some, c3, Option.bind_some, c4, Option.bind_some]
        dsimp only
        rw [if_pos rfl]
        exact go c5
      rw [if_neg t6]
      by_cases t7 : xs i &&& 31 = 7
      · rw [if_pos t7]
        obtain ⟨r, M1, M2, σ', im', c1, c2, c3, c4, c5⟩ := step_good h hK (xs (i + 1)) (xs (i + 2))
        rw [a1 hM, Option.bind_some, a2 hM, Option.bind_some, hck, Option.bind_some, c1, Option.bind_some]
        dsimp only
        rw [a1 c2, Option.bind_some, a2 c2, Option.bind_some, c3, Option.bind_some, c4, Option.bind_some]
        dsimp only
        rw [if_pos rfl]
        exact go c5
      rw [if_neg t7]
      by_cases t8 : xs i &&& 31 = 8
      · rw [if_pos t8]
        obtain ⟨r, M1, M2, σ', im', c1, c2, c3, c4, c5⟩ := step_state h hK (xs (i + 1)) (xs (i + 2))
        rw [a1 hM, Option.bind_some, a2 hM, Option.bind_some, hck, Option.bind_some, c1, Option.bind_some]
        dsimp only
        rw [a1 c2, Option.bind_some, a2 c2, Option.bind_some, c3, Option.bind_some, c4, Option.bind_some]
        dsimp only
        rw [if_pos rfl]
        exact go c5
      rw [if_neg t8]
      by_cases t9 : xs i &&& 31 = 9
      · rw [if_pos t9]
        obtain ⟨r, M1, M2, σ', im', c1, c2, c3, c4, c5⟩ := step_show h hK (xs (i + 1)) (xs (i + 2)) (xs (i + 5)) ((((xs (i + 3)).toInt64) <<< ((32 : Int32).toInt64 &&& 63)) ||| (((xs (i + 4)).toInt64) &&& (4294967295 : Int64)))
        rw [a1 hM, Option.bind_some, a2 hM, Option.bind_some, a3 hM, Option.bind_some, a4 hM, Option.bind_some, a5 hM, Option.bind_some, hck, Option.bind_some, c1, Option.bind_some]
        dsimp only
        rw [a1 c2, Option.bind_some, a2 c2, Option.bind_some, a3 c2, Option.bind_some, a4 c2, Option.bind_some, a5 c2, Option.bind_some, c3, Option.bind_some, c4, Option.bind_some]
        dsimp only
        rw [if_pos rfl]
        exact go c5
      rw [if_neg t9]
      by_cases t10 : xs i &&& 31 = 10
      · rw [if_pos t10]
        obtain ⟨r, M1, M2, σ', im', c1, c2, c3, c4, c5⟩ := step_words h hSM (xs (i + 1))
        rw [a1 hM, Option.bind_some, hck, Option.bind_some, c1, Option.bind_some]
        dsimp only
        rw [a1 c2, Option.bind_some, c3, Option.bind_some, c4, Option.bind_some]
        dsimp only
        rw [if_pos rfl]
        exact go c5
      rw [if_neg t10]
      by_cases t11 : xs i &&& 31 = 11
      · rw [if_pos t11]
        obtain ⟨r, M1, M2, σ', im', c1, c2, c3, c4, c5⟩ := step_shown h (xs (i + 1))
        rw [a1 hM, Option.bind_some, hck, Option.bind_some, c1, Option.bind_some]
        dsimp only
        rw [a1 c2, Option.bind_some, c3, Option.bind_some, c4, Option.bind_some]
        dsimp only
        rw [if_pos rfl]
        exact go c5
      rw [if_neg t11]
      by_cases t12 : xs i &&& 31 = 12
      · rw [if_pos t12]
        obtain ⟨r, M1, M2, σ', im', c1, c2, c3, c4, c5⟩ := step_take h
        rw [hck, Option.bind_some, c1, Option.bind_some]
        dsimp only
        rw [c3, Option.bind_some, c4, Option.bind_some]
        dsimp only
        rw [if_pos rfl]
        exact go c5
      rw [if_neg t12]
      by_cases t13 : xs i &&& 31 = 13
      · rw [if_pos t13]
        obtain ⟨r, M1, M2, σ', im', c1, c2, c3, c4, c5⟩ := step_spoken h hSM
        rw [hck, Option.bind_some, c1, Option.bind_some]
        dsimp only
        rw [c3, Option.bind_some, c4, Option.bind_some]
        dsimp only
        rw [if_pos rfl]
        exact go c5
      rw [if_neg t13]
      by_cases t14 : xs i &&& 31 = 14
      · rw [if_pos t14]
        obtain ⟨r, M1, M2, σ', im', c1, c2, c3, c4, c5⟩ := step_other h hK (xs (i + 1)) (xs (i + 2)) (xs (i + 3)) (xs (i + 6)) ((((xs (i + 4)).toInt64) <<< ((32 : Int32).toInt64 &&& 63)) ||| (((xs (i + 5)).toInt64) &&& (4294967295 : Int64)))
        rw [a1 hM, Option.bind_some, a2 hM, Option.bind_some, a3 hM, Option.bind_some, a4 hM, Option.bind_some, a5 hM, Option.bind_some, a6 hM, Option.bind_some, hck, Option.bind_some, c1, Option.bind_some]
        dsimp only
        rw [a1 c2, Option.bind_some, a2 c2, Option.bind_some, a3 c2, Option.bind_some, a4 c2, Option.bind_some, a5 c2, Option.bind_some, a6 c2, Option.bind_some, c3, Option.bind_some, c4, Option.bind_some]
        dsimp only
        rw [if_pos (cmp_rf r)]
        exact go c5
      rw [if_neg t14]
      by_cases t15 : xs i &&& 31 = 15
      · rw [if_pos t15]
        obtain ⟨r, M1, M2, σ', im', c1, c2, c3, c4, c5⟩ := step_row h
        rw [hck, Option.bind_some, c1, Option.bind_some]
        dsimp only
        rw [c3, Option.bind_some, c4, Option.bind_some]
        dsimp only
        rw [if_pos rfl]
        exact go c5
      rw [if_neg t15]
      by_cases t16 : xs i &&& 31 = 16
      · rw [if_pos t16]
        obtain ⟨M1, M2, σ', im', c1, c2, c3, c4, c5⟩ := step_clear h
        rw [hck, Option.bind_some, c1, Option.bind_some, c3, Option.bind_some, c4, Option.bind_some]
        exact go c5
      rw [if_neg t16]
      by_cases t17 : xs i &&& 31 = 17
      · rw [if_pos t17]
        obtain ⟨r, M1, M2, σ', im', c1, c2, c3, c4, c5⟩ := step_fit h hK (xs (i + 1))
        rw [a1 hM, Option.bind_some, hck, Option.bind_some, c1, Option.bind_some]
        dsimp only
        rw [a1 c2, Option.bind_some, c3, Option.bind_some, c4, Option.bind_some]
        dsimp only
        rw [if_pos rfl]
        exact go c5
      rw [if_neg t17]
      by_cases t18 : xs i &&& 31 = 18
      · rw [if_pos t18]
        obtain ⟨r, M1, M2, σ', im', c1, c2, c3, c4, c5⟩ := step_misfit h hK (xs (i + 1)) (xs (i + 2))
        rw [a1 hM, Option.bind_some, a2 hM, Option.bind_some, hck, Option.bind_some, c1, Option.bind_some]
        dsimp only
        rw [a1 c2, Option.bind_some, a2 c2, Option.bind_some, c3, Option.bind_some, c4, Option.bind_some]
        dsimp only
        rw [if_pos rfl]
        exact go c5
      rw [if_neg t18]
      by_cases t19 : xs i &&& 31 = 19
      · rw [if_pos t19]
        obtain ⟨r, M1, M2, σ', im', c1, c2, c3, c4, c5⟩ := step_sum h hK (xs (i + 1)) (xs (i + 2))
        rw [a1 hM, Option.bind_some, a2 hM, Option.bind_some, hck, Option.bind_some, c1, Option.bind_some]
        dsimp only
        rw [a1 c2, Option.bind_some, a2 c2, Option.bind_some, c3, Option.bind_some, c4, Option.bind_some]
        dsimp only
        rw [if_pos (cmp_rf r)]
        exact go c5
      rw [if_neg t19]
      by_cases t20 : xs i &&& 31 = 20
      · rw [if_pos t20]
        obtain ⟨r, M1, M2, σ', im', c1, c2, c3, c4, c5⟩ := step_count h (xs (i + 1))
        rw [a1 hM, Option.bind_some, hck, Option.bind_some, c1, Option.bind_some]
        dsimp only
        rw [a1 c2, Option.bind_some, c3, Option.bind_some, c4, Option.bind_some]
        dsimp only
        rw [if_pos rfl]
        exact go c5
      rw [if_neg t20]
      by_cases t21 : xs i &&& 31 = 21
      · rw [if_pos t21]
        obtain ⟨r, M1, M2, σ', im', c1, c2, c3, c4, c5⟩ := step_image h (xs (i + 1))
        rw [a1 hM, Option.bind_some, hck, Option.bind_some, c1, Option.bind_some]
        dsimp only
        rw [a1 c2, Option.bind_some, c3, Option.bind_some, c4, Option.bind_some]
        dsimp only
        rw [if_pos rfl]
        exact go c5
      rw [if_neg t21]
      by_cases t22 : xs i &&& 31 = 22
      · rw [if_pos t22]
        obtain ⟨r, M1, M2, σ', im', c1, c2, c3, c4, c5⟩ := step_again h (xs (i + 1))
        rw [a1 hM, Option.bind_some, hck, Option.bind_some, c1, Option.bind_some]
        dsimp only
        rw [a1 c2, Option.bind_some, c3, Option.bind_some, c4, Option.bind_some]
        dsimp only
        rw [if_pos rfl]
        exact go c5
      rw [if_neg t22]
      exact go h
end LLOOP
theorem pure_law : PureLaw := by
  intro z b L xs kc hL hK
  obtain ⟨hb, hlen, hS⟩ := hK
  have e1 : fX7_init z (nO (z, fun _ => none, kc) 4 [.null, .null, .null, .null]) = some (al (z, fun _ => none, kc) (clQ z)) := new_class (z, fun _ => none, kc)
  have e2 := new_ref (al (z, fun _ => none, kc) (clQ z))
  have e3 : (al (z, fun _ => none, kc) (clQ z)).1 = z + 18 := rfl
  rw [e3, al_al] at e2
  have hI := inv_start z kc (z, fun _ => none, kc) rfl rfl
  obtain ⟨M', hM⟩ := law_loop hb hlen hS hL 513 0 FL sg0 (fun _ => none) _ (by omega) (by omega) (by decide) hI
  refine ⟨M', ?_⟩
  unfold fL_law
  show (fX7_init z (nO (z, fun _ => none, kc) 4 [.null, .null, .null, .null])).bind _ = _
  rw [e1, Option.bind_some, e3, e2, Option.bind_some]
  exact hM
