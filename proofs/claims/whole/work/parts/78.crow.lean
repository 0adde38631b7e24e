/-! ===== the calls, one by one: row ===== -/
theorem byte_255 : ∀ v, v < 256 → ((nI v).toInt8.toInt32 &&& 255) = nI v := by decide +kernel
section CROW
variable {z : Nat} {kc : KC} {σ : Sg} {im : Nat → Option (Nat × Sg)} {M N : Mem} {A A' : Nat → Nat → Int32} {B B' : Nat → Nat → Int64} {m : Nat}
theorem rm_gN15 (R : RM m A B N M) : gN M 5 m 15 = some (m + 15) := by
  obtain ⟨I, A', fd, rfl, hC⟩ := R
  exact mm_gN15
theorem rm_gN16 (R : RM m A B N M) : gN M 5 m 16 = some (m + 16) := by
  obtain ⟨I, A', fd, rfl, hC⟩ := R
  exact mm_gN16
theorem rm_sB {i : Nat} (hi : i < 7200) (x : Int32) (R : RM m A B N M) : ∃ M', sB M (m + 16) (nI i) x = some M' ∧ RM m (upA A 16 (upd (A 16) i (vp_nar .byte x))) B N M' := by
  obtain ⟨I, A', fd, rfl, hC⟩ := R
  have hj' := hC 16 (by decide)
  refine ⟨mm m I (upA A' 16 (upd (A' 16) i (vp_nar .byte x))) B fd N, ?_, I, _, fd, rfl, ?_⟩
  · rw [← mm_setA (by decide) (by decide)]
    unfold sB
    rw [mm_arr (by decide) (by decide)]
    have h1 : mcell A' B 16 = .inl (.byte, 7200, .inl (A' 16)) := rfl
    rw [h1]
    dsimp only
    rw [if_pos (inr_nI hi (by decide)), nI_clamp (by omega)]
    rfl
  · intro k hk
    by_cases hkj : k = 16
    · simp only [upA, if_pos hkj, hj']
    · simp only [upA, if_neg hkj]
      exact hC k hk
/-- the reference copies its line into a row -/
theorem r_rowLoop {r len : Nat} (hr : r < 30) (hlen : len ≤ 60) : ∀ (d k f : Nat) (A : Nat → Nat → Int32) (M : Mem), k + d = len → d < f → A 10 0 = nI len → (∀ j, j < len → byt (A 11 j)) → RM m A B N M → ∃ M' A', fX8_row_49 f m (nI r) (nI k) M = some (nI r, M') ∧ RM m A' B N M' ∧ (∀ j, ¬ j = 10 → ¬ j = 16 → A' j = A j) ∧ A' 10 0 = 0 ∧ (∀ i, 1 ≤ i → A' 10 i = A 10 i) ∧ (∀ j, k ≤ j → j < len → A' 16 (60 * r + j) &&& 255 = A 11 j) ∧ (∀ i, (i < 60 * r + k ∨ 60 * r + len ≤ i) → A' 16 i = A 16 i) := by
  intro d
  induction d with
  | zero =>
    intro k f A M hk hf hA hb R
    obtain ⟨f, rfl⟩ : ∃ g, f = g + 1 := ⟨f - 1, by omega⟩
    obtain ⟨M2, h2, R2⟩ := rm_sI (j := 10) (i := 0) (by decide) (by decide) rfl (by decide) (by decide) 0 R
    have h2' : sI M (m + 10) 0 0 = some M2 := h2
    refine ⟨M2, _, ?_, R2, fun j h1 h2 => ?_, ?_, fun i hi => ?_, fun j h1 h2 => by omega, fun i _ => rfl⟩
    · rw [fX8_row_49, rm_gN10 R, Option.bind_some, rm_len hA R, Option.bind_some, if_pos (nI_le (by omega) (by omega)), Option.bind_some, h2', Option.bind_some]
    · unfold upA; rw [if_neg h1]
    · show upd (A 10) 0 0 0 = _
      exact pk_us
    · show upd (A 10) 0 0 i = _
      exact pk_un (by omega)
  | succ d ih =>
    intro k f A M hk hf hA hb R
    obtain ⟨f, rfl⟩ : ∃ g, f = g + 1 := ⟨f - 1, by omega⟩
    have e1 : (60 : Int32) * nI r + nI k = nI (60 * r + k) := by
      rw [show (60 : Int32) * nI r = nI (60 * r) from pk_mul 60 r, nI_add]
    obtain ⟨M1, s1, R1⟩ := rm_sB (i := 60 * r + k) (by omega) ((A 11 k).toInt8.toInt32) R
    rw [pk_vb] at R1
    have a11 : aI M (m + 11) (nI k) = some (A 11 k) := rm_aI (by decide) (by decide) rfl (by decide) (show k < 240 by omega) R
    obtain ⟨M', A', r1, r2, r3, r4, r5, r6, r7⟩ := ih (k + 1) f (upA A 16 (upd (A 16) (60 * r + k) (A 11 k).toInt8.toInt32)) M1 (by omega) (by omega) hA hb R1
    refine ⟨M', A', ?_, r2, fun j h1 h2 => ?_, r4, r5, fun j h1 h2 => ?_, fun i hi => ?_⟩
    · rw [fX8_row_49, rm_gN10 R, Option.bind_some, rm_len hA R, Option.bind_some, if_neg (nI_ge (by omega) (by omega)), rm_gN16 R, Option.bind_some, rm_gN11 R, Option.bind_some, a11, Option.bind_some, e1, s1, Option.bind_some, nI_1, r1]
    · rw [r3 j h1 h2]
      unfold upA; rw [if_neg h2]
    · by_cases he : j = k
      · subst he
        rw [r7 _ (by omega)]
        show upd (A 16) (60 * r + j) _ (60 * r + j) &&& 255 = _
        rw [pk_us]
        obtain ⟨v, hv, e⟩ := hb j h2
        rw [e]
        exact byte_255 v hv
      · exact r6 j (by omega) h2
    · rw [r7 i (by omega)]
      show upd (A 16) (60 * r + k) _ i = _
      exact pk_un (by omega)
theorem p_row {nr len : Nat} (hnr : nr < 30) (hlen : len ≤ 60) (h14 : A 14 0 = nI nr) (hA : A 10 0 = nI len) (hb : ∀ j, j < len → byt (A 11 j)) (R : RM m A B N M) : ∃ M' A', fX8_row m M = some (nI nr, M') ∧ RM m A' B N M' ∧ (∀ j, ¬ j = 10 → ¬ j = 14 → ¬ j = 15 → ¬ j = 16 → A' j = A j) ∧ A' 10 0 = 0 ∧ (∀ i, 1 ≤ i → A' 10 i = A 10 i) ∧ A' 14 0 = nI (nr + 1) ∧ (∀ i, 1 ≤ i → A' 14 i = A 14 i) ∧ A' 15 nr = nI len ∧ (∀ i, ¬ i = nr → A' 15 i = A 15 i) ∧ (∀ j, j < len → A' 16 (60 * nr + j) &&& 255 = A 11 j) ∧ ∀ i, (i < 60 * nr ∨ 60 * nr + len ≤ i) → A' 16 i = A 16 i := by
  obtain ⟨M1, e1, R1⟩ := rm_code R 0
  have a14 := rm_0 (by decide) (by decide) rfl (by decide) (by decide) h14 R1
  obtain ⟨M2, e2, R2⟩ := rm_sI (j := 14) (i := 0) (by decide) (by decide) rfl (by decide) (by decide) (nI (nr + 1)) R1
  have e2' : sI M1 (m + 14) 0 (nI (nr + 1)) = some M2 := e2
  have hA2 : upA A 14 (upd (A 14) 0 (nI (nr + 1))) 10 0 = nI len := hA
  obtain ⟨M3, e3, R3⟩ := rm_sI (j := 15) (i := nr) (by decide) (by decide) rfl (by decide) (show nr < 120 by omega) (nI len) R2
  obtain ⟨M', A', r1, r2, r3, r4, r5, r6, r7⟩ := r_rowLoop hnr hlen len 0 FU _ M3 (by omega) (by unfold FU; omega) (by show A 10 0 = _; exact hA) (fun j hj => by show byt (A 11 j); exact hb j hj) R3
  refine ⟨M', A', ?_, r2, fun j h1 h2 h3 h4 => ?_, r4, fun i hi => r5 i hi, ?_, fun i hi => ?_, ?_, fun i hi => ?_, fun j hj => r6 j (by omega) hj, fun i hi => r7 i (by omega)⟩
  · unfold fX8_row
    rw [e1, Option.bind_some, rm_gN14 R1, Option.bind_some, a14, Option.bind_some, if_neg (fun q => by have := (nI_lit (a := nr) (by omega) (b := 30) (by decide) (x := 30) rfl).mp q; omega), Option.bind_some, a14, Option.bind_some, Option.bind_some, a14, Option.bind_some, nI_1, e2', Option.bind_some, rm_gN15 R2, Option.bind_some, rm_gN10 R2, Option.bind_some, rm_len hA2 R2, Option.bind_some, e3, Option.bind_some]
    exact r1
  · rw [r3 j h1 h4]
    unfold upA
    rw [if_neg h3, if_neg h2]
  · rw [r3 14 (by decide) (by decide)]
    show upd (A 14) 0 _ 0 = _
    exact pk_us
  · rw [r3 14 (by decide) (by decide)]
    show upd (A 14) 0 _ i = _
    exact pk_un (by omega)
  · rw [r3 15 (by decide) (by decide)]
    show upd (A 15) nr _ nr = _
    exact pk_us
  · rw [r3 15 (by decide) (by decide)]
    show upd (A 15) nr _ i = _
    exact pk_un hi
theorem step_row (h : INV z kc σ im M) : Step z kc (fX7_row z) (fX8_row (z + 18)) M := by
  have hc := h.2.1
  have hok := co_ok hc
  have hsh := co_sh hc
  have hm := hc.1
  have hln := hok.2.2.1
  have hnr := hok.2.2.2.2.2.2.1
  by_cases hx : nrS σ < 30
  · obtain ⟨s0, s1, s2, s3, ⟨f4, e4, l4⟩, ⟨f5, e5, l5⟩, s6, s7⟩ := hsh
    obtain ⟨t0, t1, ft, t2, t3⟩ := s1
    -- the length of the new row
    have b1 : sI M (z + 1 + 7) (nI (nrS σ)) (nI (lnS σ)) = some (mst M (z + 1 + 7) (.inl (.int, 30, .inl (upd f5 (nrS σ) (nI (lnS σ)))))) := by
      unfold sI
      rw [e5]
      dsimp only
      rw [if_pos (inr_nI hx (by decide)), nI_clamp (by omega)]
    have g1 := Chg.mst M (z + 1 + 7) (.inl (.int, 30, .inl (upd f5 (nrS σ) (nI (lnS σ)))))
    have n1 : (mst M (z + 1 + 7) (.inl (.int, 30, .inl (upd f5 (nrS σ) (nI (lnS σ)))))).2.1 (z + 1 + 7) = some (.inl (.int, 30, .inl (upd f5 (nrS σ) (nI (lnS σ))))) := mst_at _ _ _
    generalize mst M (z + 1 + 7) (.inl (.int, 30, .inl (upd f5 (nrS σ) (nI (lnS σ))))) = M1 at b1 g1 n1
    have at1 : ∀ a, a < M.1 → (a < z + 1 + 7 ∨ z + 1 + 7 < a) → M1.2.1 a = M.2.1 a := g1.2.2
    have hs1 : M1.2.1 (z + 1) = some (shc (z + 1) (nlS σ) (nrS σ)) := (at1 _ (by omega) (by omega)).trans s0
    have hT1 : TX (z + 1 + 1) 60 (lnS σ) (lbS σ) M1 := TX.fr ⟨t0, t1, ft, t2, t3⟩ g1 (by omega) (by omega)
    have hft1 : M1.2.1 (z + 1 + 1 + 1) = some (.inl (.int, 60, .inl ft)) := (at1 _ (by omega) (by omega)).trans t2
    have hf41 : M1.2.1 (z + 1 + 6) = some (.inl (.int, 1800, .inl f4)) := (at1 _ (by omega) (by omega)).trans e4
    -- its bytes
    have b2 : cpI M1 (z + 1 + 1 + 1) 0 (z + 1 + 6) (nI (60 * nrS σ)) (nI (lnS σ)) = some (mst M1 (z + 1 + 6) (.inl (.int, 1800, .inl (va_cpy ft f4 0 (60 * nrS σ) (lnS σ))))) := by
      have h1 : (nI (lnS σ)).toNatClampNeg = lnS σ := nI_clamp (by omega)
      have h2 : (nI (60 * nrS σ)).toNatClampNeg = 60 * nrS σ := nI_clamp (by omega)
      unfold cpI
      rw [hft1, hf41]
      dsimp only
      rw [if_pos ⟨⟨by decide, nI_pos (by omega), nI_pos (by omega)⟩, by rw [h1]; show 0 + lnS σ ≤ 60; omega, by rw [h1, h2]; omega⟩, h1, h2]
      rfl
    have g2 := Chg.mst M1 (z + 1 + 6) (.inl (.int, 1800, .inl (va_cpy ft f4 0 (60 * nrS σ) (lnS σ))))
    have n2 : (mst M1 (z + 1 + 6) (.inl (.int, 1800, .inl (va_cpy ft f4 0 (60 * nrS σ) (lnS σ))))).2.1 (z + 1 + 6) = some (.inl (.int, 1800, .inl (va_cpy ft f4 0 (60 * nrS σ) (lnS σ)))) := mst_at _ _ _
    generalize mst M1 (z + 1 + 6) (.inl (.int, 1800, .inl (va_cpy ft f4 0 (60 * nrS σ) (lnS σ)))) = M2 at b2 g2 n2
    have m1 : M.1 ≤ M1.1 := g1.1
    have at2 : ∀ a, a < M1.1 → (a < z + 1 + 6 ∨ z + 1 + 6 < a) → M2.2.1 a = M1.2.1 a := g2.2.2
    have hs2 : M2.2.1 (z + 1) = some (shc (z + 1) (nlS σ) (nrS σ)) := (at2 _ (by omega) (by omega)).trans hs1
    have hT2 : TX (z + 1 + 1) 60 (lnS σ) (lbS σ) M2 := hT1.fr g2 (by omega) (by omega)
    -- the line is emptied
    obtain ⟨M3, b3, hT3, g3⟩ := tx_empty hT2 (lbS σ)
    have m2 : M1.1 ≤ M2.1 := g2.1
    have at3 : ∀ a, a < M2.1 → (a < z + 1 + 1 ∨ z + 1 + 1 + 1 < a) → M3.2.1 a = M2.2.1 a := g3.2.2
    have hs3 : M3.2.1 (z + 1) = some (shc (z + 1) (nlS σ) (nrS σ)) := (at3 _ (by omega) (by omega)).trans hs2
    have b4 := pF_sh6 (j := nrS σ + 1) hs3
    have g4 := Chg.mst M3 (z + 1) (shc (z + 1) (nlS σ) (nrS σ + 1))
    have n4 : (mst M3 (z + 1) (shc (z + 1) (nlS σ) (nrS σ + 1))).2.1 (z + 1) = some (shc (z + 1) (nlS σ) (nrS σ + 1)) := mst_at _ _ _
    generalize mst M3 (z + 1) (shc (z + 1) (nlS σ) (nrS σ + 1)) = M4 at b4 g4 n4
    have m3 : M2.1 ≤ M3.1 := g3.1
    have at4 : ∀ a, a < M3.1 → (a < z + 1 ∨ z + 1 < a) → M4.2.1 a = M3.2.1 a := g4.2.2
    have gA : Chg (z + 1) (z + 10) M M4 := ((((g1.wide (by omega) (by omega)).trans (g2.wide (by omega) (by omega))).trans (g3.wide (by omega) (by omega))).trans (g4.wide (by omega) (by omega)))
    have gN0 : ∀ {M' : Mem} {a b : Nat}, M'.2.1 (z + 1) = some (shc (z + 1) a b) → gN M' 2 (z + 1) 0 = some (z + 1 + 1) := fun e => by simp [gN, gF, e, shc, vN]
    have gN4 : ∀ {M' : Mem} {a b : Nat}, M'.2.1 (z + 1) = some (shc (z + 1) a b) → gN M' 2 (z + 1) 4 = some (z + 1 + 6) := fun e => by simp [gN, gF, e, shc, vN]
    have gI6 : ∀ {M' : Mem} {a b : Nat}, M'.2.1 (z + 1) = some (shc (z + 1) a b) → gI M' 2 (z + 1) 6 = some (nI b) := fun e => by simp [gI, gF, e, shc, vI]
    have ckS : ∀ {M' : Mem} {a b : Nat}, M'.2.1 (z + 1) = some (shc (z + 1) a b) → ck M' 2 (z + 1) = some () := fun e => by simp [ck, e, shc]
    have hT0 : TX (z + 1 + 1) 60 (lnS σ) (lbS σ) M := ⟨t0, t1, ft, t2, t3⟩
    have e60 : nI (nrS σ) * 60 = nI (60 * nrS σ) := by rw [Nat.mul_comm]; exact pk_mul _ 60
    have gN5 : gN M 2 (z + 1) 5 = some (z + 1 + 7) := by simp [gN, gF, s0, shc, vN]
    have c : fX7_row z M = some (nI (nrS σ), M4) := by
      unfold fX7_row fX3_moveLineToRows fX3_rowStart
      rw [co_g0 hc, Option.bind_some, ckS s0, Option.bind_some, gI6 s0, Option.bind_some, if_pos (li_lt 30 _ 30 rfl hx (by decide)), gN5, Option.bind_some, Option.bind_some, gN0 s0, Option.bind_some, tx_ck hT0, Option.bind_some, tx_len hT0, Option.bind_some]
      dsimp only
      rw [b1, Option.bind_some, gN0 hs1, Option.bind_some, tx_b hT1, Option.bind_some, gN4 hs1, Option.bind_some, gI6 hs1, Option.bind_some, ckS hs1, Option.bind_some, Option.bind_some]
      dsimp only
      rw [gN0 hs1, Option.bind_some, tx_ck hT1, Option.bind_some, tx_len hT1, Option.bind_some, e60]
      dsimp only
      rw [b2, Option.bind_some, gN0 hs2, Option.bind_some, tx_ck hT2, Option.bind_some, b3, Option.bind_some, gI6 hs3, Option.bind_some, nI_1, b4, Option.bind_some, gI6 n4, Option.bind_some, Option.bind_some]
      dsimp only
      rw [show nI (nrS σ + 1) - 1 = nI (nrS σ) from pk_sub (b := 1) (by omega)]
    -- the new state
    have hl : ∀ b v, z + 42 ≤ b → b < M.1 → M.2.1 b = some (lcell v) → M4.2.1 b = some (lcell v) := fun b v q1 q2 q3 => (gA.2.2 b q2 (by omega)).trans q3
    have at24 : ∀ a, a < M2.1 → (a < z + 1 ∨ z + 1 + 1 + 1 < a) → M4.2.1 a = M2.2.1 a := fun a h1 h2 => (at4 a (by omega) (by omega)).trans (at3 a h1 (by omega))
    have atA : ∀ a, a < M.1 → (z + 1 + 1 + 1 < a) → ¬ a = z + 1 + 6 → ¬ a = z + 1 + 7 → M4.2.1 a = M.2.1 a := fun a h1 h2 h3 h4 => ((at24 a (by omega) (by omega)).trans (at2 a (by omega) (by omega))).trans (at1 a h1 (by omega))
    have rbN : (fun j => if j < 60 * nrS σ then rbS σ j else lbS σ (j - 60 * nrS σ)) = (fun j => if j < 60 * nrS σ then rbS σ j else lbS σ (j - 60 * nrS σ)) := rfl
    have hσ' : CO z (wRows (wLine σ 0 (lbS σ)) (nrS σ + 1) (updN (rlS σ) (nrS σ) (lnS σ)) (fun j => if j < 60 * nrS σ then rbS σ j else lbS σ (j - 60 * nrS σ))) im M4 := by
      refine co_now hc gA ⟨n4, ?_, ?_, ?_, ⟨_, (at24 _ (by omega) (by omega)).trans n2, ?_⟩, ⟨_, ((at24 _ (by omega) (by omega)).trans (at2 _ (by omega) (by omega))).trans n1, ?_⟩, ?_, ?_⟩ ?_
      · exact hT3.fr g4 (by omega) (by omega)
      · obtain ⟨d0, d1, fd, d2, d3⟩ := s2
        exact ⟨d0, (atA _ (by omega) (by omega) (by omega) (by omega)).trans d1, fd, (atA _ (by omega) (by omega) (by omega) (by omega)).trans d2, d3⟩
      · exact s3.fr gA (atA _ (by omega) (by omega) (by omega) (by omega)) hl hok.1
      · intro r hr k hk
        have hr : r < nrS σ + 1 := hr
        show va_cpy ft f4 0 (60 * nrS σ) (lnS σ) (60 * r + k) = if 60 * r + k < 60 * nrS σ then rbS σ (60 * r + k) else lbS σ (60 * r + k - 60 * nrS σ)
        have hk : k < updN (rlS σ) (nrS σ) (lnS σ) r := hk
        unfold updN at hk
        by_cases he : r = nrS σ
        · subst he
          rw [if_pos rfl] at hk
          rw [pk_cpy_in (by omega) (by omega), if_neg (by omega), show 0 + (60 * nrS σ + k - 60 * nrS σ) = k by omega, show 60 * nrS σ + k - 60 * nrS σ = k by omega]
          exact t3 k hk
        · rw [if_neg he] at hk
          have := (hok.2.2.2.2.2.2.2 r (by omega)).1
          rw [pk_cpy_out (by omega), if_pos (by omega)]
          exact l4 r (by omega) k hk
      · intro r hr
        have hr : r < nrS σ + 1 := hr
        show upd f5 (nrS σ) (nI (lnS σ)) r = nI (updN (rlS σ) (nrS σ) (lnS σ) r)
        unfold updN
        by_cases he : r = nrS σ
        · rw [he, pk_us, if_pos rfl]
        · rw [pk_un he, if_neg he]
          exact l5 r (by omega)
      · exact s6.fr (atA _ (by omega) (by omega) (by omega) (by omega))
      · exact s7.fr (atA _ (by omega) (by omega) (by omega) (by omega))
      · refine ⟨hok.1, hok.2.1, Nat.zero_le _, fun k hk => absurd hk (Nat.not_lt_zero k), hok.2.2.2.2.1, hok.2.2.2.2.2.1, hx, fun r hr => ?_⟩
        have hr : r < nrS σ + 1 := hr
        show updN (rlS σ) (nrS σ) (lnS σ) r ≤ 60 ∧ ∀ k, k < updN (rlS σ) (nrS σ) (lnS σ) r → byt (if 60 * r + k < 60 * nrS σ then rbS σ (60 * r + k) else lbS σ (60 * r + k - 60 * nrS σ))
        unfold updN
        by_cases he : r = nrS σ
        · rw [if_pos he]
          refine ⟨hln, fun k hk => ?_⟩
          rw [if_neg (by omega), show 60 * r + k - 60 * nrS σ = k by omega]
          exact hok.2.2.2.1 k hk
        · rw [if_neg he]
          have h2 := hok.2.2.2.2.2.2.2 r (by omega)
          refine ⟨h2.1, fun k hk => ?_⟩
          rw [if_pos (by omega)]
          exact h2.2 k hk
    refine step_of h c (Cl.of gA hc.1 (by omega)) hσ' (fun A B hR hO => ?_)
    obtain ⟨⟨o1, o2, o3, o4, o5, o6, o7, o8, o9⟩, hO2⟩ := hO
    simp only [Nat.mul_zero, Nat.zero_add] at o4 o6
    obtain ⟨MR, A', r1, r2, r3, r4, r5, r6, r7, r8, r9, r10, r11⟩ := p_row hx hln o5 o3 (fun j hj => by rw [o4 j hj]; exact hok.2.2.2.1 j hj) hR
    refine ⟨A', B, MR, r1, r2, ⟨⟨?_, ?_, r4, fun k hk => absurd hk (Nat.not_lt_zero k), r6, ?_, ?_, ?_, o9⟩, fun k hk => ⟨?_, fun s τ he => ?_⟩⟩⟩
    · rw [r3 1 (by decide) (by decide) (by decide) (by decide)]; exact o1
    · rw [r3 2 (by decide) (by decide) (by decide) (by decide), r3 3 (by decide) (by decide) (by decide) (by decide), r3 4 (by decide) (by decide) (by decide) (by decide), r3 5 (by decide) (by decide) (by decide) (by decide), r3 6 (by decide) (by decide) (by decide) (by decide), r3 7 (by decide) (by decide) (by decide) (by decide), r3 8 (by decide) (by decide) (by decide) (by decide), r3 9 (by decide) (by decide) (by decide) (by decide)]; exact o2
    · intro r hr
      have hr : r < nrS σ + 1 := hr
      simp only [Nat.mul_zero, Nat.zero_add]
      show A' 15 r = nI (updN (rlS σ) (nrS σ) (lnS σ) r) ∧ ∀ k, k < updN (rlS σ) (nrS σ) (lnS σ) r → A' 16 (60 * r + k) &&& 255 = if 60 * r + k < 60 * nrS σ then rbS σ (60 * r + k) else lbS σ (60 * r + k - 60 * nrS σ)
      unfold updN
      by_cases he : r = nrS σ
      · subst he
        rw [if_pos rfl]
        refine ⟨r8, fun k hk => ?_⟩
        rw [if_neg (by omega), r10 k hk, show 60 * nrS σ + k - 60 * nrS σ = k by omega]
        exact o4 k hk
      · rw [if_neg he]
        obtain ⟨u1, u2⟩ := o6 r (by omega)
        have hl60 := (hok.2.2.2.2.2.2.2 r (by omega)).1
        refine ⟨(r9 r he).trans u1, fun k hk => ?_⟩
        rw [if_pos (by omega), r11 _ (by omega)]
        exact u2 k hk
    · rw [r3 17 (by decide) (by decide) (by decide) (by decide)]; exact o7
    · rw [r3 18 (by decide) (by decide) (by decide) (by decide)]; exact o8
    · rw [r3 23 (by decide) (by decide) (by decide) (by decide)]; exact (hO2 k hk).1
    · obtain ⟨u1, u2, u3, u4, u5, u6, u7, u8, u9⟩ := (hO2 k hk).2 s τ he
      refine ⟨?_, ?_, ?_, ?_, ?_, ?_, ?_, ?_, u9⟩
      · rw [r3 1 (by decide) (by decide) (by decide) (by decide)]; exact u1
      · rw [r3 2 (by decide) (by decide) (by decide) (by decide), r3 3 (by decide) (by decide) (by decide) (by decide), r3 4 (by decide) (by decide) (by decide) (by decide), r3 5 (by decide) (by decide) (by decide) (by decide), r3 6 (by decide) (by decide) (by decide) (by decide), r3 7 (by decide) (by decide) (by decide) (by decide), r3 8 (by decide) (by decide) (by decide) (by decide), r3 9 (by decide) (by decide) (by decide) (by decide)]; exact u2
      · rw [r5 _ (by omega)]; exact u3
      · rw [r3 11 (by decide) (by decide) (by decide) (by decide)]; exact u4
      · rw [r7 _ (by omega)]; exact u5
      · intro r hr
        obtain ⟨w1, w2⟩ := u6 r hr
        refine ⟨(r9 _ (by omega)).trans w1, fun j hj => ?_⟩
        rw [r11 _ (by omega)]
        exact w2 j hj
      · rw [r3 17 (by decide) (by decide) (by decide) (by decide)]; exact u7
      · rw [r3 18 (by decide) (by decide) (by decide) (by decide)]; exact u8
  · have c : fX7_row z M = some (-1, M) := by
      unfold fX7_row fX3_moveLineToRows
      rw [co_g0 hc, Option.bind_some, cs_ck hsh, Option.bind_some, cs_g6 hsh, Option.bind_some, if_neg (li_nlt 30 _ 30 rfl (by omega) (by omega)), Option.bind_some]
    refine step_of h c (Cl.of (Chg.rf 0 0 M) hc.1 (by omega)) hc (fun A B hR hO => ?_)
    obtain ⟨M1, e1, R1⟩ := rm_code hR 0
    refine ⟨A, B, M1, ?_, R1, hO⟩
    have a14 := rm_0 (by decide) (by decide) rfl (by decide) (by decide) hO.1.2.2.2.2.1 R1
    unfold fX8_row
    rw [e1, Option.bind_some, rm_gN14 R1, Option.bind_some, a14, Option.bind_some, if_pos ((nI_lit (a := nrS σ) (by omega) (b := 30) (by decide) (x := 30) rfl).mpr (by omega))]
end CROW
