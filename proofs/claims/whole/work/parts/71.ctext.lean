/-! ===== the class: texts ===== -/
theorem pF_3 {M : Mem} {t b : Nat} {n x : Int32} (h : M.2.1 t = some (.inr (3, [.ref b, .int n]))) : pF M 3 t 1 (.int x) = some (mst M t (.inr (3, [.ref b, .int x]))) := by simp [pF, h]
section CTEXT
variable {t cap n : Nat} {L : Nat → Int32} {M : Mem}
theorem tx_ck (h : TX t cap n L M) : ck M 3 t = some () := by simp [ck, h.2.1]
theorem tx_b (h : TX t cap n L M) : gN M 3 t 0 = some (t + 1) := by simp [gN, gF, h.2.1, vN]
theorem tx_n (h : TX t cap n L M) : gI M 3 t 1 = some (nI n) := by simp [gI, gF, h.2.1, vI]
theorem tx_cap (h : TX t cap n L M) : aN M (t + 1) = some (nI cap) := by
  obtain ⟨-, -, f, h2, -⟩ := h
  unfold aN
  rw [h2]
  rfl
theorem tx_a (h : TX t cap n L M) (hc : cap < 2 ^ 30) {k : Nat} (hk : k < n) : aI M (t + 1) (nI k) = some (L k) := by
  obtain ⟨h0, -, f, h2, h3⟩ := h
  simp [aI, h2, inr_nI (show k < cap by omega) (by omega), nI_clamp (show k < 2 ^ 31 by omega), h3 k hk]
theorem tx_len (h : TX t cap n L M) : fX4_length t M = some (nI n, M) := by
  unfold fX4_length
  rw [tx_n h, Option.bind_some]
theorem tx_congr {L' : Nat → Int32} (h : TX t cap n L M) (hL : ∀ k, k < n → L k = L' k) : TX t cap n L' M := by
  obtain ⟨h0, h1, f, h2, h3⟩ := h
  exact ⟨h0, h1, f, h2, fun k hk => (h3 k hk).trans (hL k hk)⟩
theorem tx_add (h : TX t cap n L M) (hc : cap < 2 ^ 30) (hn : n < cap) (x : Int32) : ∃ M', fX4_add t x M = some M' ∧ TX t cap (n + 1) (upd L n x) M' ∧ Chg t (t + 1) M M' := by
  have h' := h
  obtain ⟨h0, h1, f, h2, h3⟩ := h'
  have e1 : sI M (t + 1) (nI n) x = some (mst M (t + 1) (.inl (.int, cap, .inl (upd f n x)))) := by
    simp [sI, h2, inr_nI hn (by omega), nI_clamp (show n < 2 ^ 31 by omega)]
  have a1 : (mst M (t + 1) (.inl (.int, cap, .inl (upd f n x)))).2.1 t = some (.inr (3, [.ref (t + 1), .int (nI n)])) := (mst_ne _ _ (by omega)).trans h1
  have g1 : gI (mst M (t + 1) (.inl (.int, cap, .inl (upd f n x)))) 3 t 1 = some (nI n) := by simp [gI, gF, a1, vI]
  refine ⟨mst (mst M (t + 1) (.inl (.int, cap, .inl (upd f n x)))) t (.inr (3, [.ref (t + 1), .int (nI (n + 1))])), ?_, ⟨hn, mst_at _ _ _, upd f n x, ?_, fun k hk => ?_⟩, ?_⟩
  · unfold fX4_add fX4_add_32
    rw [tx_n h, Option.bind_some, tx_b h, Option.bind_some, tx_cap h, Option.bind_some, if_neg (nI_ge hn (by omega)), Option.bind_some, Option.bind_some, e1, Option.bind_some, g1, Option.bind_some, nI_1, pF_3 a1, Option.bind_some]
  · rw [mst_ne _ _ (by omega)]
    exact mst_at _ _ _
  · by_cases he : k = n
    · subst he; rw [pk_us, pk_us]
    · rw [pk_un he, pk_un he]
      exact h3 k (by omega)
  · exact ((Chg.mst M (t + 1) _).wide (by omega) (by omega)).trans ((Chg.mst _ t _).wide (by omega) (by omega))
theorem tx_set (h : TX t cap n L M) {j : Nat} (hj : j ≤ cap) (L' : Nat → Int32) (hL : ∀ k, k < j → k < n ∧ L k = L' k) : pF M 3 t 1 (.int (nI j)) = some (mst M t (.inr (3, [.ref (t + 1), .int (nI j)]))) ∧ TX t cap j L' (mst M t (.inr (3, [.ref (t + 1), .int (nI j)]))) ∧ Chg t (t + 1) M (mst M t (.inr (3, [.ref (t + 1), .int (nI j)]))) := by
  obtain ⟨h0, h1, f, h2, h3⟩ := h
  refine ⟨pF_3 h1, ⟨hj, mst_at _ _ _, f, (mst_ne _ _ (by omega)).trans h2, fun k hk => ?_⟩, (Chg.mst M t _).wide (by omega) (by omega)⟩
  obtain ⟨q1, q2⟩ := hL k hk
  exact (h3 k q1).trans q2
theorem tx_empty (h : TX t cap n L M) (L' : Nat → Int32) : ∃ M', fX4_empty t M = some M' ∧ TX t cap 0 L' M' ∧ Chg t (t + 1) M M' := by
  obtain ⟨e, h1, h2⟩ := tx_set h (j := 0) (Nat.zero_le _) L' (fun k hk => absurd hk (Nat.not_lt_zero k))
  refine ⟨_, ?_, h1, h2⟩
  unfold fX4_empty
  have e' : pF M 3 t 1 (.int 0) = _ := e
  rw [e', Option.bind_some]
theorem max_0 {x : Int32} (h : ¬ x < 0) (M : Mem) : fJ9_max_7cf53 x 0 M = some (x, M) := by
  unfold fJ9_max_7cf53 fJ9_max_7cf53_10
  rw [if_neg h]
theorem tx_shorten (h : TX t cap n L M) (hc : cap < 2 ^ 30) {j : Nat} (hj : j ≤ n) : ∃ M', fX4_shorten t (nI j) M = some M' ∧ TX t cap (n - j) L M' ∧ Chg t (t + 1) M M' := by
  have hn := h.1
  obtain ⟨e, h1, h2⟩ := tx_set h (j := n - j) (by omega) L (fun k hk => ⟨by omega, rfl⟩)
  refine ⟨_, ?_, h1, h2⟩
  unfold fX4_shorten
  rw [tx_n h, Option.bind_some, max_0 (nI_pos (show j < 2 ^ 31 by omega)), Option.bind_some]
  dsimp only
  rw [pk_sub hj, max_0 (nI_pos (show n - j < 2 ^ 31 by omega)), Option.bind_some]
  dsimp only
  rw [e, Option.bind_some]
theorem tx_copy {t' cap' n' : Nat} {L' : Nat → Int32} (h : TX t cap n L M) (h' : TX t' cap' n' L' M) (hd : t + 1 < t' ∨ t' + 1 < t) (hc : cap < 2 ^ 30) (hc' : cap' < 2 ^ 30) (hn : n' ≤ cap) : ∃ M', fX4_copyFrom t t' M = some M' ∧ TX t cap n' L' M' ∧ Chg t (t + 1) M M' := by
  have hh := h
  have hh' := h'
  obtain ⟨h0, h1, f, h2, h3⟩ := hh
  obtain ⟨k0, k1, g, k2, k3⟩ := hh'
  have c1 := Chg.mst M t (.inr (3, [.ref (t + 1), .int (nI n')]))
  have b1 : gN (mst M t (.inr (3, [.ref (t + 1), .int (nI n')]))) 3 t' 0 = some (t' + 1) := by
    have : (mst M t (.inr (3, [.ref (t + 1), .int (nI n')]))).2.1 t' = some (.inr (3, [.ref (t' + 1), .int (nI n')])) := (mst_ne _ _ (by omega)).trans k1
    simp [gN, gF, this, vN]
  have b2 : (mst M t (.inr (3, [.ref (t + 1), .int (nI n')]))).2.1 t = some (.inr (3, [.ref (t + 1), .int (nI n')])) := mst_at _ _ _
  have b3 : gN (mst M t (.inr (3, [.ref (t + 1), .int (nI n')]))) 3 t 0 = some (t + 1) := by simp [gN, gF, b2, vN]
  have b4 : gI (mst M t (.inr (3, [.ref (t + 1), .int (nI n')]))) 3 t 1 = some (nI n') := by simp [gI, gF, b2, vI]
  have b5 : (mst M t (.inr (3, [.ref (t + 1), .int (nI n')]))).2.1 (t' + 1) = some (.inl (.int, cap', .inl g)) := (mst_ne _ _ (by omega)).trans k2
  have b6 : (mst M t (.inr (3, [.ref (t + 1), .int (nI n')]))).2.1 (t + 1) = some (.inl (.int, cap, .inl f)) := (mst_ne _ _ (by omega)).trans h2
  have b7 : cpI (mst M t (.inr (3, [.ref (t + 1), .int (nI n')]))) (t' + 1) 0 (t + 1) 0 (nI n') = some (mst (mst M t (.inr (3, [.ref (t + 1), .int (nI n')]))) (t + 1) (.inl (.int, cap, .inl (va_cpy g f 0 0 n')))) := by
    have hnc : (nI n').toNatClampNeg = n' := nI_clamp (by omega)
    have hnn : ¬ nI n' < 0 := nI_pos (by omega)
    unfold cpI
    rw [b5, b6]
    dsimp only
    rw [if_pos ⟨⟨by decide, by decide, hnn⟩, by rw [hnc]; show 0 + n' ≤ cap'; omega, by rw [hnc]; show 0 + n' ≤ cap; omega⟩, hnc]
    rfl
  refine ⟨mst (mst M t (.inr (3, [.ref (t + 1), .int (nI n')]))) (t + 1) (.inl (.int, cap, .inl (va_cpy g f 0 0 n'))), ?_, ⟨hn, ?_, va_cpy g f 0 0 n', mst_at _ _ _, fun k hk => ?_⟩, ?_⟩
  · unfold fX4_copyFrom
    rw [tx_n h', Option.bind_some, tx_b h, Option.bind_some, tx_cap h, Option.bind_some]
    unfold fJ9_min_7cf53 fJ9_min_7cf53_10
    rw [if_neg (nI_nlt hn (by omega)), Option.bind_some]
    dsimp only
    rw [pF_3 h1, Option.bind_some, b1, Option.bind_some, b3, Option.bind_some, b4, Option.bind_some, b7, Option.bind_some]
  · rw [mst_ne _ _ (by omega)]
    exact b2
  · rw [pk_cpy_in (by omega) (by omega)]
    rw [show 0 + (k - 0) = k by omega]
    exact k3 k hk
  · exact (c1.wide (by omega) (by omega)).trans ((Chg.mst _ (t + 1) _).wide (by omega) (by omega))
theorem tx_byteAt (h : TX t cap n L M) (hc : cap < 2 ^ 30) (x : Int32) : (∃ k, k < n ∧ x = nI k ∧ fX4_byteAt t x M = some (L k, M)) ∨ (¬ (∃ k, k < n ∧ x = nI k) ∧ fX4_byteAt t x M = some (-1, M)) := by
  have hn := h.1
  unfold fX4_byteAt fX4_byteAt_21 fX4_byteAt_22
  by_cases hx : x < 0
  · rw [if_pos hx]
    refine Or.inr ⟨?_, rfl⟩
    rintro ⟨k, hk, rfl⟩
    exact absurd hx (nI_pos (by omega))
  · obtain ⟨k, hk, rfl⟩ := nI_of hx
    rw [if_neg hx, tx_n h, Option.bind_some]
    by_cases hk2 : k < n
    · rw [if_neg (nI_ge hk2 (by omega)), tx_b h, Option.bind_some, tx_a h hc hk2, Option.bind_some]
      exact Or.inl ⟨k, hk2, rfl, rfl⟩
    · rw [if_pos (nI_le (by omega) hk)]
      refine Or.inr ⟨?_, rfl⟩
      rintro ⟨j, hj, he⟩
      have := (nI_eq hk (by omega)).mp he
      omega
end CTEXT
