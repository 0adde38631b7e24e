theorem nn_clamp {z : Int32} (hz : ¬ z < 0) : z.toInt = (z.toNatClampNeg : Int) := by
  have hz0 : (0 : Int) ≤ z.toInt := by
    have := Int32.not_lt.mp hz
    simpa using Int32.le_iff_toInt_le.mp this
  show z.toInt = ((z.toInt.toNat : Nat) : Int)
  omega
section CPROWS
variable {κ : KT} {μ : MD} {cells slots pc pc' : Nat} {lv lv' : List (Nat × Value)} {st : List Value} {M M2 : Mem}
theorem cpI_spec {M M2 : Mem} {a0 a : Nat} {sp dp n : Int32} (h : cpI M a0 sp a dp n = some M2) : ∃ n0 f n1 g, M.2.1 a0 = some (.inl (.int, n0, .inl f)) ∧ M.2.1 a = some (.inl (.int, n1, .inl g)) ∧ ((¬ sp < 0 ∧ ¬ dp < 0 ∧ ¬ n < 0) ∧ sp.toNatClampNeg + n.toNatClampNeg ≤ n0 ∧ dp.toNatClampNeg + n.toNatClampNeg ≤ n1) ∧ M2 = mst M a (.inl (.int, n1, .inl (va_cpy f g sp.toNatClampNeg dp.toNatClampNeg n.toNatClampNeg))) := by
  unfold cpI at h
  split at h
  · rename_i n0 f n1 g h0 h1
    by_cases hc : (¬ sp < 0 ∧ ¬ dp < 0 ∧ ¬ n < 0) ∧ sp.toNatClampNeg + n.toNatClampNeg ≤ n0 ∧ dp.toNatClampNeg + n.toNatClampNeg ≤ n1
    · rw [if_pos hc] at h
      exact ⟨n0, f, n1, g, h0, h1, hc, (Option.some.inj h).symm⟩
    · rw [if_neg hc] at h
      cases h
  · cases h
theorem g_cpI {a0 a idx : Nat} {sp dp n : Int32} (O : OkK κ μ) (hd : decode μ.1 pc = .ok (.invokestatic idx, 3)) (hw : Cond.methodLink μ.2.2.1 idx arraycopyName ∈ lw_tbl) (hw2 : Cond.native arraycopyName ∈ lw_tbl) (hw3 : Cond.static arraycopyName ∈ lw_tbl) (hw4 : Cond.initialized "java/lang/System" ∈ lw_tbl) (hv : cpI M a0 sp a dp n = some M2) (hf : 1 ≤ μ.2.2.2.2.1.frames) (hlo : (st.map fun v => v.category).sum + (nativeFrameWords "java/lang/System" "arraycopy" 5 + 11) ≤ μ.2.2.2.2.1.locals) (hp : pc + 3 = pc') (kk : G κ μ cells slots pc' lv st M2) : G κ μ cells slots pc lv (.int n :: .int dp :: .ref a :: .int sp :: .ref a0 :: st) M := by
  obtain ⟨p, l, e, s, m, args, below, meth, c, z, D, ca, kc, r, M'⟩ := κ
  obtain ⟨cc, nL, own, ret, R, nm⟩ := μ
  intro H ls locs a1 a2 a3 a4 a5
  subst hp
  obtain ⟨n0, f, n1, g, hM0, hM1, ⟨⟨h1, h2, h3⟩, h4, h5⟩, rfl⟩ := cpI_spec hv
  have hz := (a3 a _ hM1).1
  have hc0 : H[a0]? = some (vp_cell (ca .int) (n0, .inl f)) := (a3 a0 _ hM0).2.1
  have hc1 : H[a]? = some (vp_cell (ca .int) (n1, .inl g)) := (a3 a _ hM1).2.1
  obtain ⟨-, k0, hk0, cm0, hkk0⟩ := (O.2.2.2.2.2.2.2.2.1.2 0 _ rfl).1 n0 (fun j => .int (f j))
  obtain ⟨-, k1, hk1, cm1, hkk1⟩ := (O.2.2.2.2.2.2.2.2.1.2 0 _ rfl).1 n1 (fun j => .int (g j))
  intro T hT X
  obtain ⟨vm', X', step⟩ := X.arraycopy O.1 O.2.2.2.1 (O.2.2.2.2.1 _ hw rfl) (O.2.2.2.2.1 _ hw2 rfl) (O.2.2.2.2.1 _ hw3 rfl) (O.2.2.2.2.1 _ hw4 rfl) (src := a0) (dst := a) (cs := vp_cell (ca .int) (n0, .inl f)) (cd := vp_cell (ca .int) (n1, .inl g)) (srcPos := sp) (destPos := dp) (n := n) (by rw [hT]; exact hc0) (by rw [hT]; exact hc1)
    (fun _ h => by cases h) (fun _ h => by cases h) (fun h => by cases h) (fun h => by cases h) hk0 hk1 hkk0 hkk1 (by simp [refKind]) h1 h2 h3
    (by rw [nn_clamp h1, nn_clamp h3]; show ¬ _ > ((arrV _ n0 (fun j => .int (f j))).slots.size : Int); rw [arrV_size]; omega)
    (by rw [nn_clamp h2, nn_clamp h3]; show ¬ _ > ((arrV _ n1 (fun j => .int (g j))).slots.size : Int); rw [arrV_size]; omega)
    (fun vm₁ _ i hi => by
      have e : (vp_cell (ca .int) (n0, .inl f)).slots.getD (sp.toNatClampNeg + i) .null = .int (f (sp.toNatClampNeg + i)) := by
        show (arrV _ n0 (fun j => .int (f j))).slots.getD _ _ = _
        rw [Array.getD_eq_getD_getElem?, arrV_read _ _ (by omega)]
        rfl
      refine ⟨?_, ?_⟩
      · rw [e]
        rfl
      · rw [e]
        exact trivial)
    (g := F0 m pc ls (.int n :: .int dp :: .ref a :: .int sp :: .ref a0 :: st)) rfl (a5.1.trans O.2.2.1.symm) (rest := st) rfl (by rw [O.2.1]; exact hd) hf (by have hlo2 : (st.map fun v => v.category).sum + (nativeFrameWords "java/lang/System" "arraycopy" 5 + 11) ≤ R.locals := hlo; show 2 * 0 + _ + _ ≤ _; omega)
  have e1 : copied (vp_cell (ca .int) (n0, .inl f)) (vp_cell (ca .int) (n1, .inl g)) sp dp n = vp_cell (ca .int) (n1, .inl (va_cpy f g sp.toNatClampNeg dp.toNatClampNeg n.toNatClampNeg)) := va_copied (fun z => .int z) (ca .int) (ca .int) f g h4
  rw [e1] at X' step
  have hl : a < H.size := (Array.getElem?_eq_some_iff.mp hc1).1
  have hheap : ((T.setVm vm').setCell a (vp_cell (ca .int) (n1, .inl (va_cpy f g sp.toNatClampNeg dp.toNatClampNeg n.toNatClampNeg)))).heap = H.setIfInBounds a (vp_cell (ca .int) (n1, .inl (va_cpy f g sp.toNatClampNeg dp.toNatClampNeg n.toNatClampNeg))) := by rw [← hT]; rfl
  have oq : ∀ q : Nat, q ≠ a → (H.setIfInBounds a (vp_cell (ca .int) (n1, .inl (va_cpy f g sp.toNatClampNeg dp.toNatClampNeg n.toNatClampNeg))))[q]? = H[q]? := fun q hq => by simp [Array.getElem?_setIfInBounds, Ne.symm hq]
  obtain ⟨t, b1, b2⟩ := kk _ ls _ (by simp; exact a1) a2 (a3.put hz ⟨show (H.setIfInBounds a _)[a]? = some _ by simp [Array.getElem?_setIfInBounds, hl], 0, rfl⟩ oq) ⟨by simp; exact a4.1, fun q g1 g2 => by
      rw [oq q (fun e => g2 (by rw [e]; exact hz))]
      exact a4.2.1 q g1 g2, fun q hq => by
      rcases List.mem_append.mp hq with h | h
      · exact a4.2.2 q h
      · obtain ⟨y, -, hy⟩ := List.mem_map.mp h
        rw [← hy]
        exact hz⟩ a5 _ hheap X'
  exact ⟨t, step t b1, b2⟩
theorem cpL_spec {M M2 : Mem} {a0 a : Nat} {sp dp n : Int32} (h : cpL M a0 sp a dp n = some M2) : ∃ n0 f n1 g, M.2.1 a0 = some (.inl (.long, n0, .inr (.inl f))) ∧ M.2.1 a = some (.inl (.long, n1, .inr (.inl g))) ∧ ((¬ sp < 0 ∧ ¬ dp < 0 ∧ ¬ n < 0) ∧ sp.toNatClampNeg + n.toNatClampNeg ≤ n0 ∧ dp.toNatClampNeg + n.toNatClampNeg ≤ n1) ∧ M2 = mst M a (.inl (.long, n1, .inr (.inl (va_cpy f g sp.toNatClampNeg dp.toNatClampNeg n.toNatClampNeg)))) := by
  unfold cpL at h
  split at h
  · rename_i n0 f n1 g h0 h1
    by_cases hc : (¬ sp < 0 ∧ ¬ dp < 0 ∧ ¬ n < 0) ∧ sp.toNatClampNeg + n.toNatClampNeg ≤ n0 ∧ dp.toNatClampNeg + n.toNatClampNeg ≤ n1
    · rw [if_pos hc] at h
      exact ⟨n0, f, n1, g, h0, h1, hc, (Option.some.inj h).symm⟩
    · rw [if_neg hc] at h
      cases h
  · cases h
theorem g_cpL {a0 a idx : Nat} {sp dp n : Int32} (O : OkK κ μ) (hd : decode μ.1 pc = .ok (.invokestatic idx, 3)) (hw : Cond.methodLink μ.2.2.1 idx arraycopyName ∈ lw_tbl) (hw2 : Cond.native arraycopyName ∈ lw_tbl) (hw3 : Cond.static arraycopyName ∈ lw_tbl) (hw4 : Cond.initialized "java/lang/System" ∈ lw_tbl) (hv : cpL M a0 sp a dp n = some M2) (hf : 1 ≤ μ.2.2.2.2.1.frames) (hlo : (st.map fun v => v.category).sum + (nativeFrameWords "java/lang/System" "arraycopy" 5 + 11) ≤ μ.2.2.2.2.1.locals) (hp : pc + 3 = pc') (kk : G κ μ cells slots pc' lv st M2) : G κ μ cells slots pc lv (.int n :: .int dp :: .ref a :: .int sp :: .ref a0 :: st) M := by
  obtain ⟨p, l, e, s, m, args, below, meth, c, z, D, ca, kc, r, M'⟩ := κ
  obtain ⟨cc, nL, own, ret, R, nm⟩ := μ
  intro H ls locs a1 a2 a3 a4 a5
  subst hp
  obtain ⟨n0, f, n1, g, hM0, hM1, ⟨⟨h1, h2, h3⟩, h4, h5⟩, rfl⟩ := cpL_spec hv
  have hz := (a3 a _ hM1).1
  have hc0 : H[a0]? = some (vp_cell (ca .long) (n0, .inr (.inl f))) := (a3 a0 _ hM0).2.1
  have hc1 : H[a]? = some (vp_cell (ca .long) (n1, .inr (.inl g))) := (a3 a _ hM1).2.1
  obtain ⟨-, k0, hk0, cm0, hkk0⟩ := (O.2.2.2.2.2.2.2.2.1.2 1 _ rfl).1 n0 (fun j => .long (f j))
  obtain ⟨-, k1, hk1, cm1, hkk1⟩ := (O.2.2.2.2.2.2.2.2.1.2 1 _ rfl).1 n1 (fun j => .long (g j))
  intro T hT X
  obtain ⟨vm', X', step⟩ := X.arraycopy O.1 O.2.2.2.1 (O.2.2.2.2.1 _ hw rfl) (O.2.2.2.2.1 _ hw2 rfl) (O.2.2.2.2.1 _ hw3 rfl) (O.2.2.2.2.1 _ hw4 rfl) (src := a0) (dst := a) (cs := vp_cell (ca .long) (n0, .inr (.inl f))) (cd := vp_cell (ca .long) (n1, .inr (.inl g))) (srcPos := sp) (destPos := dp) (n := n) (by rw [hT]; exact hc0) (by rw [hT]; exact hc1)
    (fun _ h => by cases h) (fun _ h => by cases h) (fun h => by cases h) (fun h => by cases h) hk0 hk1 hkk0 hkk1 (by simp [refKind]) h1 h2 h3
    (by rw [nn_clamp h1, nn_clamp h3]; show ¬ _ > ((arrV _ n0 (fun j => .long (f j))).slots.size : Int); rw [arrV_size]; omega)
    (by rw [nn_clamp h2, nn_clamp h3]; show ¬ _ > ((arrV _ n1 (fun j => .long (g j))).slots.size : Int); rw [arrV_size]; omega)
    (fun vm₁ _ i hi => by
      have e : (vp_cell (ca .long) (n0, .inr (.inl f))).slots.getD (sp.toNatClampNeg + i) .null = .long (f (sp.toNatClampNeg + i)) := by
        show (arrV _ n0 (fun j => .long (f j))).slots.getD _ _ = _
        rw [Array.getD_eq_getD_getElem?, arrV_read _ _ (by omega)]
        rfl
      refine ⟨?_, ?_⟩
      · rw [e]
        rfl
      · rw [e]
        exact trivial)
    (g := F0 m pc ls (.int n :: .int dp :: .ref a :: .int sp :: .ref a0 :: st)) rfl (a5.1.trans O.2.2.1.symm) (rest := st) rfl (by rw [O.2.1]; exact hd) hf (by have hlo2 : (st.map fun v => v.category).sum + (nativeFrameWords "java/lang/System" "arraycopy" 5 + 11) ≤ R.locals := hlo; show 2 * 0 + _ + _ ≤ _; omega)
  have e1 : copied (vp_cell (ca .long) (n0, .inr (.inl f))) (vp_cell (ca .long) (n1, .inr (.inl g))) sp dp n = vp_cell (ca .long) (n1, .inr (.inl (va_cpy f g sp.toNatClampNeg dp.toNatClampNeg n.toNatClampNeg))) := va_copied (fun z => .long z) (ca .long) (ca .long) f g h4
  rw [e1] at X' step
  have hl : a < H.size := (Array.getElem?_eq_some_iff.mp hc1).1
  have hheap : ((T.setVm vm').setCell a (vp_cell (ca .long) (n1, .inr (.inl (va_cpy f g sp.toNatClampNeg dp.toNatClampNeg n.toNatClampNeg))))).heap = H.setIfInBounds a (vp_cell (ca .long) (n1, .inr (.inl (va_cpy f g sp.toNatClampNeg dp.toNatClampNeg n.toNatClampNeg)))) := by rw [← hT]; rfl
  have oq : ∀ q : Nat, q ≠ a → (H.setIfInBounds a (vp_cell (ca .long) (n1, .inr (.inl (va_cpy f g sp.toNatClampNeg dp.toNatClampNeg n.toNatClampNeg)))))[q]? = H[q]? := fun q hq => by simp [Array.getElem?_setIfInBounds, Ne.symm hq]
  obtain ⟨t, b1, b2⟩ := kk _ ls _ (by simp; exact a1) a2 (a3.put hz ⟨show (H.setIfInBounds a _)[a]? = some _ by simp [Array.getElem?_setIfInBounds, hl], 1, rfl⟩ oq) ⟨by simp; exact a4.1, fun q g1 g2 => by
      rw [oq q (fun e => g2 (by rw [e]; exact hz))]
      exact a4.2.1 q g1 g2, fun q hq => by
      rcases List.mem_append.mp hq with h | h
      · exact a4.2.2 q h
      · obtain ⟨y, -, hy⟩ := List.mem_map.mp h
        rw [← hy]
        exact hz⟩ a5 _ hheap X'
  exact ⟨t, step t b1, b2⟩
end CPROWS
