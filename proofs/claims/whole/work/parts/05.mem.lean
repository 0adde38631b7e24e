section MEMROWS
variable {κ : KT} {μ : MD} {cells slots pc pc' : Nat} {lv lv' : List (Nat × Value)} {st : List Value} {M M2 : Mem}
theorem g_getF {C : String} {T : u_T} {N ci idx k : Nat} {a : Nat} {v : Value} (O : OkK κ μ) (hd : decode μ.1 pc = .ok (.getfield idx, 3)) (hc : vwCl[ci]? = some (C, T, N)) (hin : ∀ w ∈ u_ws C T N, w ∈ lw_tbl) (hk : k < N) (hw : Cond.fieldLink μ.2.2.1 idx (T k).1 (T k).2.1 (T k).2.2.1 ∈ lw_tbl) (hv : gF M ci a k = some v) (hp : pc + 3 = pc') (kk : G κ μ cells slots pc' lv (v :: st) M) : G κ μ cells slots pc lv (.ref a :: st) M := by
  obtain ⟨p, l, e, s, m, args, below, meth, c, z, D, ca, kc, r, M'⟩ := κ
  obtain ⟨cc, nL, own, ret, R, nm⟩ := μ
  intro H ls locs a1 a2 a3 a4 a5
  subst hp
  have hts : ∀ w ∈ gT, w.before args s = true := fun w h => O.2.2.2.2.1 w (List.mem_filter.mp h).1 (List.mem_filter.mp h).2
  obtain ⟨fs, hM, hf⟩ := gF_spec hv
  have hx := (a3 a _ hM).2
  exact va_get (ws := [(a, .inr (ci, fs))]) O.1 O.2.1 hts (u_gT hin) O.2.2.2.1 O.2.2.2.2.2.2.2.2.1 (sg_P hx) 0 rfl hc k hk (O.2.2.2.2.1 _ hw rfl) (fun _ h => h) hf hd (kk H ls locs a1 a2 a3 a4 a5)
theorem g_putF {C : String} {T : u_T} {N ci idx k : Nat} {a : Nat} {v : Value} {ty : FieldType} (O : OkK κ μ) (hd : decode μ.1 pc = .ok (.putfield idx, 3)) (hc : vwCl[ci]? = some (C, T, N)) (hin : ∀ w ∈ u_ws C T N, w ∈ lw_tbl) (hk : k < N) (hw : Cond.fieldLink μ.2.2.1 idx (T k).1 (T k).2.1 (T k).2.2.1 ∈ lw_tbl) (ty0 : Nat → FieldType) (hty : ∀ k, k < N → parseFieldDescriptor (T k).2.2.1 = some (ty0 k)) (hnm : ∀ a, a < N → ∀ b, b < N → a ≠ b → (T a).2.1 ≠ (T b).2.1) (hfin : (T k).2.2.2 = false) (hpd : ty0 k = ty) (hn : narrow ty v = v) (hfit : fits ty v = true) (hv : pF M ci a k v = some M2) (hp : pc + 3 = pc') (kk : G κ μ cells slots pc' lv st M2) : G κ μ cells slots pc lv (v :: .ref a :: st) M := by
  obtain ⟨p, l, e, s, m, args, below, meth, c, z, D, ca, kc, r, M'⟩ := κ
  obtain ⟨cc, nL, own, ret, R, nm⟩ := μ
  intro H ls locs a1 a2 a3 a4 a5
  subst hp
  have hts : ∀ w ∈ gT, w.before args s = true := fun w h => O.2.2.2.2.1 w (List.mem_filter.mp h).1 (List.mem_filter.mp h).2
  obtain ⟨fs, hM, hl, rfl⟩ := pF_spec hv
  obtain ⟨hz, r0, h1, cell, q1, q2, q3, q4⟩ := a3 a _ hM
  have hr : r0 = (C, T, N) := Option.some.inj (h1.symm.trans hc)
  subst hr
  have hap := va_apart (own := own) hts (u_gT hin) ty0 hty hnm O.2.2.2.2.2.2.2.2.1 hc
  obtain ⟨hS, hfc, kC, hkC, hkind⟩ := O.2.2.2.2.2.2.2.2.1.1 ci _ hc
  obtain ⟨cf, kf, fi, f, hi, hsl⟩ := hS k hk
  have hlay := hts _ (u_gT hin _ (u_in_lay hk))
  unfold u_lay at hlay
  rw [if_neg (by rw [hfin]; decide)] at hlay
  have hst := (u_facts hfc hkC (u_lays hts (u_gT hin) hk) hi).1
  have h6 := u_store hfc hkC hkind hlay hi ((hty k hk).trans (congrArg some hpd)) hn hfit
  refine W.putK O.1 O.2.1 (f := f) ⟨O.2.2.2.1, O.2.2.2.2.1 _ hw rfl, ⟨_, _, _, hi⟩, hst⟩ (by rw [q2]; exact h6) q1 q3 (by rw [hsl]; exact k2_hasslot (q4 k hk)) rfl rfl hd fun H' e1 e2 e3 => ?_
  rw [hsl] at e1 ⊢
  exact kk H' ls _ (a1.trans e2.symm) a2 (a3.put hz ⟨_, hc, t_OB.to (V := updV (vp_V fs) k v) ⟨_, e1, q2, q3, t_set q4 hap hk v⟩ (fun j _ => vp_updV_set hl v j)⟩ e3) (a4.put e2 e3 hz) a5
theorem g_putFF {C : String} {T : u_T} {N ci idx k : Nat} {a : Nat} {v : Value} {ty : FieldType} (O : OkK κ μ) (hd : decode μ.1 pc = .ok (.putfield idx, 3)) (hc : vwCl[ci]? = some (C, T, N)) (hin : ∀ w ∈ u_ws C T N, w ∈ lw_tbl) (hk : k < N) (hw : Cond.fieldLink μ.2.2.1 idx (T k).1 (T k).2.1 (T k).2.2.1 ∈ lw_tbl) (ty0 : Nat → FieldType) (hty : ∀ k, k < N → parseFieldDescriptor (T k).2.2.1 = some (ty0 k)) (hnm : ∀ a, a < N → ∀ b, b < N → a ≠ b → (T a).2.1 ≠ (T b).2.1) (hfin : (T k).2.2.2 = true) (hin2 : μ.2.2.2.2.2 = "<init>") (hdecl : (T k).1 = μ.2.2.1) (hpd : ty0 k = ty) (hn : narrow ty v = v) (hfit : fits ty v = true) (hv : pF M ci a k v = some M2) (hp : pc + 3 = pc') (kk : G κ μ cells slots pc' lv st M2) : G κ μ cells slots pc lv (v :: .ref a :: st) M := by
  obtain ⟨p, l, e, s, m, args, below, meth, c, z, D, ca, kc, r, M'⟩ := κ
  obtain ⟨cc, nL, own, ret, R, nm⟩ := μ
  intro H ls locs a1 a2 a3 a4 a5
  subst hp
  have hts : ∀ w ∈ gT, w.before args s = true := fun w h => O.2.2.2.2.1 w (List.mem_filter.mp h).1 (List.mem_filter.mp h).2
  obtain ⟨fs, hM, hl, rfl⟩ := pF_spec hv
  obtain ⟨hz, r0, h1, cell, q1, q2, q3, q4⟩ := a3 a _ hM
  have hr : r0 = (C, T, N) := Option.some.inj (h1.symm.trans hc)
  subst hr
  have hap := va_apart (own := own) hts (u_gT hin) ty0 hty hnm O.2.2.2.2.2.2.2.2.1 hc
  obtain ⟨hS, hfc, kC, hkC, hkind⟩ := O.2.2.2.2.2.2.2.2.1.1 ci _ hc
  obtain ⟨cf, kf, fi, f, hi, hsl⟩ := hS k hk
  have hlay := hts _ (u_gT hin _ (u_in_lay hk))
  unfold u_lay at hlay
  rw [if_pos hfin] at hlay
  have hst := (u_facts hfc hkC (u_lays hts (u_gT hin) hk) hi).1
  have hcf : m.cls = cf := by
    obtain ⟨_, _, c', _, _, _, -, -, hf', -, -, -, hown2, -⟩ := Cond.laysFinal_spec hlay
    have e1 : c' = cf := by have := hi.symm.trans hf'; simp at this; exact this.1.symm
    rw [hdecl] at hown2
    rw [← e1]; exact Option.some.inj (O.2.2.2.1.symm.trans hown2)
  have h6 := u_fits hfc hkC hkind (Or.inr hlay) hi ((hty k hk).trans (congrArg some hpd)) hn hfit
  refine W.putFinK O.1 O.2.1 O.2.2.2.1 (O.2.2.2.2.1 _ hw rfl) hi hst hcf (O.2.2.2.2.2.2.2.1.trans hin2) (by rw [q2]; exact h6) q1 q3 (by rw [hsl]; exact k2_hasslot (q4 k hk)) rfl rfl hd fun H' e1 e2 e3 => ?_
  rw [hsl] at e1 ⊢
  exact kk H' ls _ (a1.trans e2.symm) a2 (a3.put hz ⟨_, hc, t_OB.to (V := updV (vp_V fs) k v) ⟨_, e1, q2, q3, t_set q4 hap hk v⟩ (fun j _ => vp_updV_set hl v j)⟩ e3) (a4.put e2 e3 hz) a5
theorem g_iald {a : Nat} {i : Int32} {x : Int32} (O : OkK κ μ) (hd : decode μ.1 pc = .ok (.iaload, 1)) (hv : aI M a i = some x) (hp : pc + 1 = pc') (kk : G κ μ cells slots pc' lv (.int x :: st) M) : G κ μ cells slots pc lv (.int i :: .ref a :: st) M := by
  obtain ⟨p, l, e, s, m, args, below, meth, c, z, D, ca, kc, r, M'⟩ := κ
  obtain ⟨cc, nL, own, ret, R, nm⟩ := μ
  intro H ls locs a1 a2 a3 a4 a5
  subst hp
  obtain ⟨n, f, hM, hin, rfl⟩ := aI_spec hv
  exact va_iald (ws := [(a, .inl (ca .int, n, .inl f))]) O.1 O.2.1 O.2.2.2.2.2.2.2.2.1 (sg_P (a3 a _ hM).2.1) 0 0 rfl rfl (inr_in hin) hd (kk H ls locs a1 a2 a3 a4 a5)
theorem g_lald {a : Nat} {i : Int32} {x : Int64} (O : OkK κ μ) (hd : decode μ.1 pc = .ok (.laload, 1)) (hv : aL M a i = some x) (hp : pc + 1 = pc') (kk : G κ μ cells slots pc' lv (.long x :: st) M) : G κ μ cells slots pc lv (.int i :: .ref a :: st) M := by
  obtain ⟨p, l, e, s, m, args, below, meth, c, z, D, ca, kc, r, M'⟩ := κ
  obtain ⟨cc, nL, own, ret, R, nm⟩ := μ
  intro H ls locs a1 a2 a3 a4 a5
  subst hp
  obtain ⟨n, f, hM, hin, rfl⟩ := aL_spec hv
  exact va_lald (ws := [(a, .inl (ca .long, n, .inr (.inl f)))]) O.1 O.2.1 O.2.2.2.2.2.2.2.2.1 (sg_P (a3 a _ hM).2.1) 0 1 rfl rfl (inr_in hin) hd (kk H ls locs a1 a2 a3 a4 a5)
theorem g_bald {a : Nat} {i : Int32} {x : Int32} (O : OkK κ μ) (hd : decode μ.1 pc = .ok (.baload, 1)) (hv : aB M a i = some x) (hp : pc + 1 = pc') (kk : G κ μ cells slots pc' lv (.int x :: st) M) : G κ μ cells slots pc lv (.int i :: .ref a :: st) M := by
  obtain ⟨p, l, e, s, m, args, below, meth, c, z, D, ca, kc, r, M'⟩ := κ
  obtain ⟨cc, nL, own, ret, R, nm⟩ := μ
  intro H ls locs a1 a2 a3 a4 a5
  subst hp
  obtain ⟨n, f, hM, hin, rfl⟩ := aB_spec hv
  exact va_bald (ws := [(a, .inl (ca .byte, n, .inl f))]) O.1 O.2.1 O.2.2.2.2.2.2.2.2.1 (sg_P (a3 a _ hM).2.1) 0 2 rfl rfl (inr_in hin) hd (kk H ls locs a1 a2 a3 a4 a5)
theorem g_zald {a : Nat} {i : Int32} {x : Int32} (O : OkK κ μ) (hd : decode μ.1 pc = .ok (.baload, 1)) (hv : aZ M a i = some x) (hp : pc + 1 = pc') (kk : G κ μ cells slots pc' lv (.int x :: st) M) : G κ μ cells slots pc lv (.int i :: .ref a :: st) M := by
  obtain ⟨p, l, e, s, m, args, below, meth, c, z, D, ca, kc, r, M'⟩ := κ
  obtain ⟨cc, nL, own, ret, R, nm⟩ := μ
  intro H ls locs a1 a2 a3 a4 a5
  subst hp
  obtain ⟨n, f, hM, hin, rfl⟩ := aZ_spec hv
  exact va_zald (ws := [(a, .inl (ca .boolean, n, .inl f))]) O.1 O.2.1 O.2.2.2.2.2.2.2.2.1 (sg_P (a3 a _ hM).2.1) 0 3 rfl rfl (inr_in hin) hd (kk H ls locs a1 a2 a3 a4 a5)
theorem g_aald {a : Nat} {i : Int32} {x : Option Nat} (O : OkK κ μ) (hd : decode μ.1 pc = .ok (.aaload, 1)) (hv : aQ M a i = some x) (hp : pc + 1 = pc') (kk : G κ μ cells slots pc' lv (va_rf x :: st) M) : G κ μ cells slots pc lv (.int i :: .ref a :: st) M := by
  obtain ⟨p, l, e, s, m, args, below, meth, c, z, D, ca, kc, r, M'⟩ := κ
  obtain ⟨cc, nL, own, ret, R, nm⟩ := μ
  intro H ls locs a1 a2 a3 a4 a5
  subst hp
  obtain ⟨C, n, f, hM, hin, rfl⟩ := aQ_spec hv
  obtain ⟨-, h1, t0, ht0⟩ := a3 a _ hM
  exact va_aldq (ws := [(a, .inl (ca (.object C), n, .inr (.inr (.inr (.inr f)))))]) O.1 O.2.1 O.2.2.2.2.2.2.2.2.1 (sg_P h1) 0 t0 rfl ht0 (inr_in hin) hd (kk H ls locs a1 a2 a3 a4 a5)
theorem g_alen {a : Nat} {x : Int32} (O : OkK κ μ) (hd : decode μ.1 pc = .ok (.arraylength, 1)) (hv : aN M a = some x) (hp : pc + 1 = pc') (kk : G κ μ cells slots pc' lv (.int x :: st) M) : G κ μ cells slots pc lv (.ref a :: st) M := by
  obtain ⟨p, l, e, s, m, args, below, meth, c, z, D, ca, kc, r, M'⟩ := κ
  obtain ⟨cc, nL, own, ret, R, nm⟩ := μ
  intro H ls locs a1 a2 a3 a4 a5
  subst hp
  unfold aN at hv
  split at hv
  · rename_i ty n y hM
    obtain ⟨-, h1, t0, ht0⟩ := a3 a _ hM
    exact va_alen (ws := [(a, .inl (ca ty, n, y))]) O.1 O.2.1 O.2.2.2.2.2.2.2.2.1 (sg_P h1) 0 t0 rfl ht0 (Option.some.inj hv) hd (kk H ls locs a1 a2 a3 a4 a5)
  · cases hv
theorem g_kiald {a : Nat} {i x : Int32} (O : OkK κ μ) (hd : decode μ.1 pc = .ok (.iaload, 1)) (hv : kA M .int a i = some x) (hp : pc + 1 = pc') (kk : G κ μ cells slots pc' lv (.int x :: st) M) : G κ μ cells slots pc lv (.int i :: .ref a :: st) M := by
  obtain ⟨p, l, e, s, m, args, below, meth, c, z, D, ca, kc, r, M'⟩ := κ
  obtain ⟨cc, nL, own, ret, R, nm⟩ := μ
  intro H ls locs a1 a2 a3 a4 a5
  subst hp
  obtain ⟨n, f, hM, hin, rfl⟩ := kA_spec hv
  obtain ⟨cell, h1, h2, h3, h4, h5, h6, h7⟩ := (O.2.2.2.2.2.2.2.2.2.1.1 a _ n f (a2 ▸ hM)).kept a4.2.1
  have hi2 := inr_in hin
  have hlt : i.toNatClampNeg < n := Nat.not_le.mp fun q => hi2 (Or.inr q)
  exact W.iald (v := .int (f i.toNatClampNeg)) O.1 O.2.1 h1 h2 h3 (fun q => q.elim (fun q => hi2 (Or.inl q)) (fun q => by omega)) (h6 _ hlt) rfl rfl hd (kk H ls locs a1 a2 a3 a4 a5)
theorem g_kbald {a : Nat} {i x : Int32} (O : OkK κ μ) (hd : decode μ.1 pc = .ok (.baload, 1)) (hv : kA M .byte a i = some x) (hp : pc + 1 = pc') (kk : G κ μ cells slots pc' lv (.int x :: st) M) : G κ μ cells slots pc lv (.int i :: .ref a :: st) M := by
  obtain ⟨p, l, e, s, m, args, below, meth, c, z, D, ca, kc, r, M'⟩ := κ
  obtain ⟨cc, nL, own, ret, R, nm⟩ := μ
  intro H ls locs a1 a2 a3 a4 a5
  subst hp
  obtain ⟨n, f, hM, hin, rfl⟩ := kA_spec hv
  obtain ⟨cell, h1, h2, h3, h4, h5, h6, h7⟩ := (O.2.2.2.2.2.2.2.2.2.1.1 a _ n f (a2 ▸ hM)).kept a4.2.1
  have hi2 := inr_in hin
  have hlt : i.toNatClampNeg < n := Nat.not_le.mp fun q => hi2 (Or.inr q)
  exact W.bald (v := .int (f i.toNatClampNeg)) O.1 O.2.1 h1 h2 h3 (fun q => q.elim (fun q => hi2 (Or.inl q)) (fun q => by omega)) (h6 _ hlt) rfl rfl hd (kk H ls locs a1 a2 a3 a4 a5)
theorem g_kalen {a : Nat} {x : Int32} (O : OkK κ μ) (hd : decode μ.1 pc = .ok (.arraylength, 1)) (hv : kN M a = some x) (hp : pc + 1 = pc') (kk : G κ μ cells slots pc' lv (.int x :: st) M) : G κ μ cells slots pc lv (.ref a :: st) M := by
  obtain ⟨p, l, e, s, m, args, below, meth, c, z, D, ca, kc, r, M'⟩ := κ
  obtain ⟨cc, nL, own, ret, R, nm⟩ := μ
  intro H ls locs a1 a2 a3 a4 a5
  subst hp
  unfold kN at hv
  split at hv
  · rename_i ty n f hM
    obtain ⟨cell, h1, h2, h3, h4, h5, h6, h7⟩ := (O.2.2.2.2.2.2.2.2.2.1.1 a _ n f (a2 ▸ hM)).kept a4.2.1
    exact W.alen (n := x) O.1 O.2.1 h1 h2 (by rw [h5]; exact Option.some.inj hv) rfl rfl hd (kk H ls locs a1 a2 a3 a4 a5)
  · cases hv
theorem g_kV {a v idx : Nat} (O : OkK κ μ) (hd : decode μ.1 pc = .ok (.getfield idx, 3)) (hw : Cond.fieldLink μ.2.2.1 idx RJ0 "value" "[B" ∈ lw_tbl) (hv : kV M a = some v) (hp : pc + 3 = pc') (kk : G κ μ cells slots pc' lv (.ref v :: st) M) : G κ μ cells slots pc lv (.ref a :: st) M := by
  obtain ⟨p, l, e, s, m, args, below, meth, c, z, D, ca, kc, r, M'⟩ := κ
  obtain ⟨cc, nL, own, ret, R, nm⟩ := μ
  intro H ls locs a1 a2 a3 a4 a5
  subst hp
  exact vk_getf O.1 O.2.1 (O.2.2.2.2.2.2.2.2.2.1.2.1 a v (a2 ▸ hv)).2.2 a4 O.2.2.2.1 (O.2.2.2.2.1 _ hw rfl) (fun _ h => h) hd (kk H ls locs a1 a2 a3 a4 a5)
theorem g_kC {a v idx : Nat} (O : OkK κ μ) (hd : decode μ.1 pc = .ok (.getfield idx, 3)) (hw : Cond.fieldLink μ.2.2.1 idx RJ0 "coder" "B" ∈ lw_tbl) (hv : kV M a = some v) (hp : pc + 3 = pc') (kk : G κ μ cells slots pc' lv (.int 0 :: st) M) : G κ μ cells slots pc lv (.ref a :: st) M := by
  obtain ⟨p, l, e, s, m, args, below, meth, c, z, D, ca, kc, r, M'⟩ := κ
  obtain ⟨cc, nL, own, ret, R, nm⟩ := μ
  intro H ls locs a1 a2 a3 a4 a5
  subst hp
  exact vk_getf O.1 O.2.1 (O.2.2.2.2.2.2.2.2.2.1.2.1 a v (a2 ▸ hv)).2.1 a4 O.2.2.2.1 (O.2.2.2.2.1 _ hw rfl) (fun _ h => h) hd (kk H ls locs a1 a2 a3 a4 a5)
theorem g_iast {a : Nat} {i : Int32} {x : Int32} (O : OkK κ μ) (hd : decode μ.1 pc = .ok (.iastore, 1)) (hv : sI M a i x = some M2) (hp : pc + 1 = pc') (kk : G κ μ cells slots pc' lv st M2) : G κ μ cells slots pc lv (.int x :: .int i :: .ref a :: st) M := by
  obtain ⟨p, l, e, s, m, args, below, meth, c, z, D, ca, kc, r, M'⟩ := κ
  obtain ⟨cc, nL, own, ret, R, nm⟩ := μ
  intro H ls locs a1 a2 a3 a4 a5
  subst hp
  obtain ⟨n, f, hM, hin, rfl⟩ := sI_spec hv
  have hi2 := inr_in hin
  have hz := (a3 a _ hM).1
  refine W.iast O.1 O.2.1 (a3 a _ hM).2.1 ((O.2.2.2.2.2.2.2.2.1.2 0 _ rfl).1 n (fun j => .int (f j))) (fun q => by cases q) (by show ¬ (i < 0 ∨ (arrV _ _ _).slots.size ≤ _); rw [arrV_size]; exact hi2) rfl rfl hd fun H1 e1 e2 e3 => ?_
  refine kk H1 ls _ (a1.trans e2.symm) a2 (a3.put hz ⟨?_, 0, rfl⟩ e3) (a4.put e2 e3 hz) a5
  rw [e1]
  show some ((vp_cell _ _).setSlot _ _) = some (vp_cell _ _)
  rw [vp_cell_i, vp_cell_i, arrV_store]
  congr 2
  funext q
  by_cases hq : q = i.toNatClampNeg
  · subst hq
    simp [updV, upd]
    try rfl
  · simp [updV, upd, hq]
theorem g_last {a : Nat} {i : Int32} {x : Int64} (O : OkK κ μ) (hd : decode μ.1 pc = .ok (.lastore, 1)) (hv : sL M a i x = some M2) (hp : pc + 1 = pc') (kk : G κ μ cells slots pc' lv st M2) : G κ μ cells slots pc lv (.long x :: .int i :: .ref a :: st) M := by
  obtain ⟨p, l, e, s, m, args, below, meth, c, z, D, ca, kc, r, M'⟩ := κ
  obtain ⟨cc, nL, own, ret, R, nm⟩ := μ
  intro H ls locs a1 a2 a3 a4 a5
  subst hp
  obtain ⟨n, f, hM, hin, rfl⟩ := sL_spec hv
  have hi2 := inr_in hin
  have hz := (a3 a _ hM).1
  refine W.last O.1 O.2.1 (a3 a _ hM).2.1 ((O.2.2.2.2.2.2.2.2.1.2 1 _ rfl).1 n (fun j => .long (f j))) (fun q => by cases q) (by show ¬ (i < 0 ∨ (arrV _ _ _).slots.size ≤ _); rw [arrV_size]; exact hi2) rfl rfl hd fun H1 e1 e2 e3 => ?_
  refine kk H1 ls _ (a1.trans e2.symm) a2 (a3.put hz ⟨?_, 1, rfl⟩ e3) (a4.put e2 e3 hz) a5
  rw [e1]
  show some ((vp_cell _ _).setSlot _ _) = some (vp_cell _ _)
  rw [vp_cell_l, vp_cell_l, arrV_store]
  congr 2
  funext q
  by_cases hq : q = i.toNatClampNeg
  · subst hq
    simp [updV, vp_updL]
    try rfl
  · simp [updV, vp_updL, hq]
theorem g_bast {a : Nat} {i : Int32} {x : Int32} (O : OkK κ μ) (hd : decode μ.1 pc = .ok (.bastore, 1)) (hv : sB M a i x = some M2) (hp : pc + 1 = pc') (kk : G κ μ cells slots pc' lv st M2) : G κ μ cells slots pc lv (.int x :: .int i :: .ref a :: st) M := by
  obtain ⟨p, l, e, s, m, args, below, meth, c, z, D, ca, kc, r, M'⟩ := κ
  obtain ⟨cc, nL, own, ret, R, nm⟩ := μ
  intro H ls locs a1 a2 a3 a4 a5
  subst hp
  obtain ⟨n, f, hM, hin, rfl⟩ := sB_spec hv
  have hi2 := inr_in hin
  have hz := (a3 a _ hM).1
  refine W.bast O.1 O.2.1 (a3 a _ hM).2.1 ((O.2.2.2.2.2.2.2.2.1.2 2 _ rfl).1 n (fun j => .int (f j))) (fun q => by cases q) (by show ¬ (i < 0 ∨ (arrV _ _ _).slots.size ≤ _); rw [arrV_size]; exact hi2) rfl rfl hd fun H1 e1 e2 e3 => ?_
  refine kk H1 ls _ (a1.trans e2.symm) a2 (a3.put hz ⟨?_, 2, rfl⟩ e3) (a4.put e2 e3 hz) a5
  rw [e1]
  show some ((vp_cell _ _).setSlot _ _) = some (vp_cell _ _)
  rw [vp_cell_i, vp_cell_i, arrV_store]
  congr 2
  funext q
  by_cases hq : q = i.toNatClampNeg
  · subst hq
    simp [updV, upd, vp_nar]
    try rfl
  · simp [updV, upd, hq]
theorem g_zast {a : Nat} {i : Int32} {x : Int32} (O : OkK κ μ) (hd : decode μ.1 pc = .ok (.bastore, 1)) (hv : sZ M a i x = some M2) (hp : pc + 1 = pc') (kk : G κ μ cells slots pc' lv st M2) : G κ μ cells slots pc lv (.int x :: .int i :: .ref a :: st) M := by
  obtain ⟨p, l, e, s, m, args, below, meth, c, z, D, ca, kc, r, M'⟩ := κ
  obtain ⟨cc, nL, own, ret, R, nm⟩ := μ
  intro H ls locs a1 a2 a3 a4 a5
  subst hp
  obtain ⟨n, f, hM, hin, rfl⟩ := sZ_spec hv
  have hi2 := inr_in hin
  have hz := (a3 a _ hM).1
  refine W.zast O.1 O.2.1 (a3 a _ hM).2.1 ((O.2.2.2.2.2.2.2.2.1.2 3 _ rfl).1 n (fun j => .int (f j))) (fun q => by cases q) (by show ¬ (i < 0 ∨ (arrV _ _ _).slots.size ≤ _); rw [arrV_size]; exact hi2) rfl rfl hd fun H1 e1 e2 e3 => ?_
  refine kk H1 ls _ (a1.trans e2.symm) a2 (a3.put hz ⟨?_, 3, rfl⟩ e3) (a4.put e2 e3 hz) a5
  rw [e1]
  show some ((vp_cell _ _).setSlot _ _) = some (vp_cell _ _)
  rw [vp_cell_i, vp_cell_i, arrV_store]
  congr 2
  funext q
  by_cases hq : q = i.toNatClampNeg
  · subst hq
    simp [updV, upd, vp_nar]
    try rfl
  · simp [updV, upd, hq]
theorem g_aast {ci a : Nat} {i : Int32} {v : Option Nat} (O : OkK κ μ) (hd : decode μ.1 pc = .ok (.aastore, 1)) (hv : sQ M ci a i v = some M2) (hp : pc + 1 = pc') (kk : G κ μ cells slots pc' lv st M2) : G κ μ cells slots pc lv (va_rf v :: .int i :: .ref a :: st) M := by
  obtain ⟨p, l, e, s, m, args, below, meth, c, z, D, ca, kc, r, M'⟩ := κ
  obtain ⟨cc, nL, own, ret, R, nm⟩ := μ
  intro H ls locs a1 a2 a3 a4 a5
  subst hp
  obtain ⟨C, n, f, hM, hin, hC, hvb, rfl⟩ := sQ_spec hv
  have hi2 := inr_in hin
  have hlt : i.toNatClampNeg < n := Nat.not_le.mp fun q => hi2 (Or.inr q)
  have h0 : ¬ i < 0 := fun q => hi2 (Or.inl q)
  obtain ⟨hz, hcell, t0, ht0⟩ := a3 a _ hM
  have fin : ∀ (H1 : Heap) (w : Option Nat), w = v → H1[a]? = some ((vp_cell (ca (.object C)) (n, .inr (.inr (.inr (.inr f))))).setSlot i.toNatClampNeg (va_rf w)) → H1.size = H.size → (∀ q : Nat, q ≠ a → H1[q]? = H[q]?) → RepW z D ca (mst M a (.inl (.object C, n, .inr (.inr (.inr (.inr (va_up f i.toNatClampNeg v))))))) H1 := by
    intro H1 w hw e1 e2 e3
    subst hw
    refine a3.put hz ⟨?_, t0, ht0⟩ e3
    rw [e1]
    rw [vp_cell_q, vp_cell_q, arrV_store]
    congr 2
    funext q
    by_cases hq : q = i.toNatClampNeg
    · subst hq
      simp [updV, va_up]
    · simp [updV, va_up, hq]
  cases v with
  | none =>
    refine va_WaastN (C := C) O.1 O.2.1 hcell ((O.2.2.2.2.2.2.2.2.1.2 t0 _ ht0).1 n (fun j => va_rf (f j))) (fun h => by cases h) (by show ¬ (i < 0 ∨ (arrV _ _ _).slots.size ≤ _); rw [arrV_size]; exact hi2) rfl rfl hd fun H1 e1 e2 e3 => ?_
    exact kk H1 ls _ (a1.trans e2.symm) a2 (fin H1 none rfl e1 e2 e3) (a4.put e2 e3 hz) a5
  | some b =>
    obtain ⟨fs, hb⟩ := hvb b rfl
    obtain ⟨-, r0, hr0, cellV, g1, g2, g3, -⟩ := a3 b _ hb
    have hr1 : r0.1 = C := by
      simp only at hr0
      rw [hr0] at hC
      exact Option.some.inj hC
    have hcls := (O.2.2.2.2.2.2.2.2.1.1 ci r0 hr0).2
    rw [hr1] at hcls
    obtain ⟨kA, comp, k1, k2, k3, -⟩ := (O.2.2.2.2.2.2.2.2.1.2 t0 _ ht0).2
    have hcomp : comp = D.1 ci := Option.some.inj (k3.symm.trans hcls.1)
    subst hcomp
    obtain ⟨kC, hkC, -⟩ := hcls.2
    refine W.aast O.1 O.2.1 hcell (fun q h => by cases h) (fun h => by cases h) k1 k2 rfl hkC ⟨h0, by show _ < (arrV _ _ _).slots.size; rw [arrV_size]; exact hlt⟩ g1 (fun q h => by rw [g3] at h; cases h) (by rw [g2]; exact hkC) (by rw [g2]; exact va_assign hcls) rfl rfl hd fun H1 e1 e2 e3 => ?_
    exact kk H1 ls _ (a1.trans e2.symm) a2 (fin H1 (some b) rfl e1 e2 e3) (a4.put e2 e3 hz) a5
theorem g_newI {n : Int32} (cap : Nat) (O : OkK κ μ) (hd : decode μ.1 pc = .ok (.newarray .int, 2)) (hw : Cond.arrayClass .int ∈ lw_tbl) (hv : nA M .int n cap = some M2) (hcap : cap * 8 ≤ 536870912) (hc : cells + 1 ≤ μ.2.2.2.2.1.cells) (hs : slots + cap ≤ μ.2.2.2.2.1.slots) (hp : pc + 2 = pc') (kk : G κ μ (cells + 1) (slots + cap) pc' lv (.ref M.1 :: st) M2) : G κ μ cells slots pc lv (.int n :: st) M := by
  obtain ⟨p, l, e, s, m, args, below, meth, c, z, D, ca, kc, r, M'⟩ := κ
  obtain ⟨cc, nL, own, ret, R, nm⟩ := μ
  intro H ls locs a1 a2 a3 a4 a5
  subst hp
  unfold nA at hv
  by_cases hh : ¬ n < 0 ∧ n.toNatClampNeg ≤ cap
  · rw [if_pos hh] at hv
    cases hv
    refine va_newaK (atype := .int) O.1 O.2.1 (O.2.2.2.2.1 _ hw rfl) rfl hd rfl hh.1 rfl (Nat.le_trans (Nat.mul_le_mul hh.2 (show componentBytes .int ≤ 8 by decide)) hcap) hc (Nat.le_trans (Nat.add_le_add_left hh.2 _) hs) rfl fun H1 cA e1 z1 o1 hAr hNm => ?_
    have hcA : cA = ca .int := Option.some.inj (hNm.symm.trans (O.2.2.2.2.2.2.2.2.1.2 0 _ rfl).2)
    subst hcA
    refine W.widen (Nat.le_refl _) (Nat.add_le_add_left hh.2 _) ?_
    have hz : z ≤ H.size := Nat.le_trans O.2.2.2.2.2.2.2.2.2.2 a4.1
    have k := kk H1 ls locs (by show M.1 + 1 = _; rw [a1, z1]) a2 (a3.mk a1 hz ⟨by rw [e1]; rfl, 0, rfl⟩ o1) ⟨Nat.le_trans a4.1 (by omega), fun x h1 h2 => (o1 x (Nat.lt_of_lt_of_le h1 a4.1)).trans (a4.2.1 x h1 h2), a4.2.2⟩ a5
    rw [a1] at k
    exact k
  · rw [if_neg hh] at hv
    cases hv
theorem g_newJ {n : Int32} (cap : Nat) (O : OkK κ μ) (hd : decode μ.1 pc = .ok (.newarray .long, 2)) (hw : Cond.arrayClass .long ∈ lw_tbl) (hv : nA M .long n cap = some M2) (hcap : cap * 8 ≤ 536870912) (hc : cells + 1 ≤ μ.2.2.2.2.1.cells) (hs : slots + cap ≤ μ.2.2.2.2.1.slots) (hp : pc + 2 = pc') (kk : G κ μ (cells + 1) (slots + cap) pc' lv (.ref M.1 :: st) M2) : G κ μ cells slots pc lv (.int n :: st) M := by
  obtain ⟨p, l, e, s, m, args, below, meth, c, z, D, ca, kc, r, M'⟩ := κ
  obtain ⟨cc, nL, own, ret, R, nm⟩ := μ
  intro H ls locs a1 a2 a3 a4 a5
  subst hp
  unfold nA at hv
  by_cases hh : ¬ n < 0 ∧ n.toNatClampNeg ≤ cap
  · rw [if_pos hh] at hv
    cases hv
    refine va_newaK (atype := .long) O.1 O.2.1 (O.2.2.2.2.1 _ hw rfl) rfl hd rfl hh.1 rfl (Nat.le_trans (Nat.mul_le_mul hh.2 (show componentBytes .long ≤ 8 by decide)) hcap) hc (Nat.le_trans (Nat.add_le_add_left hh.2 _) hs) rfl fun H1 cA e1 z1 o1 hAr hNm => ?_
    have hcA : cA = ca .long := Option.some.inj (hNm.symm.trans (O.2.2.2.2.2.2.2.2.1.2 1 _ rfl).2)
    subst hcA
    refine W.widen (Nat.le_refl _) (Nat.add_le_add_left hh.2 _) ?_
    have hz : z ≤ H.size := Nat.le_trans O.2.2.2.2.2.2.2.2.2.2 a4.1
    have k := kk H1 ls locs (by show M.1 + 1 = _; rw [a1, z1]) a2 (a3.mk a1 hz ⟨by rw [e1]; rfl, 1, rfl⟩ o1) ⟨Nat.le_trans a4.1 (by omega), fun x h1 h2 => (o1 x (Nat.lt_of_lt_of_le h1 a4.1)).trans (a4.2.1 x h1 h2), a4.2.2⟩ a5
    rw [a1] at k
    exact k
  · rw [if_neg hh] at hv
    cases hv
theorem g_newB {n : Int32} (cap : Nat) (O : OkK κ μ) (hd : decode μ.1 pc = .ok (.newarray .byte, 2)) (hw : Cond.arrayClass .byte ∈ lw_tbl) (hv : nA M .byte n cap = some M2) (hcap : cap * 8 ≤ 536870912) (hc : cells + 1 ≤ μ.2.2.2.2.1.cells) (hs : slots + cap ≤ μ.2.2.2.2.1.slots) (hp : pc + 2 = pc') (kk : G κ μ (cells + 1) (slots + cap) pc' lv (.ref M.1 :: st) M2) : G κ μ cells slots pc lv (.int n :: st) M := by
  obtain ⟨p, l, e, s, m, args, below, meth, c, z, D, ca, kc, r, M'⟩ := κ
  obtain ⟨cc, nL, own, ret, R, nm⟩ := μ
  intro H ls locs a1 a2 a3 a4 a5
  subst hp
  unfold nA at hv
  by_cases hh : ¬ n < 0 ∧ n.toNatClampNeg ≤ cap
  · rw [if_pos hh] at hv
    cases hv
    refine va_newaK (atype := .byte) O.1 O.2.1 (O.2.2.2.2.1 _ hw rfl) rfl hd rfl hh.1 rfl (Nat.le_trans (Nat.mul_le_mul hh.2 (show componentBytes .byte ≤ 8 by decide)) hcap) hc (Nat.le_trans (Nat.add_le_add_left hh.2 _) hs) rfl fun H1 cA e1 z1 o1 hAr hNm => ?_
    have hcA : cA = ca .byte := Option.some.inj (hNm.symm.trans (O.2.2.2.2.2.2.2.2.1.2 2 _ rfl).2)
    subst hcA
    refine W.widen (Nat.le_refl _) (Nat.add_le_add_left hh.2 _) ?_
    have hz : z ≤ H.size := Nat.le_trans O.2.2.2.2.2.2.2.2.2.2 a4.1
    have k := kk H1 ls locs (by show M.1 + 1 = _; rw [a1, z1]) a2 (a3.mk a1 hz ⟨by rw [e1]; rfl, 2, rfl⟩ o1) ⟨Nat.le_trans a4.1 (by omega), fun x h1 h2 => (o1 x (Nat.lt_of_lt_of_le h1 a4.1)).trans (a4.2.1 x h1 h2), a4.2.2⟩ a5
    rw [a1] at k
    exact k
  · rw [if_neg hh] at hv
    cases hv
theorem g_newZ {n : Int32} (cap : Nat) (O : OkK κ μ) (hd : decode μ.1 pc = .ok (.newarray .boolean, 2)) (hw : Cond.arrayClass .boolean ∈ lw_tbl) (hv : nA M .boolean n cap = some M2) (hcap : cap * 8 ≤ 536870912) (hc : cells + 1 ≤ μ.2.2.2.2.1.cells) (hs : slots + cap ≤ μ.2.2.2.2.1.slots) (hp : pc + 2 = pc') (kk : G κ μ (cells + 1) (slots + cap) pc' lv (.ref M.1 :: st) M2) : G κ μ cells slots pc lv (.int n :: st) M := by
  obtain ⟨p, l, e, s, m, args, below, meth, c, z, D, ca, kc, r, M'⟩ := κ
  obtain ⟨cc, nL, own, ret, R, nm⟩ := μ
  intro H ls locs a1 a2 a3 a4 a5
  subst hp
  unfold nA at hv
  by_cases hh : ¬ n < 0 ∧ n.toNatClampNeg ≤ cap
  · rw [if_pos hh] at hv
    cases hv
    refine va_newaK (atype := .boolean) O.1 O.2.1 (O.2.2.2.2.1 _ hw rfl) rfl hd rfl hh.1 rfl (Nat.le_trans (Nat.mul_le_mul hh.2 (show componentBytes .boolean ≤ 8 by decide)) hcap) hc (Nat.le_trans (Nat.add_le_add_left hh.2 _) hs) rfl fun H1 cA e1 z1 o1 hAr hNm => ?_
    have hcA : cA = ca .boolean := Option.some.inj (hNm.symm.trans (O.2.2.2.2.2.2.2.2.1.2 3 _ rfl).2)
    subst hcA
    refine W.widen (Nat.le_refl _) (Nat.add_le_add_left hh.2 _) ?_
    have hz : z ≤ H.size := Nat.le_trans O.2.2.2.2.2.2.2.2.2.2 a4.1
    have k := kk H1 ls locs (by show M.1 + 1 = _; rw [a1, z1]) a2 (a3.mk a1 hz ⟨by rw [e1]; rfl, 3, rfl⟩ o1) ⟨Nat.le_trans a4.1 (by omega), fun x h1 h2 => (o1 x (Nat.lt_of_lt_of_le h1 a4.1)).trans (a4.2.1 x h1 h2), a4.2.2⟩ a5
    rw [a1] at k
    exact k
  · rw [if_neg hh] at hv
    cases hv
theorem g_newQLand {n : Int32} {idx : Nat} (cap : Nat) (O : OkK κ μ) (hd : decode μ.1 pc = .ok (.anewarray idx, 3)) (hw : Cond.classLink μ.2.2.1 idx RX1 ∈ lw_tbl) (hv : nA M (.object RX1) n cap = some M2) (hcap : cap * 8 ≤ 536870912) (hc : cells + 1 ≤ μ.2.2.2.2.1.cells) (hs : slots + cap ≤ μ.2.2.2.2.1.slots) (hp : pc + 3 = pc') (kk : G κ μ (cells + 1) (slots + cap) pc' lv (.ref M.1 :: st) M2) : G κ μ cells slots pc lv (.int n :: st) M := by
  obtain ⟨p, l, e, s, m, args, below, meth, c, z, D, ca, kc, r, M'⟩ := κ
  obtain ⟨cc, nL, own, ret, R, nm⟩ := μ
  intro H ls locs a1 a2 a3 a4 a5
  subst hp
  unfold nA at hv
  by_cases hh : ¬ n < 0 ∧ n.toNatClampNeg ≤ cap
  · rw [if_pos hh] at hv
    cases hv
    refine W.anew O.1 O.2.1 O.2.2.2.1 (O.2.2.2.2.1 _ hw rfl) (va_AO.use O.2.2.2.2.2.2.2.2.2.1.2.2.2.2.2.2.1) rfl hd rfl hh.1 (by omega) hc (Nat.le_trans (Nat.add_le_add_left hh.2 _) hs) fun cA kA comp f1 f2 f3 f4 => ?_
    have hcA : cA = ca (.object RX1) := by
      obtain ⟨kA', comp', -, -, -, g4⟩ := (O.2.2.2.2.2.2.2.2.1.2 4 _ rfl).2
      exact Option.some.inj (f1.symm.trans g4)
    subst hcA
    generalize hH1 : H.push ({ cls := ca (.object RX1), slots := Array.replicate n.toNatClampNeg .null, vm := .none } : Cell) = H1
    have z1 : H1.size = H.size + 1 := by rw [← hH1, Array.size_push]
    have e1 : H1[H.size]? = some (arrV (ca (.object RX1)) n.toNatClampNeg (fun _ => .null)) := by rw [← hH1, Array.getElem?_push_size, ← arrV_new]
    have o1 : ∀ q : Nat, q < H.size → H1[q]? = H[q]? := fun q hq => by rw [← hH1, Array.getElem?_push, if_neg (Nat.ne_of_lt hq)]
    refine W.widen (Nat.le_refl _) (Nat.add_le_add_left hh.2 _) ?_
    have hz : z ≤ H.size := Nat.le_trans O.2.2.2.2.2.2.2.2.2.2 a4.1
    have k := kk H1 ls locs (by show M.1 + 1 = _; rw [a1, z1]) a2 (a3.mk a1 hz ⟨by rw [e1]; rfl, 4, rfl⟩ o1) ⟨Nat.le_trans a4.1 (by omega), fun x h1 h2 => (o1 x (Nat.lt_of_lt_of_le h1 a4.1)).trans (a4.2.1 x h1 h2), a4.2.2⟩ a5
    rw [a1] at k
    exact k
  · rw [if_neg hh] at hv
    cases hv
theorem g_newQSheet {n : Int32} {idx : Nat} (cap : Nat) (O : OkK κ μ) (hd : decode μ.1 pc = .ok (.anewarray idx, 3)) (hw : Cond.classLink μ.2.2.1 idx RX3 ∈ lw_tbl) (hv : nA M (.object RX3) n cap = some M2) (hcap : cap * 8 ≤ 536870912) (hc : cells + 1 ≤ μ.2.2.2.2.1.cells) (hs : slots + cap ≤ μ.2.2.2.2.1.slots) (hp : pc + 3 = pc') (kk : G κ μ (cells + 1) (slots + cap) pc' lv (.ref M.1 :: st) M2) : G κ μ cells slots pc lv (.int n :: st) M := by
  obtain ⟨p, l, e, s, m, args, below, meth, c, z, D, ca, kc, r, M'⟩ := κ
  obtain ⟨cc, nL, own, ret, R, nm⟩ := μ
  intro H ls locs a1 a2 a3 a4 a5
  subst hp
  unfold nA at hv
  by_cases hh : ¬ n < 0 ∧ n.toNatClampNeg ≤ cap
  · rw [if_pos hh] at hv
    cases hv
    refine W.anew O.1 O.2.1 O.2.2.2.1 (O.2.2.2.2.1 _ hw rfl) (va_AO.use O.2.2.2.2.2.2.2.2.2.1.2.2.2.2.2.2.2.1) rfl hd rfl hh.1 (by omega) hc (Nat.le_trans (Nat.add_le_add_left hh.2 _) hs) fun cA kA comp f1 f2 f3 f4 => ?_
    have hcA : cA = ca (.object RX3) := by
      obtain ⟨kA', comp', -, -, -, g4⟩ := (O.2.2.2.2.2.2.2.2.1.2 5 _ rfl).2
      exact Option.some.inj (f1.symm.trans g4)
    subst hcA
    generalize hH1 : H.push ({ cls := ca (.object RX3), slots := Array.replicate n.toNatClampNeg .null, vm := .none } : Cell) = H1
    have z1 : H1.size = H.size + 1 := by rw [← hH1, Array.size_push]
    have e1 : H1[H.size]? = some (arrV (ca (.object RX3)) n.toNatClampNeg (fun _ => .null)) := by rw [← hH1, Array.getElem?_push_size, ← arrV_new]
    have o1 : ∀ q : Nat, q < H.size → H1[q]? = H[q]? := fun q hq => by rw [← hH1, Array.getElem?_push, if_neg (Nat.ne_of_lt hq)]
    refine W.widen (Nat.le_refl _) (Nat.add_le_add_left hh.2 _) ?_
    have hz : z ≤ H.size := Nat.le_trans O.2.2.2.2.2.2.2.2.2.2 a4.1
    have k := kk H1 ls locs (by show M.1 + 1 = _; rw [a1, z1]) a2 (a3.mk a1 hz ⟨by rw [e1]; rfl, 5, rfl⟩ o1) ⟨Nat.le_trans a4.1 (by omega), fun x h1 h2 => (o1 x (Nat.lt_of_lt_of_le h1 a4.1)).trans (a4.2.1 x h1 h2), a4.2.2⟩ a5
    rw [a1] at k
    exact k
  · rw [if_neg hh] at hv
    cases hv
theorem g_newO {C : String} {T : u_T} {N ci idx : Nat} {fs : List Value} (O : OkK κ μ) (hd : decode μ.1 pc = .ok (.new idx, 3)) (hc0 : vwCl[ci]? = some (C, T, N)) (hin : ∀ w ∈ u_ws C T N, w ∈ lw_tbl) (ty : Nat → FieldType) (hty : ∀ k, k < N → parseFieldDescriptor (T k).2.2.1 = some (ty k)) (hfs : ∀ j, j < N → defaultValue (ty j) = vp_V fs j) (hw : Cond.classLink μ.2.2.1 idx C ∈ lw_tbl) (hw2 : Cond.instantiable C N ∈ lw_tbl) (hw3 : Cond.initialized C ∈ lw_tbl) (hc : cells + 1 ≤ μ.2.2.2.2.1.cells) (hs : slots + N ≤ μ.2.2.2.2.1.slots) (hp : pc + 3 = pc') (kk : G κ μ (cells + 1) (slots + N) pc' lv (.ref M.1 :: st) (nO M ci fs)) : G κ μ cells slots pc lv st M := by
  obtain ⟨p, l, e, s, m, args, below, meth, c, z, D, ca, kc, r, M'⟩ := κ
  obtain ⟨cc, nL, own, ret, R, nm⟩ := μ
  intro H ls locs a1 a2 a3 a4 a5
  subst hp
  have hts : ∀ w ∈ gT, w.before args s = true := fun w h => O.2.2.2.2.1 w (List.mem_filter.mp h).1 (List.mem_filter.mp h).2
  have hKn := O.2.2.2.2.2.2.2.2.1.1 ci _ hc0
  refine W.newcK O.1 O.2.1 O.2.2.2.1 (O.2.2.2.2.1 _ hw rfl) (O.2.2.2.2.1 _ hw2 rfl) (O.2.2.2.2.1 _ hw3 rfl) rfl hd hc hs hKn.2.1 rfl fun H1 kC hkC e1 z1 o1 => ?_
  have hz : z ≤ H.size := Nat.le_trans O.2.2.2.2.2.2.2.2.2.2 a4.1
  have k := kk H1 ls locs (by show M.1 + 1 = _; rw [a1, z1]) a2 (a3.mk a1 hz ⟨_, hc0, (u_born ty hts (u_gT hin) hKn hkC e1 hty).to hfs⟩ o1) ⟨Nat.le_trans a4.1 (by omega), fun x h1 h2 => (o1 x (Nat.lt_of_lt_of_le h1 a4.1)).trans (a4.2.1 x h1 h2), a4.2.2⟩ a5
  rw [a1] at k
  exact k
theorem g_objInit {a idx : Nat} (O : OkK κ μ) (hd : decode μ.1 pc = .ok (.invokespecial idx, 3)) (hw : Cond.methodLink μ.2.2.1 idx objectInit ∈ lw_tbl) (hw2 : Cond.instanceMethod objectInit ∈ lw_tbl) (hw3 : Cond.code objectInit ⟨#[0xb1]⟩ 1 none ∈ lw_tbl) (hf : 1 ≤ μ.2.2.2.2.1.frames) (hl : (st.map fun v => v.category).sum + 12 ≤ μ.2.2.2.2.1.locals) (hp : pc + 3 = pc') (kk : G κ μ cells slots pc' lv st M) : G κ μ cells slots pc lv (.ref a :: st) M := by
  obtain ⟨p, l, e, s, m, args, below, meth, c, z, D, ca, kc, r, M'⟩ := κ
  obtain ⟨cc, nL, own, ret, R, nm⟩ := μ
  intro H ls locs a1 a2 a3 a4 a5
  subst hp
  exact W.objInit O.1 O.2.1 O.2.2.2.1 (O.2.2.2.2.1 _ hw rfl) (O.2.2.2.2.1 _ hw2 rfl) (O.2.2.2.2.1 _ hw3 rfl) rfl (a5.1.trans O.2.2.1.symm) rfl hd hf (by have h : (st.map fun v => v.category).sum + 12 ≤ R.locals := hl; show 2 * 0 + _ + 12 ≤ _; omega) (kk H ls locs a1 a2 a3 a4 a5)
/-- the world behind a walk -/
theorem wd_end {z : Nat} {D : va_G} {ca : FieldType → ClassId} {M' : Mem} {s t : State} {H : Heap} {locs : List Loc} (hz : z ≤ s.heap.size) (hK : va_K D vwCl (tysOf ca) s) (hR : RepK z M'.2.2 s s.heap) (a1 : M'.1 = H.size) (a3 : RepW z D ca M' H) (a4 : va_S (fun q => z ≤ q) s.heap H locs) (ht : t.heap = H) (hW : s.WarmedH t.vm) : Wd z D ca M' t := by
  subst ht
  exact ⟨Nat.le_trans hz a4.1, a1, a3, va_K.moved hW.alike hK, RepK.go hW a4 hR⟩
theorem g_ireturn {x : Int32} {ty : FieldType} (O : OkK κ μ) (hd : decode μ.1 pc = .ok (.ireturn, 1)) (hr : μ.2.2.2.1 = some ty) (hn : narrow ty (.int x) = .int x) (hf : κ.2.2.2.2.2.2.2.2.2.2.2.2.2 = (some (.int x), M)) (hc : cells ≤ μ.2.2.2.2.1.cells) (hs : slots ≤ μ.2.2.2.2.1.slots) : G κ μ cells slots pc lv [.int x] M := by
  obtain ⟨p, l, e, s, m, args, below, meth, c, z, D, ca, kc, r, M'⟩ := κ
  obtain ⟨cc, nL, own, ret, R, nm⟩ := μ
  intro H ls locs a1 a2 a3 a4 a5
  cases hf
  refine W.widen hc hs ?_
  exact W.zret O.1 O.2.1 (O.2.2.2.2.2.2.1.trans hr) hn (fun t ht hW => ⟨rfl, a2, wd_end O.2.2.2.2.2.2.2.2.2.2 O.2.2.2.2.2.2.2.2.1 (by rw [a2]; exact O.2.2.2.2.2.2.2.2.2.1) a1 a3 a4 ht hW, a4.F ht⟩) (fun q hq => a4.2.2 q hq) hd O.2.2.2.2.2.1
theorem g_lreturn {x : Int64} (O : OkK κ μ) (hd : decode μ.1 pc = .ok (.lreturn, 1)) (hr : μ.2.2.2.1 = some .long) (hf : κ.2.2.2.2.2.2.2.2.2.2.2.2.2 = (some (.long x), M)) (hc : cells ≤ μ.2.2.2.2.1.cells) (hs : slots ≤ μ.2.2.2.2.1.slots) : G κ μ cells slots pc lv [.long x] M := by
  obtain ⟨p, l, e, s, m, args, below, meth, c, z, D, ca, kc, r, M'⟩ := κ
  obtain ⟨cc, nL, own, ret, R, nm⟩ := μ
  intro H ls locs a1 a2 a3 a4 a5
  cases hf
  refine W.widen hc hs ?_
  exact W.lret O.1 O.2.1 (O.2.2.2.2.2.2.1.trans hr) (fun t ht hW => ⟨rfl, a2, wd_end O.2.2.2.2.2.2.2.2.2.2 O.2.2.2.2.2.2.2.2.1 (by rw [a2]; exact O.2.2.2.2.2.2.2.2.2.1) a1 a3 a4 ht hW, a4.F ht⟩) (fun q hq => a4.2.2 q hq) hd O.2.2.2.2.2.1
theorem g_areturn {x : Option Nat} {ty : FieldType} (O : OkK κ μ) (hd : decode μ.1 pc = .ok (.areturn, 1)) (hr : μ.2.2.2.1 = some ty) (hrt : (∃ n, ty = .object n) ∨ ∃ t, ty = .array t) (hf : κ.2.2.2.2.2.2.2.2.2.2.2.2.2 = (some (va_rf x), M)) (hc : cells ≤ μ.2.2.2.2.1.cells) (hs : slots ≤ μ.2.2.2.2.1.slots) : G κ μ cells slots pc lv [va_rf x] M := by
  obtain ⟨p, l, e, s, m, args, below, meth, c, z, D, ca, kc, r, M'⟩ := κ
  obtain ⟨cc, nL, own, ret, R, nm⟩ := μ
  intro H ls locs a1 a2 a3 a4 a5
  cases hf
  refine W.widen hc hs ?_
  exact W.aret O.1 O.2.1 (O.2.2.2.2.2.2.1.trans hr) hrt (by cases x <;> simp [va_rf]) (fun t ht hW => ⟨rfl, a2, wd_end O.2.2.2.2.2.2.2.2.2.2 O.2.2.2.2.2.2.2.2.1 (by rw [a2]; exact O.2.2.2.2.2.2.2.2.2.1) a1 a3 a4 ht hW, a4.F ht⟩) (fun q hq => a4.2.2 q hq) hd O.2.2.2.2.2.1
theorem g_vreturn (O : OkK κ μ) (hd : decode μ.1 pc = .ok (.return_, 1)) (hr : μ.2.2.2.1 = none) (hf : κ.2.2.2.2.2.2.2.2.2.2.2.2.2 = (none, M)) (hc : cells ≤ μ.2.2.2.2.1.cells) (hs : slots ≤ μ.2.2.2.2.1.slots) : G κ μ cells slots pc lv [] M := by
  obtain ⟨p, l, e, s, m, args, below, meth, c, z, D, ca, kc, r, M'⟩ := κ
  obtain ⟨cc, nL, own, ret, R, nm⟩ := μ
  intro H ls locs a1 a2 a3 a4 a5
  cases hf
  refine W.widen hc hs ?_
  exact W.vret O.1 O.2.1 (O.2.2.2.2.2.2.1.trans hr) (fun t ht hW => ⟨rfl, a2, wd_end O.2.2.2.2.2.2.2.2.2.2 O.2.2.2.2.2.2.2.2.1 (by rw [a2]; exact O.2.2.2.2.2.2.2.2.2.1) a1 a3 a4 ht hW, a4.F ht⟩) (fun q hq => a4.2.2 q hq) hd O.2.2.2.2.2.1
theorem recvO {z : Nat} {D : va_G} {ca : FieldType → ClassId} {s : State} {H : Heap} {ci b : Nat} {C : String} {u : Unit} (hK : va_K D vwCl (tysOf ca) s) (a3 : RepW z D ca M H) (h : ck M ci b = some u) (hC : (vwCl[ci]?).map (fun q => q.1) = some C) : ∃ cell : Cell, H[b]? = some cell ∧ cell.vm.isStatics = false ∧ s.vm.findClass C = some cell.cls := by
  obtain ⟨fs, hM⟩ := ck_spec h
  obtain ⟨-, r0, hr0, cellV, g1, g2, g3, -⟩ := a3 b _ hM
  simp only at hr0
  rw [hr0] at hC
  cases hC
  exact ⟨cellV, g1, by rw [g3]; rfl, by rw [g2]; exact (hK.1 ci r0 hr0).2.1⟩
theorem g_callV {y : MethodName} {ν : MD} {idx b n : Nat} {As : List Value} {r1 : Option Value} (O : OkK κ μ) {ci : Nat} {u : Unit} (hd : decode μ.1 pc = .ok (.invokevirtual idx, 3)) (hcd : Cond.code y ν.1 ν.2.1 ν.2.2.2.1 ∈ lw_tbl) (hini : Cond.initialized y.cls ∈ lw_tbl) (hin : Cond.instanceMethod y ∈ lw_tbl) (hsel : Cond.selects y.cls y y ∈ lw_tbl) (hlink : Cond.methodLink μ.2.2.1 idx y ∈ lw_tbl) (hy : y.cls ≠ "java/lang/invoke/MethodHandle" ∧ y.cls ≠ "java/lang/invoke/VarHandle" ∧ (parseMethodDescriptor y.desc).map (fun d => d.parameters.length) = some n) (hn : As.length = n) (hC : (vwCl[ci]?).map (fun q => q.1) = some y.cls) (hck : ck M ci b = some u) (hcn : Cn κ.2.1 y ν (.ref b :: As) M r1 M2) (hcat : (st.map fun v => v.category).sum ≤ 8) (hroom : ν.2.2.2.2.1.frames + 1 ≤ μ.2.2.2.2.1.frames ∧ 8 + (ν.2.1 + 11) + ν.2.2.2.2.1.locals ≤ μ.2.2.2.2.1.locals) (hcs : cells + ν.2.2.2.2.1.cells ≤ μ.2.2.2.2.1.cells ∧ slots + ν.2.2.2.2.1.slots ≤ μ.2.2.2.2.1.slots) (hp : pc + 3 = pc') (kk : G κ μ (cells + ν.2.2.2.2.1.cells) (slots + ν.2.2.2.2.1.slots) pc' lv (r1.toList ++ st) M2) : G κ μ cells slots pc lv (As.reverse ++ .ref b :: st) M := by
  obtain ⟨p, l, e, s, m, args, below, meth, c, z, D, ca, kc, r, M'⟩ := κ
  obtain ⟨cc, nL, own, ret, R, nm⟩ := μ
  intro H ls locs a1 a2 a3 a4 a5
  subst hp
  have hG := goodIn_gT (args := args) (s := s) hcd O.2.2.2.2.1
  have hrv := recvO O.2.2.2.2.2.2.2.2.1 a3 hck hC
  have run := va_runV (cc := cc) (nL := nL) (As := As) (rest := st) (H := H) (R := R) (locs := locs) (cells := cells) (slots := slots) (e := e) (below := below) (meth := meth) (g := F0 m pc ls (As.reverse ++ .ref b :: st)) ⟨O.1, O.2.1, O.2.2.1, O.2.2.2.1, fun w (h : w ∈ gT) => O.2.2.2.2.1 w (List.mem_filter.mp h).1 (List.mem_filter.mp h).2⟩ (hcn z D ca) ⟨⟨rfl, rfl, hroom.1, hroom.2, hG, List.mem_cons_self, O.2.2.2.2.1 _ hcd rfl, O.2.2.2.2.1 _ hini rfl, ⟨hy.1, hy.2.1⟩, fun sig h => by have h2 := hy.2.2; rw [h] at h2; exact (Option.some.inj h2).symm, O.2.2.2.2.1 _ hlink rfl⟩, O.2.2.2.2.1 _ hin rfl, O.2.2.2.2.1 _ hsel rfl⟩ ⟨fun a U g mk q => ⟨q.1, q.2.blind⟩, hrv, fun U hU hW => ⟨rfl, by subst hU; exact ⟨Nat.le_trans O.2.2.2.2.2.2.2.2.2.2 a4.1, a1, a3, va_K.moved hW.alike O.2.2.2.2.2.2.2.2.1, a2 ▸ RepK.go hW a4 O.2.2.2.2.2.2.2.2.2.1⟩⟩⟩ rfl hn a5.1 rfl (lv_room hcat) hd hcs
  refine fun T hT X => ?_
  obtain ⟨v, st₀, t, T', L, h0, X', hL, e1, e2, ⟨hv, hM2, hWd, hFr⟩, stp⟩ := run T hT X
  cases hv
  obtain ⟨w1, w2, w3, w4, w5⟩ := hWd
  rw [← e1] at w1 w2 w3
  have hsz : H.size ≤ T'.heap.size := by rw [e1, ← h0]; exact hFr.1
  obtain ⟨t2, b1, b2⟩ := kk T'.heap ls (locs ++ L) w2 (hM2.trans a2) w3 ⟨Nat.le_trans a4.1 hsz, fun q h1 h2 => by
      rw [e1, hFr.2 q (by rw [h0]; exact Nat.lt_of_lt_of_le h1 a4.1) h2, h0]
      exact a4.2.1 q h1 h2, fun q hq => by
      rcases List.mem_append.mp hq with h | h
      · exact a4.2.2 q h
      · exact hL q h⟩ a5 T' rfl X'
  exact ⟨t2, stp t2 b1, b2⟩
theorem g_callVS {y : MethodName} {ν : MD} {idx b n : Nat} {As : List Value} {r1 : Option Value} (O : OkK κ μ) {u : Unit} (hd : decode μ.1 pc = .ok (.invokevirtual idx, 3)) (hcd : Cond.code y ν.1 ν.2.1 ν.2.2.2.1 ∈ lw_tbl) (hini : Cond.initialized y.cls ∈ lw_tbl) (hin : Cond.instanceMethod y ∈ lw_tbl) (hsel : Cond.selects y.cls y y ∈ lw_tbl) (hlink : Cond.methodLink μ.2.2.1 idx y ∈ lw_tbl) (hy : y.cls ≠ "java/lang/invoke/MethodHandle" ∧ y.cls ≠ "java/lang/invoke/VarHandle" ∧ (parseMethodDescriptor y.desc).map (fun d => d.parameters.length) = some n) (hn : As.length = n) (hC : y.cls = RJ0) (hck : ckS M b = some u) (hcn : Cn κ.2.1 y ν (.ref b :: As) M r1 M2) (hcat : (st.map fun v => v.category).sum ≤ 8) (hroom : ν.2.2.2.2.1.frames + 1 ≤ μ.2.2.2.2.1.frames ∧ 8 + (ν.2.1 + 11) + ν.2.2.2.2.1.locals ≤ μ.2.2.2.2.1.locals) (hcs : cells + ν.2.2.2.2.1.cells ≤ μ.2.2.2.2.1.cells ∧ slots + ν.2.2.2.2.1.slots ≤ μ.2.2.2.2.1.slots) (hp : pc + 3 = pc') (kk : G κ μ (cells + ν.2.2.2.2.1.cells) (slots + ν.2.2.2.2.1.slots) pc' lv (r1.toList ++ st) M2) : G κ μ cells slots pc lv (As.reverse ++ .ref b :: st) M := by
  obtain ⟨p, l, e, s, m, args, below, meth, c, z, D, ca, kc, r, M'⟩ := κ
  obtain ⟨cc, nL, own, ret, R, nm⟩ := μ
  intro H ls locs a1 a2 a3 a4 a5
  subst hp
  have hG := goodIn_gT (args := args) (s := s) hcd O.2.2.2.2.1
  have hrv : ∃ cell : Cell, H[b]? = some cell ∧ cell.vm.isStatics = false ∧ s.vm.findClass y.cls = some cell.cls := by
    unfold ckS at hck
    split at hck
    · rename_i v hv
      obtain ⟨cell, h1, h2, h3, -⟩ := (O.2.2.2.2.2.2.2.2.2.1.2.1 b v (a2 ▸ hv)).1.kept a4.2.1
      exact ⟨cell, h1, h2, by rw [hC]; exact h3⟩
    · cases hck
  have run := va_runV (cc := cc) (nL := nL) (As := As) (rest := st) (H := H) (R := R) (locs := locs) (cells := cells) (slots := slots) (e := e) (below := below) (meth := meth) (g := F0 m pc ls (As.reverse ++ .ref b :: st)) ⟨O.1, O.2.1, O.2.2.1, O.2.2.2.1, fun w (h : w ∈ gT) => O.2.2.2.2.1 w (List.mem_filter.mp h).1 (List.mem_filter.mp h).2⟩ (hcn z D ca) ⟨⟨rfl, rfl, hroom.1, hroom.2, hG, List.mem_cons_self, O.2.2.2.2.1 _ hcd rfl, O.2.2.2.2.1 _ hini rfl, ⟨hy.1, hy.2.1⟩, fun sig h => by have h2 := hy.2.2; rw [h] at h2; exact (Option.some.inj h2).symm, O.2.2.2.2.1 _ hlink rfl⟩, O.2.2.2.2.1 _ hin rfl, O.2.2.2.2.1 _ hsel rfl⟩ ⟨fun a U g mk q => ⟨q.1, q.2.blind⟩, hrv, fun U hU hW => ⟨rfl, by subst hU; exact ⟨Nat.le_trans O.2.2.2.2.2.2.2.2.2.2 a4.1, a1, a3, va_K.moved hW.alike O.2.2.2.2.2.2.2.2.1, a2 ▸ RepK.go hW a4 O.2.2.2.2.2.2.2.2.2.1⟩⟩⟩ rfl hn a5.1 rfl (lv_room hcat) hd hcs
  refine fun T hT X => ?_
  obtain ⟨v, st₀, t, T', L, h0, X', hL, e1, e2, ⟨hv, hM2, hWd, hFr⟩, stp⟩ := run T hT X
  cases hv
  obtain ⟨w1, w2, w3, w4, w5⟩ := hWd
  rw [← e1] at w1 w2 w3
  have hsz : H.size ≤ T'.heap.size := by rw [e1, ← h0]; exact hFr.1
  obtain ⟨t2, b1, b2⟩ := kk T'.heap ls (locs ++ L) w2 (hM2.trans a2) w3 ⟨Nat.le_trans a4.1 hsz, fun q h1 h2 => by
      rw [e1, hFr.2 q (by rw [h0]; exact Nat.lt_of_lt_of_le h1 a4.1) h2, h0]
      exact a4.2.1 q h1 h2, fun q hq => by
      rcases List.mem_append.mp hq with h | h
      · exact a4.2.2 q h
      · exact hL q h⟩ a5 T' rfl X'
  exact ⟨t2, stp t2 b1, b2⟩
theorem g_callI {y : MethodName} {ν : MD} {idx b n : Nat} {As : List Value} {r1 : Option Value} (O : OkK κ μ) (hd : decode μ.1 pc = .ok (.invokespecial idx, 3)) (hcd : Cond.code y ν.1 ν.2.1 ν.2.2.2.1 ∈ lw_tbl) (hini : Cond.initialized y.cls ∈ lw_tbl) (hin : Cond.instanceMethod y ∈ lw_tbl) (hlink : Cond.methodLink μ.2.2.1 idx y ∈ lw_tbl) (hy : y.cls ≠ "java/lang/invoke/MethodHandle" ∧ y.cls ≠ "java/lang/invoke/VarHandle" ∧ (parseMethodDescriptor y.desc).map (fun d => d.parameters.length) = some n) (hn : As.length = n) (hname : y.name = "<init>") (hret : ν.2.2.2.1 = none) (hcn : Cn κ.2.1 y ν (.ref b :: As) M r1 M2) (hcat : (st.map fun v => v.category).sum ≤ 8) (hroom : ν.2.2.2.2.1.frames + 1 ≤ μ.2.2.2.2.1.frames ∧ 8 + (ν.2.1 + 11) + ν.2.2.2.2.1.locals ≤ μ.2.2.2.2.1.locals) (hcs : cells + ν.2.2.2.2.1.cells ≤ μ.2.2.2.2.1.cells ∧ slots + ν.2.2.2.2.1.slots ≤ μ.2.2.2.2.1.slots) (hp : pc + 3 = pc') (kk : G κ μ (cells + ν.2.2.2.2.1.cells) (slots + ν.2.2.2.2.1.slots) pc' lv (r1.toList ++ st) M2) : G κ μ cells slots pc lv (As.reverse ++ .ref b :: st) M := by
  obtain ⟨p, l, e, s, m, args, below, meth, c, z, D, ca, kc, r, M'⟩ := κ
  obtain ⟨cc, nL, own, ret, R, nm⟩ := μ
  intro H ls locs a1 a2 a3 a4 a5
  subst hp
  obtain ⟨cc2, nL2, own2, ret2, R2, nm2⟩ := ν
  simp only at hret
  subst hret
  have hG := goodIn_gT (args := args) (s := s) hcd O.2.2.2.2.1
  have run := va_runI (cc := cc) (nL := nL) (As := As) (rest := st) (H := H) (R := R) (locs := locs) (cells := cells) (slots := slots) (e := e) (below := below) (meth := meth) (g := F0 m pc ls (As.reverse ++ .ref b :: st)) ⟨O.1, O.2.1, O.2.2.1, O.2.2.2.1, fun w (h : w ∈ gT) => O.2.2.2.2.1 w (List.mem_filter.mp h).1 (List.mem_filter.mp h).2⟩ (hcn z D ca) ⟨⟨rfl, rfl, hroom.1, hroom.2, hG, List.mem_cons_self, O.2.2.2.2.1 _ hcd rfl, O.2.2.2.2.1 _ hini rfl, ⟨hy.1, hy.2.1⟩, fun sig h => by have h2 := hy.2.2; rw [h] at h2; exact (Option.some.inj h2).symm, O.2.2.2.2.1 _ hlink rfl⟩, hname, O.2.2.2.2.1 _ hin rfl⟩ ⟨fun a U g mk q => ⟨q.1, q.2.blind⟩, fun U hU hW => ⟨rfl, by subst hU; exact ⟨Nat.le_trans O.2.2.2.2.2.2.2.2.2.2 a4.1, a1, a3, va_K.moved hW.alike O.2.2.2.2.2.2.2.2.1, a2 ▸ RepK.go hW a4 O.2.2.2.2.2.2.2.2.2.1⟩⟩⟩ rfl hn a5.1 rfl (lv_room hcat) hd hcs
  refine fun T hT X => ?_
  obtain ⟨v, st₀, t, T', L, h0, X', hL, e1, e2, ⟨hv, hM2, hWd, hFr⟩, stp⟩ := run T hT X
  cases hv
  obtain ⟨w1, w2, w3, w4, w5⟩ := hWd
  rw [← e1] at w1 w2 w3
  have hsz : H.size ≤ T'.heap.size := by rw [e1, ← h0]; exact hFr.1
  obtain ⟨t2, b1, b2⟩ := kk T'.heap ls (locs ++ L) w2 (hM2.trans a2) w3 ⟨Nat.le_trans a4.1 hsz, fun q h1 h2 => by
      rw [e1, hFr.2 q (by rw [h0]; exact Nat.lt_of_lt_of_le h1 a4.1) h2, h0]
      exact a4.2.1 q h1 h2, fun q hq => by
      rcases List.mem_append.mp hq with h | h
      · exact a4.2.2 q h
      · exact hL q h⟩ a5 T' rfl X'
  exact ⟨t2, stp t2 b1, b2⟩
theorem g_callS {y : MethodName} {ν : MD} {idx b n : Nat} {As : List Value} {r1 : Option Value} (O : OkK κ μ) (hd : decode μ.1 pc = .ok (.invokestatic idx, 3)) (hcd : Cond.code y ν.1 ν.2.1 ν.2.2.2.1 ∈ lw_tbl) (hini : Cond.initialized y.cls ∈ lw_tbl) (hin : Cond.static y ∈ lw_tbl) (hlink : Cond.methodLink μ.2.2.1 idx y ∈ lw_tbl) (hy : y.cls ≠ "java/lang/invoke/MethodHandle" ∧ y.cls ≠ "java/lang/invoke/VarHandle" ∧ (parseMethodDescriptor y.desc).map (fun d => d.parameters.length) = some n) (hn : As.length = n) (hcn : Cn κ.2.1 y ν As M r1 M2) (hcat : (st.map fun v => v.category).sum ≤ 8) (hroom : ν.2.2.2.2.1.frames + 1 ≤ μ.2.2.2.2.1.frames ∧ 8 + (ν.2.1 + 11) + ν.2.2.2.2.1.locals ≤ μ.2.2.2.2.1.locals) (hcs : cells + ν.2.2.2.2.1.cells ≤ μ.2.2.2.2.1.cells ∧ slots + ν.2.2.2.2.1.slots ≤ μ.2.2.2.2.1.slots) (hp : pc + 3 = pc') (kk : G κ μ (cells + ν.2.2.2.2.1.cells) (slots + ν.2.2.2.2.1.slots) pc' lv (r1.toList ++ st) M2) : G κ μ cells slots pc lv (As.reverse ++ st) M := by
  obtain ⟨p, l, e, s, m, args, below, meth, c, z, D, ca, kc, r, M'⟩ := κ
  obtain ⟨cc, nL, own, ret, R, nm⟩ := μ
  intro H ls locs a1 a2 a3 a4 a5
  subst hp
  have hG := goodIn_gT (args := args) (s := s) hcd O.2.2.2.2.1
  have run := va_runS (cc := cc) (nL := nL) (As := As) (rest := st) (H := H) (R := R) (locs := locs) (cells := cells) (slots := slots) (e := e) (below := below) (meth := meth) (g := F0 m pc ls (As.reverse ++ st)) ⟨O.1, O.2.1, O.2.2.1, O.2.2.2.1, fun w (h : w ∈ gT) => O.2.2.2.2.1 w (List.mem_filter.mp h).1 (List.mem_filter.mp h).2⟩ (hcn z D ca) ⟨⟨rfl, rfl, hroom.1, hroom.2, hG, List.mem_cons_self, O.2.2.2.2.1 _ hcd rfl, O.2.2.2.2.1 _ hini rfl, ⟨hy.1, hy.2.1⟩, fun sig h => by have h2 := hy.2.2; rw [h] at h2; exact (Option.some.inj h2).symm, O.2.2.2.2.1 _ hlink rfl⟩, O.2.2.2.2.1 _ hin rfl⟩ ⟨fun a U g mk q => ⟨q.1, q.2.blind⟩, fun U hU hW => ⟨rfl, by subst hU; exact ⟨Nat.le_trans O.2.2.2.2.2.2.2.2.2.2 a4.1, a1, a3, va_K.moved hW.alike O.2.2.2.2.2.2.2.2.1, a2 ▸ RepK.go hW a4 O.2.2.2.2.2.2.2.2.2.1⟩⟩⟩ rfl hn a5.1 rfl (lv_room hcat) hd hcs
  refine fun T hT X => ?_
  obtain ⟨v, st₀, t, T', L, h0, X', hL, e1, e2, ⟨hv, hM2, hWd, hFr⟩, stp⟩ := run T hT X
  cases hv
  obtain ⟨w1, w2, w3, w4, w5⟩ := hWd
  rw [← e1] at w1 w2 w3
  have hsz : H.size ≤ T'.heap.size := by rw [e1, ← h0]; exact hFr.1
  obtain ⟨t2, b1, b2⟩ := kk T'.heap ls (locs ++ L) w2 (hM2.trans a2) w3 ⟨Nat.le_trans a4.1 hsz, fun q h1 h2 => by
      rw [e1, hFr.2 q (by rw [h0]; exact Nat.lt_of_lt_of_le h1 a4.1) h2, h0]
      exact a4.2.1 q h1 h2, fun q hq => by
      rcases List.mem_append.mp hq with h | h
      · exact a4.2.2 q h
      · exact hL q h⟩ a5 T' rfl X'
  exact ⟨t2, stp t2 b1, b2⟩
theorem g_callSN {y : MethodName} {ν : MD} {idx b n : Nat} {As : List Value} {r1 : Option Value} (O : OkK κ μ) (hd : decode μ.1 pc = .ok (.invokestatic idx, 3)) (hcd : Cond.code y ν.1 ν.2.1 ν.2.2.2.1 ∈ lw_tbl) (hini : Cond.initialized y.cls ∈ lw_tbl) (hin : Cond.static y ∈ lw_tbl) (hlink : (idx, μ.2.2.1, y) ∈ nestTbl) (hy : y.cls ≠ "java/lang/invoke/MethodHandle" ∧ y.cls ≠ "java/lang/invoke/VarHandle" ∧ (parseMethodDescriptor y.desc).map (fun d => d.parameters.length) = some n) (hn : As.length = n) (hcn : Cn κ.2.1 y ν As M r1 M2) (hcat : (st.map fun v => v.category).sum ≤ 8) (hroom : ν.2.2.2.2.1.frames + 1 ≤ μ.2.2.2.2.1.frames ∧ 8 + (ν.2.1 + 11) + ν.2.2.2.2.1.locals ≤ μ.2.2.2.2.1.locals) (hcs : cells + ν.2.2.2.2.1.cells ≤ μ.2.2.2.2.1.cells ∧ slots + ν.2.2.2.2.1.slots ≤ μ.2.2.2.2.1.slots) (hp : pc + 3 = pc') (kk : G κ μ (cells + ν.2.2.2.2.1.cells) (slots + ν.2.2.2.2.1.slots) pc' lv (r1.toList ++ st) M2) : G κ μ cells slots pc lv (As.reverse ++ st) M := by
  obtain ⟨p, l, e, s, m, args, below, meth, c, z, D, ca, kc, r, M'⟩ := κ
  obtain ⟨cc, nL, own, ret, R, nm⟩ := μ
  intro H ls locs a1 a2 a3 a4 a5
  subst hp
  have hG := goodIn_gT (args := args) (s := s) hcd O.2.2.2.2.1
  have run := va_runSN (cc := cc) (nL := nL) (As := As) (rest := st) (H := H) (R := R) (locs := locs) (cells := cells) (slots := slots) (e := e) (below := below) (meth := meth) (g := F0 m pc ls (As.reverse ++ st)) (host := RX7) ⟨O.1, O.2.1, O.2.2.1, O.2.2.2.1, fun w (h : w ∈ gT) => O.2.2.2.2.1 w (List.mem_filter.mp h).1 (List.mem_filter.mp h).2⟩ (hcn z D ca) ⟨⟨⟨rfl, rfl, hroom.1, hroom.2, hG, List.mem_cons_self⟩, O.2.2.2.2.1 _ hcd rfl, O.2.2.2.2.1 _ hini rfl, ⟨hy.1, hy.2.1⟩, fun sig h => by have h2 := hy.2.2; rw [h] at h2; exact (Option.some.inj h2).symm, va_Nw.use rfl (O.2.2.2.2.2.2.2.2.2.1.2.2.2.2.2.1 _ hlink)⟩, O.2.2.2.2.1 _ hin rfl, trivial⟩ ⟨fun a U g mk q => ⟨q.1, q.2.blind⟩, fun U hU hW => ⟨rfl, by subst hU; exact ⟨Nat.le_trans O.2.2.2.2.2.2.2.2.2.2 a4.1, a1, a3, va_K.moved hW.alike O.2.2.2.2.2.2.2.2.1, a2 ▸ RepK.go hW a4 O.2.2.2.2.2.2.2.2.2.1⟩⟩⟩ rfl hn a5.1 rfl (lv_room hcat) hd hcs
  refine fun T hT X => ?_
  obtain ⟨v, st₀, t, T', L, h0, X', hL, e1, e2, ⟨hv, hM2, hWd, hFr⟩, stp⟩ := run T hT X
  cases hv
  obtain ⟨w1, w2, w3, w4, w5⟩ := hWd
  rw [← e1] at w1 w2 w3
  have hsz : H.size ≤ T'.heap.size := by rw [e1, ← h0]; exact hFr.1
  obtain ⟨t2, b1, b2⟩ := kk T'.heap ls (locs ++ L) w2 (hM2.trans a2) w3 ⟨Nat.le_trans a4.1 hsz, fun q h1 h2 => by
      rw [e1, hFr.2 q (by rw [h0]; exact Nat.lt_of_lt_of_le h1 a4.1) h2, h0]
      exact a4.2.1 q h1 h2, fun q hq => by
      rcases List.mem_append.mp hq with h | h
      · exact a4.2.2 q h
      · exact hL q h⟩ a5 T' rfl X'
  exact ⟨t2, stp t2 b1, b2⟩
end MEMROWS
