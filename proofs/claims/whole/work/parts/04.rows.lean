section ROWS
variable {κ : KT} {μ : MD} {cells slots pc pc' : Nat} {lv lv' : List (Nat × Value)} {st : List Value} {M : Mem}
theorem g_iconst {n : Int} {v : Int32} (O : OkK κ μ) (hd : decode μ.1 pc = .ok (.iconst n, 1)) (hv : Int32.ofInt n = v) (hp : pc + 1 = pc') (k : G κ μ cells slots pc' lv (.int v :: st) M) : G κ μ cells slots pc lv (st) M := by
  obtain ⟨p, l, e, s, m, args, below, meth, c, z, D, ca, kc, r, M'⟩ := κ
  obtain ⟨cc, nL, own, ret, R, nm⟩ := μ
  intro H ls locs a1 a2 a3 a4 a5
  subst hp
  exact lv_iconst O.1 O.2.1 hd hv (k H ls locs a1 a2 a3 a4 a5)
theorem g_bipush {n : Int} {v : Int32} (O : OkK κ μ) (hd : decode μ.1 pc = .ok (.bipush n, 2)) (hv : (Int8.ofInt n).toInt32 = v) (hp : pc + 2 = pc') (k : G κ μ cells slots pc' lv (.int v :: st) M) : G κ μ cells slots pc lv (st) M := by
  obtain ⟨p, l, e, s, m, args, below, meth, c, z, D, ca, kc, r, M'⟩ := κ
  obtain ⟨cc, nL, own, ret, R, nm⟩ := μ
  intro H ls locs a1 a2 a3 a4 a5
  subst hp
  exact lv_bipush O.1 O.2.1 hd hv (k H ls locs a1 a2 a3 a4 a5)
theorem g_sipush {n : Int} {v : Int32} (O : OkK κ μ) (hd : decode μ.1 pc = .ok (.sipush n, 3)) (hv : (Int16.ofInt n).toInt32 = v) (hp : pc + 3 = pc') (k : G κ μ cells slots pc' lv (.int v :: st) M) : G κ μ cells slots pc lv (st) M := by
  obtain ⟨p, l, e, s, m, args, below, meth, c, z, D, ca, kc, r, M'⟩ := κ
  obtain ⟨cc, nL, own, ret, R, nm⟩ := μ
  intro H ls locs a1 a2 a3 a4 a5
  subst hp
  exact lv_sipush O.1 O.2.1 hd hv (k H ls locs a1 a2 a3 a4 a5)
theorem g_lconst {n : Fin 2} {v : Int64} (O : OkK κ μ) (hd : decode μ.1 pc = .ok (.lconst n, 1)) (hv : Int64.ofNat (n : Nat) = v) (hp : pc + 1 = pc') (k : G κ μ cells slots pc' lv (.long v :: st) M) : G κ μ cells slots pc lv (st) M := by
  obtain ⟨p, l, e, s, m, args, below, meth, c, z, D, ca, kc, r, M'⟩ := κ
  obtain ⟨cc, nL, own, ret, R, nm⟩ := μ
  intro H ls locs a1 a2 a3 a4 a5
  subst hp
  exact lv_lconst O.1 O.2.1 hd hv (k H ls locs a1 a2 a3 a4 a5)
theorem g_iadd {x y : Int32} (O : OkK κ μ) (hd : decode μ.1 pc = .ok (.iadd, 1))  (hp : pc + 1 = pc') (k : G κ μ cells slots pc' lv (.int (x + y) :: st) M) : G κ μ cells slots pc lv (.int y :: .int x :: st) M := by
  obtain ⟨p, l, e, s, m, args, below, meth, c, z, D, ca, kc, r, M'⟩ := κ
  obtain ⟨cc, nL, own, ret, R, nm⟩ := μ
  intro H ls locs a1 a2 a3 a4 a5
  subst hp
  exact lv_iadd O.1 O.2.1 hd  (k H ls locs a1 a2 a3 a4 a5)
theorem g_isub {x y : Int32} (O : OkK κ μ) (hd : decode μ.1 pc = .ok (.isub, 1))  (hp : pc + 1 = pc') (k : G κ μ cells slots pc' lv (.int (x - y) :: st) M) : G κ μ cells slots pc lv (.int y :: .int x :: st) M := by
  obtain ⟨p, l, e, s, m, args, below, meth, c, z, D, ca, kc, r, M'⟩ := κ
  obtain ⟨cc, nL, own, ret, R, nm⟩ := μ
  intro H ls locs a1 a2 a3 a4 a5
  subst hp
  exact lv_isub O.1 O.2.1 hd  (k H ls locs a1 a2 a3 a4 a5)
theorem g_imul {x y : Int32} (O : OkK κ μ) (hd : decode μ.1 pc = .ok (.imul, 1))  (hp : pc + 1 = pc') (k : G κ μ cells slots pc' lv (.int (x * y) :: st) M) : G κ μ cells slots pc lv (.int y :: .int x :: st) M := by
  obtain ⟨p, l, e, s, m, args, below, meth, c, z, D, ca, kc, r, M'⟩ := κ
  obtain ⟨cc, nL, own, ret, R, nm⟩ := μ
  intro H ls locs a1 a2 a3 a4 a5
  subst hp
  exact lv_imul O.1 O.2.1 hd  (k H ls locs a1 a2 a3 a4 a5)
theorem g_iand {x y : Int32} (O : OkK κ μ) (hd : decode μ.1 pc = .ok (.iand, 1))  (hp : pc + 1 = pc') (k : G κ μ cells slots pc' lv (.int (x &&& y) :: st) M) : G κ μ cells slots pc lv (.int y :: .int x :: st) M := by
  obtain ⟨p, l, e, s, m, args, below, meth, c, z, D, ca, kc, r, M'⟩ := κ
  obtain ⟨cc, nL, own, ret, R, nm⟩ := μ
  intro H ls locs a1 a2 a3 a4 a5
  subst hp
  exact lv_iand O.1 O.2.1 hd  (k H ls locs a1 a2 a3 a4 a5)
theorem g_ior {x y : Int32} (O : OkK κ μ) (hd : decode μ.1 pc = .ok (.ior, 1))  (hp : pc + 1 = pc') (k : G κ μ cells slots pc' lv (.int (x ||| y) :: st) M) : G κ μ cells slots pc lv (.int y :: .int x :: st) M := by
  obtain ⟨p, l, e, s, m, args, below, meth, c, z, D, ca, kc, r, M'⟩ := κ
  obtain ⟨cc, nL, own, ret, R, nm⟩ := μ
  intro H ls locs a1 a2 a3 a4 a5
  subst hp
  exact lv_ior O.1 O.2.1 hd  (k H ls locs a1 a2 a3 a4 a5)
theorem g_ishl {x y : Int32} (O : OkK κ μ) (hd : decode μ.1 pc = .ok (.ishl, 1))  (hp : pc + 1 = pc') (k : G κ μ cells slots pc' lv (.int (x <<< (y &&& 31)) :: st) M) : G κ μ cells slots pc lv (.int y :: .int x :: st) M := by
  obtain ⟨p, l, e, s, m, args, below, meth, c, z, D, ca, kc, r, M'⟩ := κ
  obtain ⟨cc, nL, own, ret, R, nm⟩ := μ
  intro H ls locs a1 a2 a3 a4 a5
  subst hp
  exact lv_ishl O.1 O.2.1 hd  (k H ls locs a1 a2 a3 a4 a5)
theorem g_ishr {x y : Int32} (O : OkK κ μ) (hd : decode μ.1 pc = .ok (.ishr, 1))  (hp : pc + 1 = pc') (k : G κ μ cells slots pc' lv (.int (x >>> (y &&& 31)) :: st) M) : G κ μ cells slots pc lv (.int y :: .int x :: st) M := by
  obtain ⟨p, l, e, s, m, args, below, meth, c, z, D, ca, kc, r, M'⟩ := κ
  obtain ⟨cc, nL, own, ret, R, nm⟩ := μ
  intro H ls locs a1 a2 a3 a4 a5
  subst hp
  exact lv_ishr O.1 O.2.1 hd  (k H ls locs a1 a2 a3 a4 a5)
theorem g_idiv {x y : Int32} (O : OkK κ μ) (hd : decode μ.1 pc = .ok (.idiv, 1)) (hne : ¬ y = 0) (hp : pc + 1 = pc') (k : G κ μ cells slots pc' lv (.int (x / y) :: st) M) : G κ μ cells slots pc lv (.int y :: .int x :: st) M := by
  obtain ⟨p, l, e, s, m, args, below, meth, c, z, D, ca, kc, r, M'⟩ := κ
  obtain ⟨cc, nL, own, ret, R, nm⟩ := μ
  intro H ls locs a1 a2 a3 a4 a5
  subst hp
  exact lv_idiv O.1 O.2.1 hd hne (k H ls locs a1 a2 a3 a4 a5)
theorem g_irem {x y : Int32} (O : OkK κ μ) (hd : decode μ.1 pc = .ok (.irem, 1)) (hne : ¬ y = 0) (hp : pc + 1 = pc') (k : G κ μ cells slots pc' lv (.int (x - x / y * y) :: st) M) : G κ μ cells slots pc lv (.int y :: .int x :: st) M := by
  obtain ⟨p, l, e, s, m, args, below, meth, c, z, D, ca, kc, r, M'⟩ := κ
  obtain ⟨cc, nL, own, ret, R, nm⟩ := μ
  intro H ls locs a1 a2 a3 a4 a5
  subst hp
  exact lv_irem O.1 O.2.1 hd hne (k H ls locs a1 a2 a3 a4 a5)
theorem g_ladd {x y : Int64} (O : OkK κ μ) (hd : decode μ.1 pc = .ok (.ladd, 1))  (hp : pc + 1 = pc') (k : G κ μ cells slots pc' lv (.long (x + y) :: st) M) : G κ μ cells slots pc lv (.long y :: .long x :: st) M := by
  obtain ⟨p, l, e, s, m, args, below, meth, c, z, D, ca, kc, r, M'⟩ := κ
  obtain ⟨cc, nL, own, ret, R, nm⟩ := μ
  intro H ls locs a1 a2 a3 a4 a5
  subst hp
  exact lv_ladd O.1 O.2.1 hd  (k H ls locs a1 a2 a3 a4 a5)
theorem g_lsub {x y : Int64} (O : OkK κ μ) (hd : decode μ.1 pc = .ok (.lsub, 1))  (hp : pc + 1 = pc') (k : G κ μ cells slots pc' lv (.long (x - y) :: st) M) : G κ μ cells slots pc lv (.long y :: .long x :: st) M := by
  obtain ⟨p, l, e, s, m, args, below, meth, c, z, D, ca, kc, r, M'⟩ := κ
  obtain ⟨cc, nL, own, ret, R, nm⟩ := μ
  intro H ls locs a1 a2 a3 a4 a5
  subst hp
  exact lv_lsub O.1 O.2.1 hd  (k H ls locs a1 a2 a3 a4 a5)
theorem g_lmul {x y : Int64} (O : OkK κ μ) (hd : decode μ.1 pc = .ok (.lmul, 1))  (hp : pc + 1 = pc') (k : G κ μ cells slots pc' lv (.long (x * y) :: st) M) : G κ μ cells slots pc lv (.long y :: .long x :: st) M := by
  obtain ⟨p, l, e, s, m, args, below, meth, c, z, D, ca, kc, r, M'⟩ := κ
  obtain ⟨cc, nL, own, ret, R, nm⟩ := μ
  intro H ls locs a1 a2 a3 a4 a5
  subst hp
  exact lv_lmul O.1 O.2.1 hd  (k H ls locs a1 a2 a3 a4 a5)
theorem g_land {x y : Int64} (O : OkK κ μ) (hd : decode μ.1 pc = .ok (.land, 1))  (hp : pc + 1 = pc') (k : G κ μ cells slots pc' lv (.long (x &&& y) :: st) M) : G κ μ cells slots pc lv (.long y :: .long x :: st) M := by
  obtain ⟨p, l, e, s, m, args, below, meth, c, z, D, ca, kc, r, M'⟩ := κ
  obtain ⟨cc, nL, own, ret, R, nm⟩ := μ
  intro H ls locs a1 a2 a3 a4 a5
  subst hp
  exact lv_land O.1 O.2.1 hd  (k H ls locs a1 a2 a3 a4 a5)
theorem g_lor {x y : Int64} (O : OkK κ μ) (hd : decode μ.1 pc = .ok (.lor, 1))  (hp : pc + 1 = pc') (k : G κ μ cells slots pc' lv (.long (x ||| y) :: st) M) : G κ μ cells slots pc lv (.long y :: .long x :: st) M := by
  obtain ⟨p, l, e, s, m, args, below, meth, c, z, D, ca, kc, r, M'⟩ := κ
  obtain ⟨cc, nL, own, ret, R, nm⟩ := μ
  intro H ls locs a1 a2 a3 a4 a5
  subst hp
  exact lv_lor O.1 O.2.1 hd  (k H ls locs a1 a2 a3 a4 a5)
theorem g_ldiv {x y : Int64} (O : OkK κ μ) (hd : decode μ.1 pc = .ok (.ldiv, 1)) (hne : ¬ y = 0) (hp : pc + 1 = pc') (k : G κ μ cells slots pc' lv (.long (x / y) :: st) M) : G κ μ cells slots pc lv (.long y :: .long x :: st) M := by
  obtain ⟨p, l, e, s, m, args, below, meth, c, z, D, ca, kc, r, M'⟩ := κ
  obtain ⟨cc, nL, own, ret, R, nm⟩ := μ
  intro H ls locs a1 a2 a3 a4 a5
  subst hp
  exact lv_ldiv O.1 O.2.1 hd hne (k H ls locs a1 a2 a3 a4 a5)
theorem g_lrem {x y : Int64} (O : OkK κ μ) (hd : decode μ.1 pc = .ok (.lrem, 1)) (hne : ¬ y = 0) (hp : pc + 1 = pc') (k : G κ μ cells slots pc' lv (.long (x - x / y * y) :: st) M) : G κ μ cells slots pc lv (.long y :: .long x :: st) M := by
  obtain ⟨p, l, e, s, m, args, below, meth, c, z, D, ca, kc, r, M'⟩ := κ
  obtain ⟨cc, nL, own, ret, R, nm⟩ := μ
  intro H ls locs a1 a2 a3 a4 a5
  subst hp
  exact lv_lrem O.1 O.2.1 hd hne (k H ls locs a1 a2 a3 a4 a5)
theorem g_lneg {x : Int64} (O : OkK κ μ) (hd : decode μ.1 pc = .ok (.lneg, 1))  (hp : pc + 1 = pc') (k : G κ μ cells slots pc' lv (.long (-x) :: st) M) : G κ μ cells slots pc lv (.long x :: st) M := by
  obtain ⟨p, l, e, s, m, args, below, meth, c, z, D, ca, kc, r, M'⟩ := κ
  obtain ⟨cc, nL, own, ret, R, nm⟩ := μ
  intro H ls locs a1 a2 a3 a4 a5
  subst hp
  exact lv_lneg O.1 O.2.1 hd  (k H ls locs a1 a2 a3 a4 a5)
theorem g_lcmp {x y : Int64} (O : OkK κ μ) (hd : decode μ.1 pc = .ok (.lcmp, 1))  (hp : pc + 1 = pc') (k : G κ μ cells slots pc' lv (.int (lg_cmp x y) :: st) M) : G κ μ cells slots pc lv (.long y :: .long x :: st) M := by
  obtain ⟨p, l, e, s, m, args, below, meth, c, z, D, ca, kc, r, M'⟩ := κ
  obtain ⟨cc, nL, own, ret, R, nm⟩ := μ
  intro H ls locs a1 a2 a3 a4 a5
  subst hp
  exact W.lcmp O.1 O.2.1 hd  (k H ls locs a1 a2 a3 a4 a5)
theorem g_i2l {x : Int32} (O : OkK κ μ) (hd : decode μ.1 pc = .ok (.i2l, 1)) (hp : pc + 1 = pc') (k : G κ μ cells slots pc' lv (.long x.toInt64 :: st) M) : G κ μ cells slots pc lv (.int x :: st) M := by
  obtain ⟨p, l, e, s, m, args, below, meth, c, z, D, ca, kc, r, M'⟩ := κ
  obtain ⟨cc, nL, own, ret, R, nm⟩ := μ
  intro H ls locs a1 a2 a3 a4 a5
  subst hp
  exact lv_i2l O.1 O.2.1 hd rfl (k H ls locs a1 a2 a3 a4 a5)
theorem g_l2i {x : Int64} (O : OkK κ μ) (hd : decode μ.1 pc = .ok (.l2i, 1)) (hp : pc + 1 = pc') (k : G κ μ cells slots pc' lv (.int x.toInt32 :: st) M) : G κ μ cells slots pc lv (.long x :: st) M := by
  obtain ⟨p, l, e, s, m, args, below, meth, c, z, D, ca, kc, r, M'⟩ := κ
  obtain ⟨cc, nL, own, ret, R, nm⟩ := μ
  intro H ls locs a1 a2 a3 a4 a5
  subst hp
  exact lv_l2i O.1 O.2.1 hd rfl (k H ls locs a1 a2 a3 a4 a5)
theorem g_i2b {x : Int32} (O : OkK κ μ) (hd : decode μ.1 pc = .ok (.i2b, 1)) (hp : pc + 1 = pc') (k : G κ μ cells slots pc' lv (.int x.toInt8.toInt32 :: st) M) : G κ μ cells slots pc lv (.int x :: st) M := by
  obtain ⟨p, l, e, s, m, args, below, meth, c, z, D, ca, kc, r, M'⟩ := κ
  obtain ⟨cc, nL, own, ret, R, nm⟩ := μ
  intro H ls locs a1 a2 a3 a4 a5
  subst hp
  exact lv_i2b O.1 O.2.1 hd rfl (k H ls locs a1 a2 a3 a4 a5)
theorem g_i2c {x : Int32} (O : OkK κ μ) (hd : decode μ.1 pc = .ok (.i2c, 1)) (hp : pc + 1 = pc') (k : G κ μ cells slots pc' lv (.int (x.toUInt32 % 65536).toInt32 :: st) M) : G κ μ cells slots pc lv (.int x :: st) M := by
  obtain ⟨p, l, e, s, m, args, below, meth, c, z, D, ca, kc, r, M'⟩ := κ
  obtain ⟨cc, nL, own, ret, R, nm⟩ := μ
  intro H ls locs a1 a2 a3 a4 a5
  subst hp
  exact lv_i2c O.1 O.2.1 hd rfl (k H ls locs a1 a2 a3 a4 a5)
theorem g_iushr {x y : Int32} (O : OkK κ μ) (hd : decode μ.1 pc = .ok (.iushr, 1)) (hp : pc + 1 = pc') (k : G κ μ cells slots pc' lv (.int (x.toUInt32 >>> (y.toUInt32 &&& Int32.toUInt32 31)).toInt32 :: st) M) : G κ μ cells slots pc lv (.int y :: .int x :: st) M := by
  obtain ⟨p, l, e, s, m, args, below, meth, c, z, D, ca, kc, r, M'⟩ := κ
  obtain ⟨cc, nL, own, ret, R, nm⟩ := μ
  intro H ls locs a1 a2 a3 a4 a5
  subst hp
  exact lv_iushr O.1 O.2.1 hd rfl (k H ls locs a1 a2 a3 a4 a5)
theorem g_lshl {x : Int64} {y : Int32} (O : OkK κ μ) (hd : decode μ.1 pc = .ok (.lshl, 1)) (hp : pc + 1 = pc') (k : G κ μ cells slots pc' lv (.long (x <<< (y.toInt64 &&& 63)) :: st) M) : G κ μ cells slots pc lv (.int y :: .long x :: st) M := by
  obtain ⟨p, l, e, s, m, args, below, meth, c, z, D, ca, kc, r, M'⟩ := κ
  obtain ⟨cc, nL, own, ret, R, nm⟩ := μ
  intro H ls locs a1 a2 a3 a4 a5
  subst hp
  exact lv_lshl O.1 O.2.1 hd rfl (k H ls locs a1 a2 a3 a4 a5)
theorem g_lshr {x : Int64} {y : Int32} (O : OkK κ μ) (hd : decode μ.1 pc = .ok (.lshr, 1)) (hp : pc + 1 = pc') (k : G κ μ cells slots pc' lv (.long (x >>> (y.toInt64 &&& 63)) :: st) M) : G κ μ cells slots pc lv (.int y :: .long x :: st) M := by
  obtain ⟨p, l, e, s, m, args, below, meth, c, z, D, ca, kc, r, M'⟩ := κ
  obtain ⟨cc, nL, own, ret, R, nm⟩ := μ
  intro H ls locs a1 a2 a3 a4 a5
  subst hp
  exact lv_lshr O.1 O.2.1 hd rfl (k H ls locs a1 a2 a3 a4 a5)
theorem g_dup {va : Value} (O : OkK κ μ) (hd : decode μ.1 pc = .ok (.dup, 1)) (hva : va.category = 1) (hp : pc + 1 = pc') (k : G κ μ cells slots pc' lv (va :: va :: st) M) : G κ μ cells slots pc lv (va :: st) M := by
  obtain ⟨p, l, e, s, m, args, below, meth, c, z, D, ca, kc, r, M'⟩ := κ
  obtain ⟨cc, nL, own, ret, R, nm⟩ := μ
  intro H ls locs a1 a2 a3 a4 a5
  subst hp
  exact lv_dup O.1 O.2.1 hd hva (k H ls locs a1 a2 a3 a4 a5)
theorem g_pop {va : Value} (O : OkK κ μ) (hd : decode μ.1 pc = .ok (.pop, 1)) (hva : va.category = 1) (hp : pc + 1 = pc') (k : G κ μ cells slots pc' lv (st) M) : G κ μ cells slots pc lv (va :: st) M := by
  obtain ⟨p, l, e, s, m, args, below, meth, c, z, D, ca, kc, r, M'⟩ := κ
  obtain ⟨cc, nL, own, ret, R, nm⟩ := μ
  intro H ls locs a1 a2 a3 a4 a5
  subst hp
  exact lv_pop O.1 O.2.1 hd hva (k H ls locs a1 a2 a3 a4 a5)
theorem g_dup2 {va vb : Value} (O : OkK κ μ) (hd : decode μ.1 pc = .ok (.dup2, 1)) (hva : va.category = 1) (hvb : vb.category = 1) (hp : pc + 1 = pc') (k : G κ μ cells slots pc' lv (va :: vb :: va :: vb :: st) M) : G κ μ cells slots pc lv (va :: vb :: st) M := by
  obtain ⟨p, l, e, s, m, args, below, meth, c, z, D, ca, kc, r, M'⟩ := κ
  obtain ⟨cc, nL, own, ret, R, nm⟩ := μ
  intro H ls locs a1 a2 a3 a4 a5
  subst hp
  exact lv_dup2_11 O.1 O.2.1 hd hva hvb (k H ls locs a1 a2 a3 a4 a5)
theorem g_null  (O : OkK κ μ) (hd : decode μ.1 pc = .ok (.aconst_null, 1))  (hp : pc + 1 = pc') (k : G κ μ cells slots pc' lv (va_rf none :: st) M) : G κ μ cells slots pc lv (st) M := by
  obtain ⟨p, l, e, s, m, args, below, meth, c, z, D, ca, kc, r, M'⟩ := κ
  obtain ⟨cc, nL, own, ret, R, nm⟩ := μ
  intro H ls locs a1 a2 a3 a4 a5
  subst hp
  exact lv_null O.1 O.2.1 hd  (k H ls locs a1 a2 a3 a4 a5)
theorem g_ldc {idx : Nat} {v : Int32} (O : OkK κ μ) (hd : decode μ.1 pc = .ok (.ldc idx, 2)) (hw : Cond.constant μ.2.2.1 idx v ∈ lw_tbl) (hp : pc + 2 = pc') (k : G κ μ cells slots pc' lv (.int v :: st) M) : G κ μ cells slots pc lv st M := by
  obtain ⟨p, l, e, s, m, args, below, meth, c, z, D, ca, kc, r, M'⟩ := κ
  obtain ⟨cc, nL, own, ret, R, nm⟩ := μ
  intro H ls locs a1 a2 a3 a4 a5
  subst hp
  exact lv_ldc O.1 O.2.1 O.2.2.2.1 (O.2.2.2.2.1 _ hw rfl) hd (k H ls locs a1 a2 a3 a4 a5)
theorem g_ldcw {idx : Nat} {v : Int32} (O : OkK κ μ) (hd : decode μ.1 pc = .ok (.ldc_w idx, 3)) (hw : Cond.constant μ.2.2.1 idx v ∈ lw_tbl) (hp : pc + 3 = pc') (k : G κ μ cells slots pc' lv (.int v :: st) M) : G κ μ cells slots pc lv st M := by
  obtain ⟨p, l, e, s, m, args, below, meth, c, z, D, ca, kc, r, M'⟩ := κ
  obtain ⟨cc, nL, own, ret, R, nm⟩ := μ
  intro H ls locs a1 a2 a3 a4 a5
  subst hp
  exact lv_ldcw O.1 O.2.1 O.2.2.2.1 (O.2.2.2.2.1 _ hw rfl) hd (k H ls locs a1 a2 a3 a4 a5)
theorem g_ldc2 {idx : Nat} {v : Int64} (O : OkK κ μ) (hd : decode μ.1 pc = .ok (.ldc2_w idx, 3)) (hw : Cond.constantLong μ.2.2.1 idx v ∈ lw_tbl) (hp : pc + 3 = pc') (k : G κ μ cells slots pc' lv (.long v :: st) M) : G κ μ cells slots pc lv st M := by
  obtain ⟨p, l, e, s, m, args, below, meth, c, z, D, ca, kc, r, M'⟩ := κ
  obtain ⟨cc, nL, own, ret, R, nm⟩ := μ
  intro H ls locs a1 a2 a3 a4 a5
  subst hp
  exact lv_ldc2 O.1 O.2.1 O.2.2.2.1 (O.2.2.2.2.1 _ hw rfl) hd (k H ls locs a1 a2 a3 a4 a5)
theorem g_ldcS {idx : Nat} {tx : String} (O : OkK κ μ) (hd : decode μ.1 pc = .ok (.ldc idx, 2)) (ho : μ.2.2.1 = RX5) (hw : (idx, tx) ∈ strTbl) (hp : pc + 2 = pc') (k : G κ μ cells slots pc' lv (.ref (M.2.2.1 idx) :: st) M) : G κ μ cells slots pc lv st M := by
  obtain ⟨p, l, e, s, m, args, below, meth, c, z, D, ca, kc, r, M'⟩ := κ
  obtain ⟨cc, nL, own, ret, R, nm⟩ := μ
  intro H ls locs a1 a2 a3 a4 a5
  subst hp
  subst ho
  have h1 := O.2.2.2.2.2.2.2.2.2.1.2.2.2.2.1 _ hw
  rw [← a2] at h1
  exact va_ldcS O.1 O.2.1 O.2.2.2.1 h1 hd (k H ls locs a1 a2 a3 a4 a5)
theorem g_getS0 {idx : Nat} (O : OkK κ μ) (hd : decode μ.1 pc = .ok (.getstatic idx, 3)) (hw : Cond.fieldLink μ.2.2.1 idx RX0 "LENGTHS" "[I" ∈ lw_tbl) (hp : pc + 3 = pc') (k : G κ μ cells slots pc' lv (.ref (M.2.2.1 0) :: st) M) : G κ μ cells slots pc lv st M := by
  obtain ⟨p, l, e, s, m, args, below, meth, c, z, D, ca, kc, r, M'⟩ := κ
  obtain ⟨cc, nL, own, ret, R, nm⟩ := μ
  intro H ls locs a1 a2 a3 a4 a5
  subst hp
  have h1 := O.2.2.2.2.2.2.2.2.2.1.2.2.1
  rw [← a2] at h1
  exact va_gets O.1 O.2.1 h1 a4 O.2.2.2.1 (O.2.2.2.2.1 _ hw rfl) (fun _ h => h) hd (k H ls locs a1 a2 a3 a4 a5)
theorem g_getS1 {idx : Nat} (O : OkK κ μ) (hd : decode μ.1 pc = .ok (.getstatic idx, 3)) (hw : Cond.fieldLink μ.2.2.1 idx RJ0 "COMPACT_STRINGS" "Z" ∈ lw_tbl) (hp : pc + 3 = pc') (k : G κ μ cells slots pc' lv (.int 1 :: st) M) : G κ μ cells slots pc lv st M := by
  obtain ⟨p, l, e, s, m, args, below, meth, c, z, D, ca, kc, r, M'⟩ := κ
  obtain ⟨cc, nL, own, ret, R, nm⟩ := μ
  intro H ls locs a1 a2 a3 a4 a5
  subst hp
  exact va_gets O.1 O.2.1 O.2.2.2.2.2.2.2.2.2.1.2.2.2.1 a4 O.2.2.2.1 (O.2.2.2.2.1 _ hw rfl) (fun _ h => h) hd (k H ls locs a1 a2 a3 a4 a5)
theorem g_getSF {idx : Nat} (O : OkK κ μ) (hd : decode μ.1 pc = .ok (.getstatic idx, 3)) (hw : Cond.fieldLink μ.2.2.1 idx RJ3 "SIOOBE_FORMATTER" "Ljava/util/function/BiFunction;" ∈ lw_tbl) (hp : pc + 3 = pc') (k : ∀ o : Option Nat, G κ μ cells slots pc' lv (va_rf o :: st) M) : G κ μ cells slots pc lv st M := by
  obtain ⟨p, l, e, s, m, args, below, meth, c, z, D, ca, kc, r, M'⟩ := κ
  obtain ⟨cc, nL, own, ret, R, nm⟩ := μ
  intro H ls locs a1 a2 a3 a4 a5
  subst hp
  rcases O.2.2.2.2.2.2.2.2.2.1.2.2.2.2.2.2.2.2 with h1 | ⟨t, h1⟩
  · exact va_gets O.1 O.2.1 h1 a4 O.2.2.2.1 (O.2.2.2.2.1 _ hw rfl) (fun _ h => h) hd (k none H ls locs a1 a2 a3 a4 a5)
  · exact va_gets O.1 O.2.1 h1 a4 O.2.2.2.1 (O.2.2.2.2.1 _ hw rfl) (fun _ h => h) hd (k (some t) H ls locs a1 a2 a3 a4 a5)
theorem g_iload_n {j : Fin 4} {i : Nat} {x : Int32} (q : Nat) (O : OkK κ μ) (hd : decode μ.1 pc = .ok (.iload_n j, 1)) (hi : (j : Nat) = i) (hq : lv[q]? = some (i, .int x)) (hp : pc + 1 = pc') (k : G κ μ cells slots pc' lv (.int x :: st) M) : G κ μ cells slots pc lv st M := by
  obtain ⟨p, l, e, s, m, args, below, meth, c, z, D, ca, kc, r, M'⟩ := κ
  obtain ⟨cc, nL, own, ret, R, nm⟩ := μ
  intro H ls locs a1 a2 a3 a4 a5
  subst hp
  exact lv_iload_n O.1 O.2.1 hd hi (lv_at a5 q hq) (k H ls locs a1 a2 a3 a4 a5)
theorem g_iload {i : Nat} {x : Int32} (q : Nat) (O : OkK κ μ) (hd : decode μ.1 pc = .ok (.iload i, 2)) (hq : lv[q]? = some (i, .int x)) (hp : pc + 2 = pc') (k : G κ μ cells slots pc' lv (.int x :: st) M) : G κ μ cells slots pc lv st M := by
  obtain ⟨p, l, e, s, m, args, below, meth, c, z, D, ca, kc, r, M'⟩ := κ
  obtain ⟨cc, nL, own, ret, R, nm⟩ := μ
  intro H ls locs a1 a2 a3 a4 a5
  subst hp
  exact lv_iload O.1 O.2.1 hd (lv_at a5 q hq) (k H ls locs a1 a2 a3 a4 a5)
theorem g_istore_n {j : Fin 4} {i : Nat} {x : Int32} (O : OkK κ μ) (hd : decode μ.1 pc = .ok (.istore_n j, 1)) (hi : (j : Nat) = i) (hn : i < μ.2.1) (hl : (i, Value.int x) :: lv.filter (fun q => !(q.1 == i) && !(q.1 + 1 == i && q.2.category == 2)) = lv') (hp : pc + 1 = pc') (k : G κ μ cells slots pc' lv' st M) : G κ μ cells slots pc lv (.int x :: st) M := by
  obtain ⟨p, l, e, s, m, args, below, meth, c, z, D, ca, kc, r, M'⟩ := κ
  obtain ⟨cc, nL, own, ret, R, nm⟩ := μ
  intro H ls locs a1 a2 a3 a4 a5
  subst hp
  exact lv_istore_n O.1 O.2.1 hd hi a5 hn hl (fun ls' h' => k H ls' locs a1 a2 a3 a4 h')
theorem g_istore {i : Nat} {x : Int32} (O : OkK κ μ) (hd : decode μ.1 pc = .ok (.istore i, 2)) (hn : i < μ.2.1) (hl : (i, Value.int x) :: lv.filter (fun q => !(q.1 == i) && !(q.1 + 1 == i && q.2.category == 2)) = lv') (hp : pc + 2 = pc') (k : G κ μ cells slots pc' lv' st M) : G κ μ cells slots pc lv (.int x :: st) M := by
  obtain ⟨p, l, e, s, m, args, below, meth, c, z, D, ca, kc, r, M'⟩ := κ
  obtain ⟨cc, nL, own, ret, R, nm⟩ := μ
  intro H ls locs a1 a2 a3 a4 a5
  subst hp
  exact lv_istore O.1 O.2.1 hd a5 hn hl (fun ls' h' => k H ls' locs a1 a2 a3 a4 h')
theorem g_lload_n {j : Fin 4} {i : Nat} {x : Int64} (q : Nat) (O : OkK κ μ) (hd : decode μ.1 pc = .ok (.lload_n j, 1)) (hi : (j : Nat) = i) (hq : lv[q]? = some (i, .long x)) (hp : pc + 1 = pc') (k : G κ μ cells slots pc' lv (.long x :: st) M) : G κ μ cells slots pc lv st M := by
  obtain ⟨p, l, e, s, m, args, below, meth, c, z, D, ca, kc, r, M'⟩ := κ
  obtain ⟨cc, nL, own, ret, R, nm⟩ := μ
  intro H ls locs a1 a2 a3 a4 a5
  subst hp
  exact lv_lload_n O.1 O.2.1 hd hi (lv_at a5 q hq) (k H ls locs a1 a2 a3 a4 a5)
theorem g_lload {i : Nat} {x : Int64} (q : Nat) (O : OkK κ μ) (hd : decode μ.1 pc = .ok (.lload i, 2)) (hq : lv[q]? = some (i, .long x)) (hp : pc + 2 = pc') (k : G κ μ cells slots pc' lv (.long x :: st) M) : G κ μ cells slots pc lv st M := by
  obtain ⟨p, l, e, s, m, args, below, meth, c, z, D, ca, kc, r, M'⟩ := κ
  obtain ⟨cc, nL, own, ret, R, nm⟩ := μ
  intro H ls locs a1 a2 a3 a4 a5
  subst hp
  exact lv_lload O.1 O.2.1 hd (lv_at a5 q hq) (k H ls locs a1 a2 a3 a4 a5)
theorem g_lstore_n {j : Fin 4} {i : Nat} {x : Int64} (O : OkK κ μ) (hd : decode μ.1 pc = .ok (.lstore_n j, 1)) (hi : (j : Nat) = i) (hn : i + 1 < μ.2.1) (hl : (i, Value.long x) :: lv.filter (fun q => !(q.1 == i) && (!(q.1 == i + 1) && !(q.1 + 1 == i && q.2.category == 2))) = lv') (hp : pc + 1 = pc') (k : G κ μ cells slots pc' lv' st M) : G κ μ cells slots pc lv (.long x :: st) M := by
  obtain ⟨p, l, e, s, m, args, below, meth, c, z, D, ca, kc, r, M'⟩ := κ
  obtain ⟨cc, nL, own, ret, R, nm⟩ := μ
  intro H ls locs a1 a2 a3 a4 a5
  subst hp
  exact lv_lstore_n O.1 O.2.1 hd hi a5 hn hl (fun ls' h' => k H ls' locs a1 a2 a3 a4 h')
theorem g_lstore {i : Nat} {x : Int64} (O : OkK κ μ) (hd : decode μ.1 pc = .ok (.lstore i, 2)) (hn : i + 1 < μ.2.1) (hl : (i, Value.long x) :: lv.filter (fun q => !(q.1 == i) && (!(q.1 == i + 1) && !(q.1 + 1 == i && q.2.category == 2))) = lv') (hp : pc + 2 = pc') (k : G κ μ cells slots pc' lv' st M) : G κ μ cells slots pc lv (.long x :: st) M := by
  obtain ⟨p, l, e, s, m, args, below, meth, c, z, D, ca, kc, r, M'⟩ := κ
  obtain ⟨cc, nL, own, ret, R, nm⟩ := μ
  intro H ls locs a1 a2 a3 a4 a5
  subst hp
  exact lv_lstore O.1 O.2.1 hd a5 hn hl (fun ls' h' => k H ls' locs a1 a2 a3 a4 h')
theorem g_aload_n {j : Fin 4} {i : Nat} {x : Nat} (q : Nat) (O : OkK κ μ) (hd : decode μ.1 pc = .ok (.aload_n j, 1)) (hi : (j : Nat) = i) (hq : lv[q]? = some (i, .ref x)) (hp : pc + 1 = pc') (k : G κ μ cells slots pc' lv (.ref x :: st) M) : G κ μ cells slots pc lv st M := by
  obtain ⟨p, l, e, s, m, args, below, meth, c, z, D, ca, kc, r, M'⟩ := κ
  obtain ⟨cc, nL, own, ret, R, nm⟩ := μ
  intro H ls locs a1 a2 a3 a4 a5
  subst hp
  exact lv_aload_n O.1 O.2.1 hd hi (lv_at a5 q hq) (k H ls locs a1 a2 a3 a4 a5)
theorem g_aload {i : Nat} {x : Nat} (q : Nat) (O : OkK κ μ) (hd : decode μ.1 pc = .ok (.aload i, 2)) (hq : lv[q]? = some (i, .ref x)) (hp : pc + 2 = pc') (k : G κ μ cells slots pc' lv (.ref x :: st) M) : G κ μ cells slots pc lv st M := by
  obtain ⟨p, l, e, s, m, args, below, meth, c, z, D, ca, kc, r, M'⟩ := κ
  obtain ⟨cc, nL, own, ret, R, nm⟩ := μ
  intro H ls locs a1 a2 a3 a4 a5
  subst hp
  exact lv_aload O.1 O.2.1 hd (lv_at a5 q hq) (k H ls locs a1 a2 a3 a4 a5)
theorem g_astore_n {j : Fin 4} {i : Nat} {x : Nat} (O : OkK κ μ) (hd : decode μ.1 pc = .ok (.astore_n j, 1)) (hi : (j : Nat) = i) (hn : i < μ.2.1) (hl : (i, Value.ref x) :: lv.filter (fun q => !(q.1 == i) && !(q.1 + 1 == i && q.2.category == 2)) = lv') (hp : pc + 1 = pc') (k : G κ μ cells slots pc' lv' st M) : G κ μ cells slots pc lv (.ref x :: st) M := by
  obtain ⟨p, l, e, s, m, args, below, meth, c, z, D, ca, kc, r, M'⟩ := κ
  obtain ⟨cc, nL, own, ret, R, nm⟩ := μ
  intro H ls locs a1 a2 a3 a4 a5
  subst hp
  exact lv_astore_n O.1 O.2.1 hd hi a5 hn hl (fun ls' h' => k H ls' locs a1 a2 a3 a4 h')
theorem g_astore {i : Nat} {x : Nat} (O : OkK κ μ) (hd : decode μ.1 pc = .ok (.astore i, 2)) (hn : i < μ.2.1) (hl : (i, Value.ref x) :: lv.filter (fun q => !(q.1 == i) && !(q.1 + 1 == i && q.2.category == 2)) = lv') (hp : pc + 2 = pc') (k : G κ μ cells slots pc' lv' st M) : G κ μ cells slots pc lv (.ref x :: st) M := by
  obtain ⟨p, l, e, s, m, args, below, meth, c, z, D, ca, kc, r, M'⟩ := κ
  obtain ⟨cc, nL, own, ret, R, nm⟩ := μ
  intro H ls locs a1 a2 a3 a4 a5
  subst hp
  exact lv_astore O.1 O.2.1 hd a5 hn hl (fun ls' h' => k H ls' locs a1 a2 a3 a4 h')
theorem g_aloadO_n {j : Fin 4} {i : Nat} {x : Option Nat} (q : Nat) (O : OkK κ μ) (hd : decode μ.1 pc = .ok (.aload_n j, 1)) (hi : (j : Nat) = i) (hq : lv[q]? = some (i, va_rf x)) (hp : pc + 1 = pc') (k : G κ μ cells slots pc' lv (va_rf x :: st) M) : G κ μ cells slots pc lv st M := by
  obtain ⟨p, l, e, s, m, args, below, meth, c, z, D, ca, kc, r, M'⟩ := κ
  obtain ⟨cc, nL, own, ret, R, nm⟩ := μ
  intro H ls locs a1 a2 a3 a4 a5
  subst hp
  cases x with
  | none => exact lv_aload_nN O.1 O.2.1 hd hi (lv_at a5 q hq) (k H ls locs a1 a2 a3 a4 a5)
  | some x => exact lv_aload_n O.1 O.2.1 hd hi (lv_at a5 q hq) (k H ls locs a1 a2 a3 a4 a5)
theorem g_aloadO {i : Nat} {x : Option Nat} (q : Nat) (O : OkK κ μ) (hd : decode μ.1 pc = .ok (.aload i, 2)) (hq : lv[q]? = some (i, va_rf x)) (hp : pc + 2 = pc') (k : G κ μ cells slots pc' lv (va_rf x :: st) M) : G κ μ cells slots pc lv st M := by
  obtain ⟨p, l, e, s, m, args, below, meth, c, z, D, ca, kc, r, M'⟩ := κ
  obtain ⟨cc, nL, own, ret, R, nm⟩ := μ
  intro H ls locs a1 a2 a3 a4 a5
  subst hp
  cases x with
  | none => exact lv_aloadN O.1 O.2.1 hd (lv_at a5 q hq) (k H ls locs a1 a2 a3 a4 a5)
  | some x => exact lv_aload O.1 O.2.1 hd (lv_at a5 q hq) (k H ls locs a1 a2 a3 a4 a5)
theorem g_astoreO_n {j : Fin 4} {i : Nat} {x : Option Nat} (O : OkK κ μ) (hd : decode μ.1 pc = .ok (.astore_n j, 1)) (hi : (j : Nat) = i) (hn : i < μ.2.1) (hl : (i, va_rf x) :: lv.filter (fun q => !(q.1 == i) && !(q.1 + 1 == i && q.2.category == 2)) = lv') (hp : pc + 1 = pc') (k : G κ μ cells slots pc' lv' st M) : G κ μ cells slots pc lv (va_rf x :: st) M := by
  obtain ⟨p, l, e, s, m, args, below, meth, c, z, D, ca, kc, r, M'⟩ := κ
  obtain ⟨cc, nL, own, ret, R, nm⟩ := μ
  intro H ls locs a1 a2 a3 a4 a5
  subst hp
  cases x with
  | none => exact lv_astore_nN O.1 O.2.1 hd hi a5 hn hl (fun ls' h' => k H ls' locs a1 a2 a3 a4 h')
  | some x => exact lv_astore_n O.1 O.2.1 hd hi a5 hn hl (fun ls' h' => k H ls' locs a1 a2 a3 a4 h')
theorem g_astoreO {i : Nat} {x : Option Nat} (O : OkK κ μ) (hd : decode μ.1 pc = .ok (.astore i, 2)) (hn : i < μ.2.1) (hl : (i, va_rf x) :: lv.filter (fun q => !(q.1 == i) && !(q.1 + 1 == i && q.2.category == 2)) = lv') (hp : pc + 2 = pc') (k : G κ μ cells slots pc' lv' st M) : G κ μ cells slots pc lv (va_rf x :: st) M := by
  obtain ⟨p, l, e, s, m, args, below, meth, c, z, D, ca, kc, r, M'⟩ := κ
  obtain ⟨cc, nL, own, ret, R, nm⟩ := μ
  intro H ls locs a1 a2 a3 a4 a5
  subst hp
  cases x with
  | none => exact lv_astoreN O.1 O.2.1 hd a5 hn hl (fun ls' h' => k H ls' locs a1 a2 a3 a4 h')
  | some x => exact lv_astore O.1 O.2.1 hd a5 hn hl (fun ls' h' => k H ls' locs a1 a2 a3 a4 h')
theorem g_iinc {i q : Nat} {n : Int} {x v : Int32} (O : OkK κ μ) (hd : decode μ.1 pc = .ok (.iinc i n, 3)) (hq : lv[q]? = some (i, .int x)) (hv : x + Int32.ofInt n = v) (hn : i < μ.2.1) (hl : (i, Value.int v) :: lv.filter (fun q => !(q.1 == i) && !(q.1 + 1 == i && q.2.category == 2)) = lv') (hp : pc + 3 = pc') (k : G κ μ cells slots pc' lv' st M) : G κ μ cells slots pc lv st M := by
  obtain ⟨p, l, e, s, m, args, below, meth, c, z, D, ca, kc, r, M'⟩ := κ
  obtain ⟨cc, nL, own, ret, R, nm⟩ := μ
  intro H ls locs a1 a2 a3 a4 a5
  subst hp
  exact lv_iinc O.1 O.2.1 hd a5 hq hv hn hl (fun ls' h' => k H ls' locs a1 a2 a3 a4 h')
theorem g_sub (ks : List Nat) (hl : lv_pick lv ks = lv') (k : G κ μ cells slots pc lv' st M) : G κ μ cells slots pc lv st M := by
  obtain ⟨p, l, e, s, m, args, below, meth, c, z, D, ca, kc, r, M'⟩ := κ
  obtain ⟨cc, nL, own, ret, R, nm⟩ := μ
  intro H ls locs a1 a2 a3 a4 a5
  exact k H ls locs a1 a2 a3 a4 (lv_sub a5 ks hl)
theorem g_widen {c2 s2 : Nat} (h1 : cells ≤ c2) (h2 : slots ≤ s2) (k : G κ μ c2 s2 pc lv st M) : G κ μ cells slots pc lv st M := by
  obtain ⟨p, l, e, s, m, args, below, meth, c, z, D, ca, kc, r, M'⟩ := κ
  obtain ⟨cc, nL, own, ret, R, nm⟩ := μ
  intro H ls locs a1 a2 a3 a4 a5
  exact W.widen h1 h2 (k H ls locs a1 a2 a3 a4 a5)
theorem g_goto {off : Int} (O : OkK κ μ) (hd : decode μ.1 pc = .ok (.goto off, 3)) (ht : (pc : Int) + off = (pc' : Int)) (k : G κ μ cells slots pc' lv st M) : G κ μ cells slots pc lv st M := by
  obtain ⟨p, l, e, s, m, args, below, meth, c, z, D, ca, kc, r, M'⟩ := κ
  obtain ⟨cc, nL, own, ret, R, nm⟩ := μ
  intro H ls locs a1 a2 a3 a4 a5
  exact lv_goto O.1 O.2.1 hd ht (k H ls locs a1 a2 a3 a4 a5)
theorem g_ifnull {off : Int} {x : Option Nat} {tgt : Nat} (O : OkK κ μ) (hd : decode μ.1 pc = .ok (.ifnull off, 3)) (ht : (pc : Int) + off = (tgt : Int)) (hp : pc + 3 = pc') (kt : x = none → G κ μ cells slots tgt lv st M) (kf : ∀ a, x = some a → G κ μ cells slots pc' lv st M) : G κ μ cells slots pc lv (va_rf x :: st) M := by
  obtain ⟨p, l, e, s, m, args, below, meth, c, z, D, ca, kc, r, M'⟩ := κ
  obtain ⟨cc, nL, own, ret, R, nm⟩ := μ
  intro H ls locs a1 a2 a3 a4 a5
  subst hp
  cases x with
  | none => exact lv_ifnullN O.1 O.2.1 hd ht (kt rfl H ls locs a1 a2 a3 a4 a5)
  | some x => exact lv_ifnull O.1 O.2.1 hd (kf x rfl H ls locs a1 a2 a3 a4 a5)
theorem g_ifnonnull {off : Int} {x : Option Nat} {tgt : Nat} (O : OkK κ μ) (hd : decode μ.1 pc = .ok (.ifnonnull off, 3)) (ht : (pc : Int) + off = (tgt : Int)) (hp : pc + 3 = pc') (kt : ∀ a, x = some a → G κ μ cells slots tgt lv st M) (kf : x = none → G κ μ cells slots pc' lv st M) : G κ μ cells slots pc lv (va_rf x :: st) M := by
  obtain ⟨p, l, e, s, m, args, below, meth, c, z, D, ca, kc, r, M'⟩ := κ
  obtain ⟨cc, nL, own, ret, R, nm⟩ := μ
  intro H ls locs a1 a2 a3 a4 a5
  subst hp
  cases x with
  | none => exact lv_ifnonnullN O.1 O.2.1 hd (kf rfl H ls locs a1 a2 a3 a4 a5)
  | some x => exact lv_ifnonnull O.1 O.2.1 hd ht (kt x rfl H ls locs a1 a2 a3 a4 a5)
theorem g_tableOut {dflt lo hi : Int} {offs : Array Int} {len : Nat} {x : Int32} (O : OkK κ μ) (hd : decode μ.1 pc = .ok (.tableswitch dflt lo hi offs, len)) (h : x.toInt < lo ∨ hi < x.toInt) (ht : (pc : Int) + dflt = (pc' : Int)) (k : G κ μ cells slots pc' lv st M) : G κ μ cells slots pc lv (.int x :: st) M := by
  obtain ⟨p, l, e, s, m, args, below, meth, c, z, D, ca, kc, r, M'⟩ := κ
  obtain ⟨cc, nL, own, ret, R, nm⟩ := μ
  intro H ls locs a1 a2 a3 a4 a5
  exact lv_tableOut O.1 O.2.1 hd h ht (k H ls locs a1 a2 a3 a4 a5)
theorem g_tableIn {dflt lo hi : Int} {offs : Array Int} {len : Nat} {x : Int32} {off : Int} (O : OkK κ μ) (hd : decode μ.1 pc = .ok (.tableswitch dflt lo hi offs, len)) (h1 : ¬ x.toInt < lo) (h2 : ¬ hi < x.toInt) (ho : offs[(x.toInt - lo).toNat]? = some off) (ht : (pc : Int) + off = (pc' : Int)) (k : G κ μ cells slots pc' lv st M) : G κ μ cells slots pc lv (.int x :: st) M := by
  obtain ⟨p, l, e, s, m, args, below, meth, c, z, D, ca, kc, r, M'⟩ := κ
  obtain ⟨cc, nL, own, ret, R, nm⟩ := μ
  intro H ls locs a1 a2 a3 a4 a5
  exact lv_tableIn O.1 O.2.1 hd h1 h2 ho ht (k H ls locs a1 a2 a3 a4 a5)
theorem g_if_eq {x : Int32} {off : Int} {tgt : Nat} (O : OkK κ μ) (hd : decode μ.1 pc = .ok (.ifCond .eq off, 3)) (ht : (pc : Int) + off = (tgt : Int)) (hp : pc + 3 = pc') (kt : x = 0 → G κ μ cells slots tgt lv st M) (kf : ¬ x = 0 → G κ μ cells slots pc' lv st M) : G κ μ cells slots pc lv (.int x :: st) M := by
  obtain ⟨p, l, e, s, m, args, below, meth, c, z, D, ca, kc, r, M'⟩ := κ
  obtain ⟨cc, nL, own, ret, R, nm⟩ := μ
  intro H ls locs a1 a2 a3 a4 a5
  subst hp
  exact lv_if_eq O.1 O.2.1 hd ht (fun q => kt q H ls locs a1 a2 a3 a4 a5) (fun q => kf q H ls locs a1 a2 a3 a4 a5)
theorem g_icmp_eq {x y : Int32} {off : Int} {tgt : Nat} (O : OkK κ μ) (hd : decode μ.1 pc = .ok (.if_icmp .eq off, 3)) (ht : (pc : Int) + off = (tgt : Int)) (hp : pc + 3 = pc') (kt : x = y → G κ μ cells slots tgt lv st M) (kf : ¬ x = y → G κ μ cells slots pc' lv st M) : G κ μ cells slots pc lv (.int y :: .int x :: st) M := by
  obtain ⟨p, l, e, s, m, args, below, meth, c, z, D, ca, kc, r, M'⟩ := κ
  obtain ⟨cc, nL, own, ret, R, nm⟩ := μ
  intro H ls locs a1 a2 a3 a4 a5
  subst hp
  exact lv_icmp_eq O.1 O.2.1 hd ht (fun q => kt q H ls locs a1 a2 a3 a4 a5) (fun q => kf q H ls locs a1 a2 a3 a4 a5)
theorem g_if_ne {x : Int32} {off : Int} {tgt : Nat} (O : OkK κ μ) (hd : decode μ.1 pc = .ok (.ifCond .ne off, 3)) (ht : (pc : Int) + off = (tgt : Int)) (hp : pc + 3 = pc') (kt : ¬ x = 0 → G κ μ cells slots tgt lv st M) (kf : x = 0 → G κ μ cells slots pc' lv st M) : G κ μ cells slots pc lv (.int x :: st) M := by
  obtain ⟨p, l, e, s, m, args, below, meth, c, z, D, ca, kc, r, M'⟩ := κ
  obtain ⟨cc, nL, own, ret, R, nm⟩ := μ
  intro H ls locs a1 a2 a3 a4 a5
  subst hp
  exact lv_if_ne O.1 O.2.1 hd ht (fun q => kt q H ls locs a1 a2 a3 a4 a5) (fun q => kf q H ls locs a1 a2 a3 a4 a5)
theorem g_icmp_ne {x y : Int32} {off : Int} {tgt : Nat} (O : OkK κ μ) (hd : decode μ.1 pc = .ok (.if_icmp .ne off, 3)) (ht : (pc : Int) + off = (tgt : Int)) (hp : pc + 3 = pc') (kt : ¬ x = y → G κ μ cells slots tgt lv st M) (kf : x = y → G κ μ cells slots pc' lv st M) : G κ μ cells slots pc lv (.int y :: .int x :: st) M := by
  obtain ⟨p, l, e, s, m, args, below, meth, c, z, D, ca, kc, r, M'⟩ := κ
  obtain ⟨cc, nL, own, ret, R, nm⟩ := μ
  intro H ls locs a1 a2 a3 a4 a5
  subst hp
  exact lv_icmp_ne O.1 O.2.1 hd ht (fun q => kt q H ls locs a1 a2 a3 a4 a5) (fun q => kf q H ls locs a1 a2 a3 a4 a5)
theorem g_if_lt {x : Int32} {off : Int} {tgt : Nat} (O : OkK κ μ) (hd : decode μ.1 pc = .ok (.ifCond .lt off, 3)) (ht : (pc : Int) + off = (tgt : Int)) (hp : pc + 3 = pc') (kt : x < 0 → G κ μ cells slots tgt lv st M) (kf : ¬ x < 0 → G κ μ cells slots pc' lv st M) : G κ μ cells slots pc lv (.int x :: st) M := by
  obtain ⟨p, l, e, s, m, args, below, meth, c, z, D, ca, kc, r, M'⟩ := κ
  obtain ⟨cc, nL, own, ret, R, nm⟩ := μ
  intro H ls locs a1 a2 a3 a4 a5
  subst hp
  exact lv_if_lt O.1 O.2.1 hd ht (fun q => kt q H ls locs a1 a2 a3 a4 a5) (fun q => kf q H ls locs a1 a2 a3 a4 a5)
theorem g_icmp_lt {x y : Int32} {off : Int} {tgt : Nat} (O : OkK κ μ) (hd : decode μ.1 pc = .ok (.if_icmp .lt off, 3)) (ht : (pc : Int) + off = (tgt : Int)) (hp : pc + 3 = pc') (kt : x < y → G κ μ cells slots tgt lv st M) (kf : ¬ x < y → G κ μ cells slots pc' lv st M) : G κ μ cells slots pc lv (.int y :: .int x :: st) M := by
  obtain ⟨p, l, e, s, m, args, below, meth, c, z, D, ca, kc, r, M'⟩ := κ
  obtain ⟨cc, nL, own, ret, R, nm⟩ := μ
  intro H ls locs a1 a2 a3 a4 a5
  subst hp
  exact lv_icmp_lt O.1 O.2.1 hd ht (fun q => kt q H ls locs a1 a2 a3 a4 a5) (fun q => kf q H ls locs a1 a2 a3 a4 a5)
theorem g_if_ge {x : Int32} {off : Int} {tgt : Nat} (O : OkK κ μ) (hd : decode μ.1 pc = .ok (.ifCond .ge off, 3)) (ht : (pc : Int) + off = (tgt : Int)) (hp : pc + 3 = pc') (kt : 0 ≤ x → G κ μ cells slots tgt lv st M) (kf : ¬ 0 ≤ x → G κ μ cells slots pc' lv st M) : G κ μ cells slots pc lv (.int x :: st) M := by
  obtain ⟨p, l, e, s, m, args, below, meth, c, z, D, ca, kc, r, M'⟩ := κ
  obtain ⟨cc, nL, own, ret, R, nm⟩ := μ
  intro H ls locs a1 a2 a3 a4 a5
  subst hp
  exact lv_if_ge O.1 O.2.1 hd ht (fun q => kt q H ls locs a1 a2 a3 a4 a5) (fun q => kf q H ls locs a1 a2 a3 a4 a5)
theorem g_icmp_ge {x y : Int32} {off : Int} {tgt : Nat} (O : OkK κ μ) (hd : decode μ.1 pc = .ok (.if_icmp .ge off, 3)) (ht : (pc : Int) + off = (tgt : Int)) (hp : pc + 3 = pc') (kt : y ≤ x → G κ μ cells slots tgt lv st M) (kf : ¬ y ≤ x → G κ μ cells slots pc' lv st M) : G κ μ cells slots pc lv (.int y :: .int x :: st) M := by
  obtain ⟨p, l, e, s, m, args, below, meth, c, z, D, ca, kc, r, M'⟩ := κ
  obtain ⟨cc, nL, own, ret, R, nm⟩ := μ
  intro H ls locs a1 a2 a3 a4 a5
  subst hp
  exact lv_icmp_ge O.1 O.2.1 hd ht (fun q => kt q H ls locs a1 a2 a3 a4 a5) (fun q => kf q H ls locs a1 a2 a3 a4 a5)
theorem g_if_gt {x : Int32} {off : Int} {tgt : Nat} (O : OkK κ μ) (hd : decode μ.1 pc = .ok (.ifCond .gt off, 3)) (ht : (pc : Int) + off = (tgt : Int)) (hp : pc + 3 = pc') (kt : 0 < x → G κ μ cells slots tgt lv st M) (kf : ¬ 0 < x → G κ μ cells slots pc' lv st M) : G κ μ cells slots pc lv (.int x :: st) M := by
  obtain ⟨p, l, e, s, m, args, below, meth, c, z, D, ca, kc, r, M'⟩ := κ
  obtain ⟨cc, nL, own, ret, R, nm⟩ := μ
  intro H ls locs a1 a2 a3 a4 a5
  subst hp
  exact lv_if_gt O.1 O.2.1 hd ht (fun q => kt q H ls locs a1 a2 a3 a4 a5) (fun q => kf q H ls locs a1 a2 a3 a4 a5)
theorem g_icmp_gt {x y : Int32} {off : Int} {tgt : Nat} (O : OkK κ μ) (hd : decode μ.1 pc = .ok (.if_icmp .gt off, 3)) (ht : (pc : Int) + off = (tgt : Int)) (hp : pc + 3 = pc') (kt : y < x → G κ μ cells slots tgt lv st M) (kf : ¬ y < x → G κ μ cells slots pc' lv st M) : G κ μ cells slots pc lv (.int y :: .int x :: st) M := by
  obtain ⟨p, l, e, s, m, args, below, meth, c, z, D, ca, kc, r, M'⟩ := κ
  obtain ⟨cc, nL, own, ret, R, nm⟩ := μ
  intro H ls locs a1 a2 a3 a4 a5
  subst hp
  exact lv_icmp_gt O.1 O.2.1 hd ht (fun q => kt q H ls locs a1 a2 a3 a4 a5) (fun q => kf q H ls locs a1 a2 a3 a4 a5)
theorem g_if_le {x : Int32} {off : Int} {tgt : Nat} (O : OkK κ μ) (hd : decode μ.1 pc = .ok (.ifCond .le off, 3)) (ht : (pc : Int) + off = (tgt : Int)) (hp : pc + 3 = pc') (kt : x ≤ 0 → G κ μ cells slots tgt lv st M) (kf : ¬ x ≤ 0 → G κ μ cells slots pc' lv st M) : G κ μ cells slots pc lv (.int x :: st) M := by
  obtain ⟨p, l, e, s, m, args, below, meth, c, z, D, ca, kc, r, M'⟩ := κ
  obtain ⟨cc, nL, own, ret, R, nm⟩ := μ
  intro H ls locs a1 a2 a3 a4 a5
  subst hp
  exact lv_if_le O.1 O.2.1 hd ht (fun q => kt q H ls locs a1 a2 a3 a4 a5) (fun q => kf q H ls locs a1 a2 a3 a4 a5)
theorem g_icmp_le {x y : Int32} {off : Int} {tgt : Nat} (O : OkK κ μ) (hd : decode μ.1 pc = .ok (.if_icmp .le off, 3)) (ht : (pc : Int) + off = (tgt : Int)) (hp : pc + 3 = pc') (kt : x ≤ y → G κ μ cells slots tgt lv st M) (kf : ¬ x ≤ y → G κ μ cells slots pc' lv st M) : G κ μ cells slots pc lv (.int y :: .int x :: st) M := by
  obtain ⟨p, l, e, s, m, args, below, meth, c, z, D, ca, kc, r, M'⟩ := κ
  obtain ⟨cc, nL, own, ret, R, nm⟩ := μ
  intro H ls locs a1 a2 a3 a4 a5
  subst hp
  exact lv_icmp_le O.1 O.2.1 hd ht (fun q => kt q H ls locs a1 a2 a3 a4 a5) (fun q => kf q H ls locs a1 a2 a3 a4 a5)
end ROWS
