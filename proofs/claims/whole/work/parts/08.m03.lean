abbrev mX2_read : MD := (cX2_read, 6, RX2, (some .int), { frames := 4, cells := 0, slots := 0, locals := 93 }, "read")
theorem hyX2_read : yX2_read.cls ≠ "java/lang/invoke/MethodHandle" ∧ yX2_read.cls ≠ "java/lang/invoke/VarHandle" ∧ (parseMethodDescriptor yX2_read.desc).map (fun d => d.parameters.length) = some 5 := by decide +kernel
def fX2_read_71  (x0 : Nat) (M : Mem) : Option (Int32 × Mem) :=
  (gI M 1 x0 3).bind fun v1 =>
  some (v1, M)
set_option maxHeartbeats 4000000 in
set_option maxRecDepth 100000 in
theorem tX2_read_71 {κ : KT} {p : Int32 × Mem} (O : OkK κ mX2_read) (hf : κ.2.2.2.2.2.2.2.2.2.2.2.2.2 = (some (.int p.1), p.2))  {x0 : Nat} {M : Mem} (h : fX2_read_71  x0 M = some p) : G κ mX2_read 0 0 71 [(0, .ref x0)] [] M := by
  unfold fX2_read_71 at h
  refine g_aload_n (pc' := 72) 0 O dX2_read_71 rfl rfl rfl ?_
  replace h := ob h; obtain ⟨v1, ev1, h⟩ := h
  refine g_getF (C := RX2) (T := TX2) (N := 9) (ci := 1) (k := 3) (pc' := 75) O dX2_read_72 rfl inX2 (by decide) tw_149 (gI_F ev1) rfl ?_
  cases h
  exact g_ireturn O dX2_read_75 rfl rfl hf (by decide) (by decide)
def fX2_read_68  (x0 : Nat) (s0 : Int32) (s1 : Nat) (s2 : Nat) (M : Mem) : Option (Int32 × Mem) :=
  (ck M 1 s2).bind fun u1 =>
  (fX2_readAmount s2 s1 s0 M).bind fun r2 =>
  fX2_read_71 x0 r2
set_option maxHeartbeats 4000000 in
set_option maxRecDepth 100000 in
theorem tX2_read_68 {κ : KT} {p : Int32 × Mem} (O : OkK κ mX2_read) (hf : κ.2.2.2.2.2.2.2.2.2.2.2.2.2 = (some (.int p.1), p.2))  {x0 : Nat} {s0 : Int32} {s1 : Nat} {s2 : Nat} {M : Mem} (h : fX2_read_68  x0 s0 s1 s2 M = some p) : G κ mX2_read 0 0 68 [(0, .ref x0)] [.int s0, .ref s1, .ref s2] M := by
  unfold fX2_read_68 at h
  replace h := ob h; obtain ⟨u1, eu1, h⟩ := h
  replace h := ob h; obtain ⟨r2, er2, h⟩ := h
  refine g_callV (y := yX2_readAmount) (ν := mX2_readAmount) (n := 2) (As := [.ref s1, .int s0]) (b := s2) (st := []) (M2 := r2) (r1 := none) (pc' := 71) O dX2_read_68 tw_387 tw_57 tw_386 tw_11 tw_384 hyX2_readAmount rfl rfl eu1 (okX2_readAmount er2) (Nat.le_of_ble_eq_true rfl) ⟨Nat.le_of_ble_eq_true rfl, Nat.le_of_ble_eq_true rfl⟩ ⟨Nat.le_of_ble_eq_true rfl, Nat.le_of_ble_eq_true rfl⟩ rfl ?_
  show G κ mX2_read 0 0 71 [(0, .ref x0)] [] r2
  exact tX2_read_71 O hf h
def fX2_read  (this : Nat) (p0 : Nat) (p1 : Int32) (p2 : Int32) (p3 : Nat) (p4 : Int32) (M : Mem) : Option (Int32 × Mem) :=
  (pF M 1 this 0 (.ref p0)).bind fun M1 =>
  (fJ9_max_7cf53 p1 (0 : Int32) M1).bind fun r2 =>
  (pF r2.2 1 this 1 (.int r2.1)).bind fun M3 =>
  (aN M3 p0).bind fun v4 =>
  (fJ9_min_7cf53 p2 v4 M3).bind fun r5 =>
  (pF r5.2 1 this 2 (.int r5.1)).bind fun M6 =>
  (pF M6 1 this 3 (.int (0 : Int32))).bind fun M7 =>
  (pF M7 1 this 4 (.long (0 : Int64))).bind fun M8 =>
  (pF M8 1 this 5 (.long (0 : Int64))).bind fun M9 =>
  if p4 = (2 : Int32) then ((ck M9 1 this).bind fun u10 =>
  (fX2_readDay this p3 M9).bind fun r11 =>
  fX2_read_71 this r11)
  else (if p4 = (1 : Int32) then (fX2_read_68 this (1 : Int32) p3 this M9)
  else (fX2_read_68 this (0 : Int32) p3 this M9))
set_option maxHeartbeats 4000000 in
set_option maxRecDepth 100000 in
theorem okX2_read {l : Launch} {p : Int32 × Mem} {this : Nat} {p0 : Nat} {p1 : Int32} {p2 : Int32} {p3 : Nat} {p4 : Int32} {M : Mem} (h : fX2_read this p0 p1 p2 p3 p4 M = some p) : Cn l yX2_read mX2_read [.ref this, .ref p0, .int p1, .int p2, .ref p3, .int p4] M (some (.int p.1)) p.2 := by
  refine Cn.of [(0, .ref this), (1, .ref p0), (2, .int p1), (3, .int p2), (4, .ref p3), (5, .int p4)] (by decide) rfl rfl (Nat.le_of_ble_eq_true rfl) rfl (fun κ _ hf O => ?_)
  unfold fX2_read at h
  refine g_aload_n (pc' := 1) 0 O dX2_read_0 rfl rfl rfl ?_
  refine g_aload_n (pc' := 2) 1 O dX2_read_1 rfl rfl rfl ?_
  replace h := ob h; obtain ⟨M1, eM1, h⟩ := h
  refine g_putF (C := RX2) (T := TX2) (N := 9) (ci := 1) (k := 0) (pc' := 5) O dX2_read_2 rfl inX2 (by decide) tw_146 tyX2 tyX2_ok nmX2 rfl rfl rfl rfl eM1 rfl ?_
  refine g_aload_n (pc' := 6) 0 O dX2_read_5 rfl rfl rfl ?_
  refine g_iload_n (pc' := 7) 2 O dX2_read_6 rfl rfl rfl ?_
  refine g_iconst (v := 0) (pc' := 8) O dX2_read_7 (by decide) rfl ?_
  replace h := ob h; obtain ⟨r2, er2, h⟩ := h
  refine g_callS (y := yJ9_max_7cf53) (ν := mJ9_max_7cf53) (n := 2) (As := [.int p1, .int (0 : Int32)]) (b := 0) (st := [.ref this]) (M2 := r2.2) (r1 := (some (.int r2.1))) (pc' := 11) O dX2_read_8 tw_90 tw_56 tw_89 tw_309 hyJ9_max_7cf53 rfl (okJ9_max_7cf53 er2) (Nat.le_of_ble_eq_true rfl) ⟨Nat.le_of_ble_eq_true rfl, Nat.le_of_ble_eq_true rfl⟩ ⟨Nat.le_of_ble_eq_true rfl, Nat.le_of_ble_eq_true rfl⟩ rfl ?_
  show G κ mX2_read 0 0 11 [(0, .ref this), (1, .ref p0), (2, .int p1), (3, .int p2), (4, .ref p3), (5, .int p4)] [.int r2.1, .ref this] r2.2
  replace h := ob h; obtain ⟨M3, eM3, h⟩ := h
  refine g_putF (C := RX2) (T := TX2) (N := 9) (ci := 1) (k := 1) (pc' := 14) O dX2_read_11 rfl inX2 (by decide) tw_147 tyX2 tyX2_ok nmX2 rfl rfl rfl rfl eM3 rfl ?_
  refine g_aload_n (pc' := 15) 0 O dX2_read_14 rfl rfl rfl ?_
  refine g_iload_n (pc' := 16) 3 O dX2_read_15 rfl rfl rfl ?_
  refine g_aload_n (pc' := 17) 1 O dX2_read_16 rfl rfl rfl ?_
  replace h := ob h; obtain ⟨v4, ev4, h⟩ := h
  refine g_alen (pc' := 18) O dX2_read_17 ev4 rfl ?_
  replace h := ob h; obtain ⟨r5, er5, h⟩ := h
  refine g_callS (y := yJ9_min_7cf53) (ν := mJ9_min_7cf53) (n := 2) (As := [.int p2, .int v4]) (b := 0) (st := [.ref this]) (M2 := r5.2) (r1 := (some (.int r5.1))) (pc' := 21) O dX2_read_18 tw_312 tw_56 tw_311 tw_310 hyJ9_min_7cf53 rfl (okJ9_min_7cf53 er5) (Nat.le_of_ble_eq_true rfl) ⟨Nat.le_of_ble_eq_true rfl, Nat.le_of_ble_eq_true rfl⟩ ⟨Nat.le_of_ble_eq_true rfl, Nat.le_of_ble_eq_true rfl⟩ rfl ?_
  show G κ mX2_read 0 0 21 [(0, .ref this), (1, .ref p0), (2, .int p1), (3, .int p2), (4, .ref p3), (5, .int p4)] [.int r5.1, .ref this] r5.2
  replace h := ob h; obtain ⟨M6, eM6, h⟩ := h
  refine g_putF (C := RX2) (T := TX2) (N := 9) (ci := 1) (k := 2) (pc' := 24) O dX2_read_21 rfl inX2 (by decide) tw_148 tyX2 tyX2_ok nmX2 rfl rfl rfl rfl eM6 rfl ?_
  refine g_aload_n (pc' := 25) 0 O dX2_read_24 rfl rfl rfl ?_
  refine g_iconst (v := 0) (pc' := 26) O dX2_read_25 (by decide) rfl ?_
  replace h := ob h; obtain ⟨M7, eM7, h⟩ := h
  refine g_putF (C := RX2) (T := TX2) (N := 9) (ci := 1) (k := 3) (pc' := 29) O dX2_read_26 rfl inX2 (by decide) tw_149 tyX2 tyX2_ok nmX2 rfl rfl rfl rfl eM7 rfl ?_
  refine g_aload_n (pc' := 30) 0 O dX2_read_29 rfl rfl rfl ?_
  refine g_lconst (v := 0) (pc' := 31) O dX2_read_30 (by decide) rfl ?_
  replace h := ob h; obtain ⟨M8, eM8, h⟩ := h
  refine g_putF (C := RX2) (T := TX2) (N := 9) (ci := 1) (k := 4) (pc' := 34) O dX2_read_31 rfl inX2 (by decide) tw_150 tyX2 tyX2_ok nmX2 rfl rfl rfl rfl eM8 rfl ?_
  refine g_aload_n (pc' := 35) 0 O dX2_read_34 rfl rfl rfl ?_
  refine g_lconst (v := 0) (pc' := 36) O dX2_read_35 (by decide) rfl ?_
  replace h := ob h; obtain ⟨M9, eM9, h⟩ := h
  refine g_putF (C := RX2) (T := TX2) (N := 9) (ci := 1) (k := 5) (pc' := 39) O dX2_read_36 rfl inX2 (by decide) tw_151 tyX2 tyX2_ok nmX2 rfl rfl rfl rfl eM9 rfl ?_
  refine g_iload (pc' := 41) 5 O dX2_read_39 rfl rfl ?_
  refine g_iconst (v := 2) (pc' := 42) O dX2_read_41 (by decide) rfl ?_
  refine g_icmp_ne (tgt := 54) (pc' := 45) O dX2_read_42 (by decide) rfl (fun hc => ?_) (fun hc => ?_)
  · replace h := ine hc h
    refine g_aload_n (pc' := 55) 0 O dX2_read_54 rfl rfl rfl ?_
    refine g_aload (pc' := 57) 4 O dX2_read_55 rfl rfl ?_
    refine g_iload (pc' := 59) 5 O dX2_read_57 rfl rfl ?_
    refine g_iconst (v := 1) (pc' := 60) O dX2_read_59 (by decide) rfl ?_
    refine g_icmp_ne (tgt := 67) (pc' := 63) O dX2_read_60 (by decide) rfl (fun hc => ?_) (fun hc => ?_)
    · replace h := ine hc h
      refine g_iconst (v := 0) (pc' := 68) O dX2_read_67 (by decide) rfl ?_
      refine g_sub (lv' := [(0, .ref this)]) [0] rfl ?_
      exact tX2_read_68 O hf h
    · replace h := ip hc h
      refine g_iconst (v := 1) (pc' := 64) O dX2_read_63 (by decide) rfl ?_
      refine g_goto (pc' := 68) O dX2_read_64 (by decide) ?_
      refine g_sub (lv' := [(0, .ref this)]) [0] rfl ?_
      exact tX2_read_68 O hf h
  · replace h := ip hc h
    refine g_aload_n (pc' := 46) 0 O dX2_read_45 rfl rfl rfl ?_
    refine g_aload (pc' := 48) 4 O dX2_read_46 rfl rfl ?_
    replace h := ob h; obtain ⟨u10, eu10, h⟩ := h
    replace h := ob h; obtain ⟨r11, er11, h⟩ := h
    refine g_callV (y := yX2_readDay) (ν := mX2_readDay) (n := 1) (As := [.ref p3]) (b := this) (st := []) (M2 := r11) (r1 := none) (pc' := 51) O dX2_read_48 tw_316 tw_57 tw_315 tw_1 tw_313 hyX2_readDay rfl rfl eu10 (okX2_readDay er11) (Nat.le_of_ble_eq_true rfl) ⟨Nat.le_of_ble_eq_true rfl, Nat.le_of_ble_eq_true rfl⟩ ⟨Nat.le_of_ble_eq_true rfl, Nat.le_of_ble_eq_true rfl⟩ rfl ?_
    show G κ mX2_read 0 0 51 [(0, .ref this), (1, .ref p0), (2, .int p1), (3, .int p2), (4, .ref p3), (5, .int p4)] [] r11
    refine g_goto (pc' := 71) O dX2_read_51 (by decide) ?_
    refine g_sub (lv' := [(0, .ref this)]) [0] rfl ?_
    exact tX2_read_71 O hf h
abbrev mX4_init : MD := (cX4_init, 2, RX4, none, { frames := 1, cells := 1, slots := 100, locals := 21 }, "<init>")
theorem hyX4_init : yX4_init.cls ≠ "java/lang/invoke/MethodHandle" ∧ yX4_init.cls ≠ "java/lang/invoke/VarHandle" ∧ (parseMethodDescriptor yX4_init.desc).map (fun d => d.parameters.length) = some 1 := by decide +kernel
def fX4_init  (this : Nat) (p0 : Int32) (M : Mem) : Option (Mem) :=
  (fJ9_max_7cf53 p0 (0 : Int32) M).bind fun r1 =>
  (nA r1.2 .int r1.1 100).bind fun M2 =>
  (pF M2 3 this 0 (.ref r1.2.1)).bind fun M3 =>
  some M3
set_option maxHeartbeats 4000000 in
set_option maxRecDepth 100000 in
theorem okX4_init {l : Launch} {p : Mem} {this : Nat} {p0 : Int32} {M : Mem} (h : fX4_init this p0 M = some p) : Cn l yX4_init mX4_init [.ref this, .int p0] M none p := by
  refine Cn.of [(0, .ref this), (1, .int p0)] (by decide) rfl rfl (Nat.le_of_ble_eq_true rfl) rfl (fun κ _ hf O => ?_)
  unfold fX4_init at h
  refine g_aload_n (pc' := 1) 0 O dX4_init_0 rfl rfl rfl ?_
  refine g_objInit (pc' := 4) O dX4_init_1 tw_87 tw_74 tw_75 (by decide) (by decide) rfl ?_
  refine g_aload_n (pc' := 5) 0 O dX4_init_4 rfl rfl rfl ?_
  refine g_iload_n (pc' := 6) 1 O dX4_init_5 rfl rfl rfl ?_
  refine g_iconst (v := 0) (pc' := 7) O dX4_init_6 (by decide) rfl ?_
  replace h := ob h; obtain ⟨r1, er1, h⟩ := h
  refine g_callS (y := yJ9_max_7cf53) (ν := mJ9_max_7cf53) (n := 2) (As := [.int p0, .int (0 : Int32)]) (b := 0) (st := [.ref this]) (M2 := r1.2) (r1 := (some (.int r1.1))) (pc' := 10) O dX4_init_7 tw_90 tw_56 tw_89 tw_88 hyJ9_max_7cf53 rfl (okJ9_max_7cf53 er1) (Nat.le_of_ble_eq_true rfl) ⟨Nat.le_of_ble_eq_true rfl, Nat.le_of_ble_eq_true rfl⟩ ⟨Nat.le_of_ble_eq_true rfl, Nat.le_of_ble_eq_true rfl⟩ rfl ?_
  show G κ mX4_init 0 0 10 [(0, .ref this), (1, .int p0)] [.int r1.1, .ref this] r1.2
  replace h := ob h; obtain ⟨M2, eM2, h⟩ := h
  refine g_newI (M2 := M2) (pc' := 12) 100 O dX4_init_10 tw_100 eM2 (by decide) (by decide) (by decide) rfl ?_
  show G κ mX4_init 1 100 12 [(0, .ref this), (1, .int p0)] [.ref r1.2.1, .ref this] M2
  replace h := ob h; obtain ⟨M3, eM3, h⟩ := h
  refine g_putFF (C := RX4) (T := TX4) (N := 2) (ci := 3) (k := 0) (pc' := 15) O dX4_init_12 rfl inX4 (by decide) tw_91 tyX4 tyX4_ok nmX4 rfl rfl rfl rfl rfl rfl eM3 rfl ?_
  cases h
  exact g_vreturn O dX4_init_15 rfl hf (by decide) (by decide)
abbrev mX3_init : MD := (cX3_init, 2, RX3, none, { frames := 2, cells := 9, slots := 2046, locals := 42 }, "<init>")
theorem hyX3_init : yX3_init.cls ≠ "java/lang/invoke/MethodHandle" ∧ yX3_init.cls ≠ "java/lang/invoke/VarHandle" ∧ (parseMethodDescriptor yX3_init.desc).map (fun d => d.parameters.length) = some 0 := by decide +kernel
def fX3_init_72  : Nat → Nat → Int32 → Mem → Option (Mem)
  | 0, _, _, _ => none
  | n + 1, x0, x1, M =>
    if (3 : Int32) ≤ x1 then (some M)
    else ((gN M 2 x0 7).bind fun v1 =>
    (sL M v1 x1 (-9223372036854775808 : Int64)).bind fun M2 =>
    (gN M2 2 x0 8).bind fun v3 =>
    (sL M2 v3 x1 (9223372036854775807 : Int64)).bind fun M4 =>
    fX3_init_72 n x0 (x1 + (1 : Int32)) M4)
set_option maxHeartbeats 4000000 in
set_option maxRecDepth 100000 in
theorem tX3_init_72 {κ : KT} {p : Mem} (O : OkK κ mX3_init) (hf : κ.2.2.2.2.2.2.2.2.2.2.2.2.2 = (none, p))  : ∀ (n : Nat) (x0 : Nat) (x1 : Int32) (M : Mem), fX3_init_72  n x0 x1 M = some p → G κ mX3_init 9 2046 72 [(0, .ref x0), (1, .int x1)] [] M := by
  intro n
  induction n with
  | zero => intro x0 x1 M h; cases h
  | succ n ih =>
    intro x0 x1 M h
    rw [fX3_init_72] at h
    refine g_iload_n (pc' := 73) 1 O dX3_init_72 rfl rfl rfl ?_
    refine g_iconst (v := 3) (pc' := 74) O dX3_init_73 (by decide) rfl ?_
    refine g_icmp_ge (tgt := 101) (pc' := 77) O dX3_init_74 (by decide) rfl (fun hc => ?_) (fun hc => ?_)
    · replace h := ip hc h
      cases h
      exact g_vreturn O dX3_init_101 rfl hf (by decide) (by decide)
    · replace h := ine hc h
      refine g_aload_n (pc' := 78) 0 O dX3_init_77 rfl rfl rfl ?_
      replace h := ob h; obtain ⟨v1, ev1, h⟩ := h
      refine g_getF (C := RX3) (T := TX3) (N := 9) (ci := 2) (k := 7) (pc' := 81) O dX3_init_78 rfl inX3 (by decide) tw_117 (gN_F ev1) rfl ?_
      refine g_iload_n (pc' := 82) 1 O dX3_init_81 rfl rfl rfl ?_
      refine g_ldc2 (v := -9223372036854775808) (pc' := 85) O dX3_init_82 tw_103 rfl ?_
      replace h := ob h; obtain ⟨M2, eM2, h⟩ := h
      refine g_last (pc' := 86) O dX3_init_85 eM2 rfl ?_
      refine g_aload_n (pc' := 87) 0 O dX3_init_86 rfl rfl rfl ?_
      replace h := ob h; obtain ⟨v3, ev3, h⟩ := h
      refine g_getF (C := RX3) (T := TX3) (N := 9) (ci := 2) (k := 8) (pc' := 90) O dX3_init_87 rfl inX3 (by decide) tw_118 (gN_F ev3) rfl ?_
      refine g_iload_n (pc' := 91) 1 O dX3_init_90 rfl rfl rfl ?_
      refine g_ldc2 (v := 9223372036854775807) (pc' := 94) O dX3_init_91 tw_104 rfl ?_
      replace h := ob h; obtain ⟨M4, eM4, h⟩ := h
      refine g_last (pc' := 95) O dX3_init_94 eM4 rfl ?_
      refine g_iinc (q := 1) (v := x1 + (1 : Int32)) (lv' := [(1, .int (x1 + (1 : Int32))), (0, .ref x0)]) (pc' := 98) O dX3_init_95 rfl rfl (by decide) rfl rfl ?_
      refine g_goto (pc' := 72) O dX3_init_98 (by decide) ?_
      refine g_sub (lv' := [(0, .ref x0), (1, .int (x1 + (1 : Int32)))]) [1, 0] rfl ?_
      exact ih x0 (x1 + (1 : Int32)) M4 h
def fX3_init  (this : Nat) (M : Mem) : Option (Mem) :=
  (fX4_init M.1 (60 : Int32) (nO M 3 [.null, .int 0])).bind fun r1 =>
  (pF r1 2 this 0 (.ref M.1)).bind fun M2 =>
  (fX4_init M2.1 (100 : Int32) (nO M2 3 [.null, .int 0])).bind fun r3 =>
  (pF r3 2 this 1 (.ref M2.1)).bind fun M4 =>
  (nA M4 (.object RX1) (6 : Int32) 6).bind fun M5 =>
  (pF M5 2 this 2 (.ref M4.1)).bind fun M6 =>
  (nA M6 .int (1800 : Int32) 1800).bind fun M7 =>
  (pF M7 2 this 4 (.ref M6.1)).bind fun M8 =>
  (nA M8 .int (30 : Int32) 30).bind fun M9 =>
  (pF M9 2 this 5 (.ref M8.1)).bind fun M10 =>
  (nA M10 .long (3 : Int32) 3).bind fun M11 =>
  (pF M11 2 this 7 (.ref M10.1)).bind fun M12 =>
  (nA M12 .long (3 : Int32) 3).bind fun M13 =>
  (pF M13 2 this 8 (.ref M12.1)).bind fun M14 =>
  fX3_init_72 FU this (0 : Int32) M14
set_option maxHeartbeats 4000000 in
set_option maxRecDepth 100000 in
theorem okX3_init {l : Launch} {p : Mem} {this : Nat} {M : Mem} (h : fX3_init this M = some p) : Cn l yX3_init mX3_init [.ref this] M none p := by
  refine Cn.of [(0, .ref this)] (by decide) rfl rfl (Nat.le_of_ble_eq_true rfl) rfl (fun κ _ hf O => ?_)
  unfold fX3_init at h
  refine g_aload_n (pc' := 1) 0 O dX3_init_0 rfl rfl rfl ?_
  refine g_objInit (pc' := 4) O dX3_init_1 tw_81 tw_74 tw_75 (by decide) (by decide) rfl ?_
  refine g_aload_n (pc' := 5) 0 O dX3_init_4 rfl rfl rfl ?_
  refine g_newO (C := RX4) (T := TX4) (N := 2) (ci := 3) (fs := [.null, .int 0]) (pc' := 8) O dX3_init_5 rfl inX4 tyX4 tyX4_ok (by decide) tw_82 tw_83 tw_55 (by decide) (by decide) rfl ?_
  show G κ mX3_init 1 2 8 [(0, .ref this)] [.ref M.1, .ref this] (nO M 3 [.null, .int 0])
  refine g_dup (pc' := 9) O dX3_init_8 rfl rfl ?_
  refine g_bipush (v := 60) (pc' := 11) O dX3_init_9 (by decide) rfl ?_
  replace h := ob h; obtain ⟨r1, er1, h⟩ := h
  refine g_callI (y := yX4_init) (ν := mX4_init) (n := 1) (As := [.int (60 : Int32)]) (b := M.1) (st := [.ref M.1, .ref this]) (M2 := r1) (r1 := none) (pc' := 14) O dX3_init_11 tw_86 tw_55 tw_85 tw_84 hyX4_init rfl rfl rfl (okX4_init er1) (Nat.le_of_ble_eq_true rfl) ⟨Nat.le_of_ble_eq_true rfl, Nat.le_of_ble_eq_true rfl⟩ ⟨Nat.le_of_ble_eq_true rfl, Nat.le_of_ble_eq_true rfl⟩ rfl ?_
  show G κ mX3_init 2 102 14 [(0, .ref this)] [.ref M.1, .ref this] r1
  replace h := ob h; obtain ⟨M2, eM2, h⟩ := h
  refine g_putFF (C := RX3) (T := TX3) (N := 9) (ci := 2) (k := 0) (pc' := 17) O dX3_init_14 rfl inX3 (by decide) tw_105 tyX3 tyX3_ok nmX3 rfl rfl rfl rfl rfl rfl eM2 rfl ?_
  refine g_aload_n (pc' := 18) 0 O dX3_init_17 rfl rfl rfl ?_
  refine g_newO (C := RX4) (T := TX4) (N := 2) (ci := 3) (fs := [.null, .int 0]) (pc' := 21) O dX3_init_18 rfl inX4 tyX4 tyX4_ok (by decide) tw_82 tw_83 tw_55 (by decide) (by decide) rfl ?_
  show G κ mX3_init 3 104 21 [(0, .ref this)] [.ref M2.1, .ref this] (nO M2 3 [.null, .int 0])
  refine g_dup (pc' := 22) O dX3_init_21 rfl rfl ?_
  refine g_bipush (v := 100) (pc' := 24) O dX3_init_22 (by decide) rfl ?_
  replace h := ob h; obtain ⟨r3, er3, h⟩ := h
  refine g_callI (y := yX4_init) (ν := mX4_init) (n := 1) (As := [.int (100 : Int32)]) (b := M2.1) (st := [.ref M2.1, .ref this]) (M2 := r3) (r1 := none) (pc' := 27) O dX3_init_24 tw_86 tw_55 tw_85 tw_84 hyX4_init rfl rfl rfl (okX4_init er3) (Nat.le_of_ble_eq_true rfl) ⟨Nat.le_of_ble_eq_true rfl, Nat.le_of_ble_eq_true rfl⟩ ⟨Nat.le_of_ble_eq_true rfl, Nat.le_of_ble_eq_true rfl⟩ rfl ?_
  show G κ mX3_init 4 204 27 [(0, .ref this)] [.ref M2.1, .ref this] r3
  replace h := ob h; obtain ⟨M4, eM4, h⟩ := h
  refine g_putFF (C := RX3) (T := TX3) (N := 9) (ci := 2) (k := 1) (pc' := 30) O dX3_init_27 rfl inX3 (by decide) tw_107 tyX3 tyX3_ok nmX3 rfl rfl rfl rfl rfl rfl eM4 rfl ?_
  refine g_aload_n (pc' := 31) 0 O dX3_init_30 rfl rfl rfl ?_
  refine g_bipush (v := 6) (pc' := 33) O dX3_init_31 (by decide) rfl ?_
  replace h := ob h; obtain ⟨M5, eM5, h⟩ := h
  refine g_newQLand (M2 := M5) (pc' := 36) 6 O dX3_init_33 tw_101 eM5 (by decide) (by decide) (by decide) rfl ?_
  show G κ mX3_init 5 210 36 [(0, .ref this)] [.ref M4.1, .ref this] M5
  replace h := ob h; obtain ⟨M6, eM6, h⟩ := h
  refine g_putFF (C := RX3) (T := TX3) (N := 9) (ci := 2) (k := 2) (pc' := 39) O dX3_init_36 rfl inX3 (by decide) tw_109 tyX3 tyX3_ok nmX3 rfl rfl rfl rfl rfl rfl eM6 rfl ?_
  refine g_aload_n (pc' := 40) 0 O dX3_init_39 rfl rfl rfl ?_
  refine g_sipush (v := 1800) (pc' := 43) O dX3_init_40 (by decide) rfl ?_
  replace h := ob h; obtain ⟨M7, eM7, h⟩ := h
  refine g_newI (M2 := M7) (pc' := 45) 1800 O dX3_init_43 tw_100 eM7 (by decide) (by decide) (by decide) rfl ?_
  show G κ mX3_init 6 2010 45 [(0, .ref this)] [.ref M6.1, .ref this] M7
  replace h := ob h; obtain ⟨M8, eM8, h⟩ := h
  refine g_putFF (C := RX3) (T := TX3) (N := 9) (ci := 2) (k := 4) (pc' := 48) O dX3_init_45 rfl inX3 (by decide) tw_112 tyX3 tyX3_ok nmX3 rfl rfl rfl rfl rfl rfl eM8 rfl ?_
  refine g_aload_n (pc' := 49) 0 O dX3_init_48 rfl rfl rfl ?_
  refine g_bipush (v := 30) (pc' := 51) O dX3_init_49 (by decide) rfl ?_
  replace h := ob h; obtain ⟨M9, eM9, h⟩ := h
  refine g_newI (M2 := M9) (pc' := 53) 30 O dX3_init_51 tw_100 eM9 (by decide) (by decide) (by decide) rfl ?_
  show G κ mX3_init 7 2040 53 [(0, .ref this)] [.ref M8.1, .ref this] M9
  replace h := ob h; obtain ⟨M10, eM10, h⟩ := h
  refine g_putFF (C := RX3) (T := TX3) (N := 9) (ci := 2) (k := 5) (pc' := 56) O dX3_init_53 rfl inX3 (by decide) tw_114 tyX3 tyX3_ok nmX3 rfl rfl rfl rfl rfl rfl eM10 rfl ?_
  refine g_aload_n (pc' := 57) 0 O dX3_init_56 rfl rfl rfl ?_
  refine g_iconst (v := 3) (pc' := 58) O dX3_init_57 (by decide) rfl ?_
  replace h := ob h; obtain ⟨M11, eM11, h⟩ := h
  refine g_newJ (M2 := M11) (pc' := 60) 3 O dX3_init_58 tw_138 eM11 (by decide) (by decide) (by decide) rfl ?_
  show G κ mX3_init 8 2043 60 [(0, .ref this)] [.ref M10.1, .ref this] M11
  replace h := ob h; obtain ⟨M12, eM12, h⟩ := h
  refine g_putFF (C := RX3) (T := TX3) (N := 9) (ci := 2) (k := 7) (pc' := 63) O dX3_init_60 rfl inX3 (by decide) tw_117 tyX3 tyX3_ok nmX3 rfl rfl rfl rfl rfl rfl eM12 rfl ?_
  refine g_aload_n (pc' := 64) 0 O dX3_init_63 rfl rfl rfl ?_
  refine g_iconst (v := 3) (pc' := 65) O dX3_init_64 (by decide) rfl ?_
  replace h := ob h; obtain ⟨M13, eM13, h⟩ := h
  refine g_newJ (M2 := M13) (pc' := 67) 3 O dX3_init_65 tw_138 eM13 (by decide) (by decide) (by decide) rfl ?_
  show G κ mX3_init 9 2046 67 [(0, .ref this)] [.ref M12.1, .ref this] M13
  replace h := ob h; obtain ⟨M14, eM14, h⟩ := h
  refine g_putFF (C := RX3) (T := TX3) (N := 9) (ci := 2) (k := 8) (pc' := 70) O dX3_init_67 rfl inX3 (by decide) tw_118 tyX3 tyX3_ok nmX3 rfl rfl rfl rfl rfl rfl eM14 rfl ?_
  refine g_iconst (v := 0) (pc' := 71) O dX3_init_70 (by decide) rfl ?_
  refine g_istore_n (lv' := [(1, .int (0 : Int32)), (0, .ref this)]) (pc' := 72) O dX3_init_71 rfl (by decide) rfl rfl ?_
  refine g_sub (lv' := [(0, .ref this), (1, .int (0 : Int32))]) [1, 0] rfl ?_
  exact tX3_init_72 O hf FU this (0 : Int32) M14 h
abbrev mX3_landAt : MD := (cX3_landAt, 2, RX3, (some (.object "TypedAmounts$Land")), { frames := 0, cells := 0, slots := 0, locals := 0 }, "landAt")
theorem hyX3_landAt : yX3_landAt.cls ≠ "java/lang/invoke/MethodHandle" ∧ yX3_landAt.cls ≠ "java/lang/invoke/VarHandle" ∧ (parseMethodDescriptor yX3_landAt.desc).map (fun d => d.parameters.length) = some 1 := by decide +kernel
def fX3_landAt_31  (s0 : Option Nat) (M : Mem) : Option (Option Nat × Mem) :=
  some (s0, M)
set_option maxHeartbeats 4000000 in
set_option maxRecDepth 100000 in
theorem tX3_landAt_31 {κ : KT} {p : Option Nat × Mem} (O : OkK κ mX3_landAt) (hf : κ.2.2.2.2.2.2.2.2.2.2.2.2.2 = (some (va_rf p.1), p.2))  {s0 : Option Nat} {M : Mem} (h : fX3_landAt_31  s0 M = some p) : G κ mX3_landAt 0 0 31 [] [va_rf s0] M := by
  unfold fX3_landAt_31 at h
  cases h
  exact g_areturn (x := s0) O dX3_landAt_31 rfl (Or.inl ⟨_, rfl⟩) hf (by decide) (by decide)
def fX3_landAt_30  (M : Mem) : Option (Option Nat × Mem) :=
  fX3_landAt_31 none M
set_option maxHeartbeats 4000000 in
set_option maxRecDepth 100000 in
theorem tX3_landAt_30 {κ : KT} {p : Option Nat × Mem} (O : OkK κ mX3_landAt) (hf : κ.2.2.2.2.2.2.2.2.2.2.2.2.2 = (some (va_rf p.1), p.2))  {M : Mem} (h : fX3_landAt_30  M = some p) : G κ mX3_landAt 0 0 30 [] [] M := by
  unfold fX3_landAt_30 at h
  refine g_null (pc' := 31) O dX3_landAt_30 rfl ?_
  exact tX3_landAt_31 O hf h
def fX3_landAt  (this : Nat) (p0 : Int32) (M : Mem) : Option (Option Nat × Mem) :=
  if p0 < 0 then (fX3_landAt_30 M)
  else ((gI M 2 this 3).bind fun v1 =>
  if v1 ≤ p0 then (fX3_landAt_30 M)
  else ((gN M 2 this 2).bind fun v2 =>
  (aN M v2).bind fun v3 =>
  if v3 ≤ p0 then (fX3_landAt_30 M)
  else ((gN M 2 this 2).bind fun v4 =>
  (aQ M v4 p0).bind fun v5 =>
  fX3_landAt_31 v5 M)))
set_option maxHeartbeats 4000000 in
set_option maxRecDepth 100000 in
theorem okX3_landAt {l : Launch} {p : Option Nat × Mem} {this : Nat} {p0 : Int32} {M : Mem} (h : fX3_landAt this p0 M = some p) : Cn l yX3_landAt mX3_landAt [.ref this, .int p0] M (some (va_rf p.1)) p.2 := by
  refine Cn.of [(0, .ref this), (1, .int p0)] (by decide) rfl rfl (Nat.le_of_ble_eq_true rfl) rfl (fun κ _ hf O => ?_)
  unfold fX3_landAt at h
  refine g_iload_n (pc' := 1) 1 O dX3_landAt_0 rfl rfl rfl ?_
  refine g_if_lt (tgt := 30) (pc' := 4) O dX3_landAt_1 (by decide) rfl (fun hc => ?_) (fun hc => ?_)
  · replace h := ip hc h
    refine g_sub (lv' := []) [] rfl ?_
    exact tX3_landAt_30 O hf h
  · replace h := ine hc h
    refine g_iload_n (pc' := 5) 1 O dX3_landAt_4 rfl rfl rfl ?_
    refine g_aload_n (pc' := 6) 0 O dX3_landAt_5 rfl rfl rfl ?_
    replace h := ob h; obtain ⟨v1, ev1, h⟩ := h
    refine g_getF (C := RX3) (T := TX3) (N := 9) (ci := 2) (k := 3) (pc' := 9) O dX3_landAt_6 rfl inX3 (by decide) tw_111 (gI_F ev1) rfl ?_
    refine g_icmp_ge (tgt := 30) (pc' := 12) O dX3_landAt_9 (by decide) rfl (fun hc => ?_) (fun hc => ?_)
    · replace h := ip hc h
      refine g_sub (lv' := []) [] rfl ?_
      exact tX3_landAt_30 O hf h
    · replace h := ine hc h
      refine g_iload_n (pc' := 13) 1 O dX3_landAt_12 rfl rfl rfl ?_
      refine g_aload_n (pc' := 14) 0 O dX3_landAt_13 rfl rfl rfl ?_
      replace h := ob h; obtain ⟨v2, ev2, h⟩ := h
      refine g_getF (C := RX3) (T := TX3) (N := 9) (ci := 2) (k := 2) (pc' := 17) O dX3_landAt_14 rfl inX3 (by decide) tw_109 (gN_F ev2) rfl ?_
      replace h := ob h; obtain ⟨v3, ev3, h⟩ := h
      refine g_alen (pc' := 18) O dX3_landAt_17 ev3 rfl ?_
      refine g_icmp_ge (tgt := 30) (pc' := 21) O dX3_landAt_18 (by decide) rfl (fun hc => ?_) (fun hc => ?_)
      · replace h := ip hc h
        refine g_sub (lv' := []) [] rfl ?_
        exact tX3_landAt_30 O hf h
      · replace h := ine hc h
        refine g_aload_n (pc' := 22) 0 O dX3_landAt_21 rfl rfl rfl ?_
        replace h := ob h; obtain ⟨v4, ev4, h⟩ := h
        refine g_getF (C := RX3) (T := TX3) (N := 9) (ci := 2) (k := 2) (pc' := 25) O dX3_landAt_22 rfl inX3 (by decide) tw_109 (gN_F ev4) rfl ?_
        refine g_iload_n (pc' := 26) 1 O dX3_landAt_25 rfl rfl rfl ?_
        replace h := ob h; obtain ⟨v5, ev5, h⟩ := h
        refine g_aald (pc' := 27) O dX3_landAt_26 ev5 rfl ?_
        refine g_goto (pc' := 31) O dX3_landAt_27 (by decide) ?_
        refine g_sub (lv' := []) [] rfl ?_
        exact tX3_landAt_31 O hf h
abbrev mX3_addLand : MD := (cX3_addLand, 2, RX3, (some .int), { frames := 0, cells := 0, slots := 0, locals := 0 }, "addLand")
theorem hyX3_addLand : yX3_addLand.cls ≠ "java/lang/invoke/MethodHandle" ∧ yX3_addLand.cls ≠ "java/lang/invoke/VarHandle" ∧ (parseMethodDescriptor yX3_addLand.desc).map (fun d => d.parameters.length) = some 1 := by decide +kernel
def fX3_addLand  (this : Nat) (p0 : Nat) (M : Mem) : Option (Int32 × Mem) :=
  (gI M 2 this 3).bind fun v1 =>
  (gN M 2 this 2).bind fun v2 =>
  (aN M v2).bind fun v3 =>
  if v1 < v3 then ((gN M 2 this 2).bind fun v4 =>
  (gI M 2 this 3).bind fun v5 =>
  (sQ M 0 v4 v5 (some p0)).bind fun M6 =>
  (gI M6 2 this 3).bind fun v7 =>
  (pF M6 2 this 3 (.int (v7 + (1 : Int32)))).bind fun M8 =>
  (gI M8 2 this 3).bind fun v9 =>
  some ((v9 - (1 : Int32)), M8))
  else (some ((-1 : Int32), M))
set_option maxHeartbeats 4000000 in
set_option maxRecDepth 100000 in
theorem okX3_addLand {l : Launch} {p : Int32 × Mem} {this : Nat} {p0 : Nat} {M : Mem} (h : fX3_addLand this p0 M = some p) : Cn l yX3_addLand mX3_addLand [.ref this, .ref p0] M (some (.int p.1)) p.2 := by
  refine Cn.of [(0, .ref this), (1, .ref p0)] (by decide) rfl rfl (Nat.le_of_ble_eq_true rfl) rfl (fun κ _ hf O => ?_)
  unfold fX3_addLand at h
  refine g_aload_n (pc' := 1) 0 O dX3_addLand_0 rfl rfl rfl ?_
  replace h := ob h; obtain ⟨v1, ev1, h⟩ := h
  refine g_getF (C := RX3) (T := TX3) (N := 9) (ci := 2) (k := 3) (pc' := 4) O dX3_addLand_1 rfl inX3 (by decide) tw_111 (gI_F ev1) rfl ?_
  refine g_aload_n (pc' := 5) 0 O dX3_addLand_4 rfl rfl rfl ?_
  replace h := ob h; obtain ⟨v2, ev2, h⟩ := h
  refine g_getF (C := RX3) (T := TX3) (N := 9) (ci := 2) (k := 2) (pc' := 8) O dX3_addLand_5 rfl inX3 (by decide) tw_109 (gN_F ev2) rfl ?_
  replace h := ob h; obtain ⟨v3, ev3, h⟩ := h
  refine g_alen (pc' := 9) O dX3_addLand_8 ev3 rfl ?_
  refine g_icmp_lt (tgt := 14) (pc' := 12) O dX3_addLand_9 (by decide) rfl (fun hc => ?_) (fun hc => ?_)
  · replace h := ip hc h
    refine g_aload_n (pc' := 15) 0 O dX3_addLand_14 rfl rfl rfl ?_
    replace h := ob h; obtain ⟨v4, ev4, h⟩ := h
    refine g_getF (C := RX3) (T := TX3) (N := 9) (ci := 2) (k := 2) (pc' := 18) O dX3_addLand_15 rfl inX3 (by decide) tw_109 (gN_F ev4) rfl ?_
    refine g_aload_n (pc' := 19) 0 O dX3_addLand_18 rfl rfl rfl ?_
    replace h := ob h; obtain ⟨v5, ev5, h⟩ := h
    refine g_getF (C := RX3) (T := TX3) (N := 9) (ci := 2) (k := 3) (pc' := 22) O dX3_addLand_19 rfl inX3 (by decide) tw_111 (gI_F ev5) rfl ?_
    refine g_aload_n (pc' := 23) 1 O dX3_addLand_22 rfl rfl rfl ?_
    replace h := ob h; obtain ⟨M6, eM6, h⟩ := h
    refine g_aast (pc' := 24) O dX3_addLand_23 eM6 rfl ?_
    refine g_aload_n (pc' := 25) 0 O dX3_addLand_24 rfl rfl rfl ?_
    refine g_dup (pc' := 26) O dX3_addLand_25 rfl rfl ?_
    replace h := ob h; obtain ⟨v7, ev7, h⟩ := h
    refine g_getF (C := RX3) (T := TX3) (N := 9) (ci := 2) (k := 3) (pc' := 29) O dX3_addLand_26 rfl inX3 (by decide) tw_111 (gI_F ev7) rfl ?_
    refine g_iconst (v := 1) (pc' := 30) O dX3_addLand_29 (by decide) rfl ?_
    refine g_iadd (pc' := 31) O dX3_addLand_30 rfl ?_
    replace h := ob h; obtain ⟨M8, eM8, h⟩ := h
    refine g_putF (C := RX3) (T := TX3) (N := 9) (ci := 2) (k := 3) (pc' := 34) O dX3_addLand_31 rfl inX3 (by decide) tw_111 tyX3 tyX3_ok nmX3 rfl rfl rfl rfl eM8 rfl ?_
    refine g_aload_n (pc' := 35) 0 O dX3_addLand_34 rfl rfl rfl ?_
    replace h := ob h; obtain ⟨v9, ev9, h⟩ := h
    refine g_getF (C := RX3) (T := TX3) (N := 9) (ci := 2) (k := 3) (pc' := 38) O dX3_addLand_35 rfl inX3 (by decide) tw_111 (gI_F ev9) rfl ?_
    refine g_iconst (v := 1) (pc' := 39) O dX3_addLand_38 (by decide) rfl ?_
    refine g_isub (pc' := 40) O dX3_addLand_39 rfl ?_
    cases h
    exact g_ireturn O dX3_addLand_40 rfl rfl hf (by decide) (by decide)
  · replace h := ine hc h
    refine g_iconst (v := -1) (pc' := 13) O dX3_addLand_12 (by decide) rfl ?_
    cases h
    exact g_ireturn O dX3_addLand_13 rfl rfl hf (by decide) (by decide)
abbrev mX7_isKind : MD := (cX7_isKind, 1, RX7, (some .boolean), { frames := 0, cells := 0, slots := 0, locals := 0 }, "isKind")
theorem hyX7_isKind : yX7_isKind.cls ≠ "java/lang/invoke/MethodHandle" ∧ yX7_isKind.cls ≠ "java/lang/invoke/VarHandle" ∧ (parseMethodDescriptor yX7_isKind.desc).map (fun d => d.parameters.length) = some 1 := by decide +kernel
def fX7_isKind_14  (s0 : Int32) (M : Mem) : Option (Int32 × Mem) :=
  (nz s0).bind fun z1 =>
  some (z1, M)
set_option maxHeartbeats 4000000 in
set_option maxRecDepth 100000 in
theorem tX7_isKind_14 {κ : KT} {p : Int32 × Mem} (O : OkK κ mX7_isKind) (hf : κ.2.2.2.2.2.2.2.2.2.2.2.2.2 = (some (.int p.1), p.2))  {s0 : Int32} {M : Mem} (h : fX7_isKind_14  s0 M = some p) : G κ mX7_isKind 0 0 14 [] [.int s0] M := by
  unfold fX7_isKind_14 at h
  replace h := ob h; obtain ⟨z1, ez1, h⟩ := h
  obtain ⟨hz1, ez1b⟩ := nz_spec ez1
  rw [ez1b] at h
  cases h
  exact g_ireturn O dX7_isKind_14 rfl (nz_nar hz1) hf (by decide) (by decide)
def fX7_isKind_13  (M : Mem) : Option (Int32 × Mem) :=
  fX7_isKind_14 (0 : Int32) M
set_option maxHeartbeats 4000000 in
set_option maxRecDepth 100000 in
theorem tX7_isKind_13 {κ : KT} {p : Int32 × Mem} (O : OkK κ mX7_isKind) (hf : κ.2.2.2.2.2.2.2.2.2.2.2.2.2 = (some (.int p.1), p.2))  {M : Mem} (h : fX7_isKind_13  M = some p) : G κ mX7_isKind 0 0 13 [] [] M := by
  unfold fX7_isKind_13 at h
  refine g_iconst (v := 0) (pc' := 14) O dX7_isKind_13 (by decide) rfl ?_
  exact tX7_isKind_14 O hf h
def fX7_isKind  (p0 : Int32) (M : Mem) : Option (Int32 × Mem) :=
  if p0 < 0 then (fX7_isKind_13 M)
  else (if (3 : Int32) ≤ p0 then (fX7_isKind_13 M)
  else (fX7_isKind_14 (1 : Int32) M))
set_option maxHeartbeats 4000000 in
set_option maxRecDepth 100000 in
theorem okX7_isKind {l : Launch} {p : Int32 × Mem} {p0 : Int32} {M : Mem} (h : fX7_isKind p0 M = some p) : Cn l yX7_isKind mX7_isKind [.int p0] M (some (.int p.1)) p.2 := by
  refine Cn.of [(0, .int p0)] (by decide) rfl rfl (Nat.le_of_ble_eq_true rfl) rfl (fun κ _ hf O => ?_)
  unfold fX7_isKind at h
  refine g_iload_n (pc' := 1) 0 O dX7_isKind_0 rfl rfl rfl ?_
  refine g_if_lt (tgt := 13) (pc' := 4) O dX7_isKind_1 (by decide) rfl (fun hc => ?_) (fun hc => ?_)
  · replace h := ip hc h
    refine g_sub (lv' := []) [] rfl ?_
    exact tX7_isKind_13 O hf h
  · replace h := ine hc h
    refine g_iload_n (pc' := 5) 0 O dX7_isKind_4 rfl rfl rfl ?_
    refine g_iconst (v := 3) (pc' := 6) O dX7_isKind_5 (by decide) rfl ?_
    refine g_icmp_ge (tgt := 13) (pc' := 9) O dX7_isKind_6 (by decide) rfl (fun hc => ?_) (fun hc => ?_)
    · replace h := ip hc h
      refine g_sub (lv' := []) [] rfl ?_
      exact tX7_isKind_13 O hf h
    · replace h := ine hc h
      refine g_iconst (v := 1) (pc' := 10) O dX7_isKind_9 (by decide) rfl ?_
      refine g_goto (pc' := 14) O dX7_isKind_10 (by decide) ?_
      refine g_sub (lv' := []) [] rfl ?_
      exact tX7_isKind_14 O hf h
abbrev mX3_setBounds : MD := (cX3_setBounds, 6, RX3, none, { frames := 1, cells := 0, slots := 0, locals := 20 }, "setBounds")
theorem hyX3_setBounds : yX3_setBounds.cls ≠ "java/lang/invoke/MethodHandle" ∧ yX3_setBounds.cls ≠ "java/lang/invoke/VarHandle" ∧ (parseMethodDescriptor yX3_setBounds.desc).map (fun d => d.parameters.length) = some 3 := by decide +kernel
def fX3_setBounds_22  (M : Mem) : Option (Mem) :=
  some M
set_option maxHeartbeats 4000000 in
set_option maxRecDepth 100000 in
theorem tX3_setBounds_22 {κ : KT} {p : Mem} (O : OkK κ mX3_setBounds) (hf : κ.2.2.2.2.2.2.2.2.2.2.2.2.2 = (none, p))  {M : Mem} (h : fX3_setBounds_22  M = some p) : G κ mX3_setBounds 0 0 22 [] [] M := by
  unfold fX3_setBounds_22 at h
  cases h
  exact g_vreturn O dX3_setBounds_22 rfl hf (by decide) (by decide)
def fX3_setBounds  (this : Nat) (p0 : Int32) (p1 : Int64) (p2 : Int64) (M : Mem) : Option (Mem) :=
  (fX7_isKind p0 M).bind fun r1 =>
  if r1.1 = 0 then (fX3_setBounds_22 r1.2)
  else ((gN r1.2 2 this 7).bind fun v2 =>
  (sL r1.2 v2 p0 p1).bind fun M3 =>
  (gN M3 2 this 8).bind fun v4 =>
  (sL M3 v4 p0 p2).bind fun M5 =>
  fX3_setBounds_22 M5)
set_option maxHeartbeats 4000000 in
set_option maxRecDepth 100000 in
theorem okX3_setBounds {l : Launch} {p : Mem} {this : Nat} {p0 : Int32} {p1 : Int64} {p2 : Int64} {M : Mem} (h : fX3_setBounds this p0 p1 p2 M = some p) : Cn l yX3_setBounds mX3_setBounds [.ref this, .int p0, .long p1, .long p2] M none p := by
  refine Cn.of [(0, .ref this), (1, .int p0), (2, .long p1), (4, .long p2)] (by decide) rfl rfl (Nat.le_of_ble_eq_true rfl) rfl (fun κ _ hf O => ?_)
  unfold fX3_setBounds at h
  refine g_iload_n (pc' := 1) 1 O dX3_setBounds_0 rfl rfl rfl ?_
  replace h := ob h; obtain ⟨r1, er1, h⟩ := h
  refine g_callSN (y := yX7_isKind) (ν := mX7_isKind) (n := 1) (As := [.int p0]) (b := 0) (st := []) (M2 := r1.2) (r1 := (some (.int r1.1))) (pc' := 4) O dX3_setBounds_1 tw_286 tw_53 tw_285 (by decide) hyX7_isKind rfl (okX7_isKind er1) (Nat.le_of_ble_eq_true rfl) ⟨Nat.le_of_ble_eq_true rfl, Nat.le_of_ble_eq_true rfl⟩ ⟨Nat.le_of_ble_eq_true rfl, Nat.le_of_ble_eq_true rfl⟩ rfl ?_
  show G κ mX3_setBounds 0 0 4 [(0, .ref this), (1, .int p0), (2, .long p1), (4, .long p2)] [.int r1.1] r1.2
  refine g_if_eq (tgt := 22) (pc' := 7) O dX3_setBounds_4 (by decide) rfl (fun hc => ?_) (fun hc => ?_)
  · replace h := ip hc h
    refine g_sub (lv' := []) [] rfl ?_
    exact tX3_setBounds_22 O hf h
  · replace h := ine hc h
    refine g_aload_n (pc' := 8) 0 O dX3_setBounds_7 rfl rfl rfl ?_
    replace h := ob h; obtain ⟨v2, ev2, h⟩ := h
    refine g_getF (C := RX3) (T := TX3) (N := 9) (ci := 2) (k := 7) (pc' := 11) O dX3_setBounds_8 rfl inX3 (by decide) tw_117 (gN_F ev2) rfl ?_
    refine g_iload_n (pc' := 12) 1 O dX3_setBounds_11 rfl rfl rfl ?_
    refine g_lload_n (pc' := 13) 2 O dX3_setBounds_12 rfl rfl rfl ?_
    replace h := ob h; obtain ⟨M3, eM3, h⟩ := h
    refine g_last (pc' := 14) O dX3_setBounds_13 eM3 rfl ?_
    refine g_aload_n (pc' := 15) 0 O dX3_setBounds_14 rfl rfl rfl ?_
    replace h := ob h; obtain ⟨v4, ev4, h⟩ := h
    refine g_getF (C := RX3) (T := TX3) (N := 9) (ci := 2) (k := 8) (pc' := 18) O dX3_setBounds_15 rfl inX3 (by decide) tw_118 (gN_F ev4) rfl ?_
    refine g_iload_n (pc' := 19) 1 O dX3_setBounds_18 rfl rfl rfl ?_
    refine g_lload (pc' := 21) 3 O dX3_setBounds_19 rfl rfl ?_
    replace h := ob h; obtain ⟨M5, eM5, h⟩ := h
    refine g_last (pc' := 22) O dX3_setBounds_21 eM5 rfl ?_
    refine g_sub (lv' := []) [] rfl ?_
    exact tX3_setBounds_22 O hf h
abbrev mX3_isWithin : MD := (cX3_isWithin, 4, RX3, (some .boolean), { frames := 1, cells := 0, slots := 0, locals := 20 }, "isWithin")
theorem hyX3_isWithin : yX3_isWithin.cls ≠ "java/lang/invoke/MethodHandle" ∧ yX3_isWithin.cls ≠ "java/lang/invoke/VarHandle" ∧ (parseMethodDescriptor yX3_isWithin.desc).map (fun d => d.parameters.length) = some 2 := by decide +kernel
def fX3_isWithin_34  (s0 : Int32) (M : Mem) : Option (Int32 × Mem) :=
  (nz s0).bind fun z1 =>
  some (z1, M)
set_option maxHeartbeats 4000000 in
set_option maxRecDepth 100000 in
theorem tX3_isWithin_34 {κ : KT} {p : Int32 × Mem} (O : OkK κ mX3_isWithin) (hf : κ.2.2.2.2.2.2.2.2.2.2.2.2.2 = (some (.int p.1), p.2))  {s0 : Int32} {M : Mem} (h : fX3_isWithin_34  s0 M = some p) : G κ mX3_isWithin 0 0 34 [] [.int s0] M := by
  unfold fX3_isWithin_34 at h
  replace h := ob h; obtain ⟨z1, ez1, h⟩ := h
  obtain ⟨hz1, ez1b⟩ := nz_spec ez1
  rw [ez1b] at h
  cases h
  exact g_ireturn O dX3_isWithin_34 rfl (nz_nar hz1) hf (by decide) (by decide)
def fX3_isWithin_33  (M : Mem) : Option (Int32 × Mem) :=
  fX3_isWithin_34 (0 : Int32) M
set_option maxHeartbeats 4000000 in
set_option maxRecDepth 100000 in
theorem tX3_isWithin_33 {κ : KT} {p : Int32 × Mem} (O : OkK κ mX3_isWithin) (hf : κ.2.2.2.2.2.2.2.2.2.2.2.2.2 = (some (.int p.1), p.2))  {M : Mem} (h : fX3_isWithin_33  M = some p) : G κ mX3_isWithin 0 0 33 [] [] M := by
  unfold fX3_isWithin_33 at h
  refine g_iconst (v := 0) (pc' := 34) O dX3_isWithin_33 (by decide) rfl ?_
  exact tX3_isWithin_34 O hf h
def fX3_isWithin  (this : Nat) (p0 : Int32) (p1 : Int64) (M : Mem) : Option (Int32 × Mem) :=
  (fX7_isKind p0 M).bind fun r1 =>
  if r1.1 = 0 then (fX3_isWithin_33 r1.2)
  else ((gN r1.2 2 this 7).bind fun v2 =>
  (aL r1.2 v2 p0).bind fun v3 =>
  if (lg_cmp p1 v3) < 0 then (fX3_isWithin_33 r1.2)
  else ((gN r1.2 2 this 8).bind fun v4 =>
  (aL r1.2 v4 p0).bind fun v5 =>
  if 0 < (lg_cmp p1 v5) then (fX3_isWithin_33 r1.2)
  else (fX3_isWithin_34 (1 : Int32) r1.2)))
set_option maxHeartbeats 4000000 in
set_option maxRecDepth 100000 in
theorem okX3_isWithin {l : Launch} {p : Int32 × Mem} {this : Nat} {p0 : Int32} {p1 : Int64} {M : Mem} (h : fX3_isWithin this p0 p1 M = some p) : Cn l yX3_isWithin mX3_isWithin [.ref this, .int p0, .long p1] M (some (.int p.1)) p.2 := by
  refine Cn.of [(0, .ref this), (1, .int p0), (2, .long p1)] (by decide) rfl rfl (Nat.le_of_ble_eq_true rfl) rfl (fun κ _ hf O => ?_)
  unfold fX3_isWithin at h
  refine g_iload_n (pc' := 1) 1 O dX3_isWithin_0 rfl rfl rfl ?_
  replace h := ob h; obtain ⟨r1, er1, h⟩ := h
  refine g_callSN (y := yX7_isKind) (ν := mX7_isKind) (n := 1) (As := [.int p0]) (b := 0) (st := []) (M2 := r1.2) (r1 := (some (.int r1.1))) (pc' := 4) O dX3_isWithin_1 tw_286 tw_53 tw_285 (by decide) hyX7_isKind rfl (okX7_isKind er1) (Nat.le_of_ble_eq_true rfl) ⟨Nat.le_of_ble_eq_true rfl, Nat.le_of_ble_eq_true rfl⟩ ⟨Nat.le_of_ble_eq_true rfl, Nat.le_of_ble_eq_true rfl⟩ rfl ?_
  show G κ mX3_isWithin 0 0 4 [(0, .ref this), (1, .int p0), (2, .long p1)] [.int r1.1] r1.2
  refine g_if_eq (tgt := 33) (pc' := 7) O dX3_isWithin_4 (by decide) rfl (fun hc => ?_) (fun hc => ?_)
  · replace h := ip hc h
    refine g_sub (lv' := []) [] rfl ?_
    exact tX3_isWithin_33 O hf h
  · replace h := ine hc h
    refine g_lload_n (pc' := 8) 2 O dX3_isWithin_7 rfl rfl rfl ?_
    refine g_aload_n (pc' := 9) 0 O dX3_isWithin_8 rfl rfl rfl ?_
    replace h := ob h; obtain ⟨v2, ev2, h⟩ := h
    refine g_getF (C := RX3) (T := TX3) (N := 9) (ci := 2) (k := 7) (pc' := 12) O dX3_isWithin_9 rfl inX3 (by decide) tw_117 (gN_F ev2) rfl ?_
    refine g_iload_n (pc' := 13) 1 O dX3_isWithin_12 rfl rfl rfl ?_
    replace h := ob h; obtain ⟨v3, ev3, h⟩ := h
    refine g_lald (pc' := 14) O dX3_isWithin_13 ev3 rfl ?_
    refine g_lcmp (pc' := 15) O dX3_isWithin_14 rfl ?_
    refine g_if_lt (tgt := 33) (pc' := 18) O dX3_isWithin_15 (by decide) rfl (fun hc => ?_) (fun hc => ?_)
    · replace h := ip hc h
      refine g_sub (lv' := []) [] rfl ?_
      exact tX3_isWithin_33 O hf h
    · replace h := ine hc h
      refine g_lload_n (pc' := 19) 2 O dX3_isWithin_18 rfl rfl rfl ?_
      refine g_aload_n (pc' := 20) 0 O dX3_isWithin_19 rfl rfl rfl ?_
      replace h := ob h; obtain ⟨v4, ev4, h⟩ := h
      refine g_getF (C := RX3) (T := TX3) (N := 9) (ci := 2) (k := 8) (pc' := 23) O dX3_isWithin_20 rfl inX3 (by decide) tw_118 (gN_F ev4) rfl ?_
      refine g_iload_n (pc' := 24) 1 O dX3_isWithin_23 rfl rfl rfl ?_
      replace h := ob h; obtain ⟨v5, ev5, h⟩ := h
      refine g_lald (pc' := 25) O dX3_isWithin_24 ev5 rfl ?_
      refine g_lcmp (pc' := 26) O dX3_isWithin_25 rfl ?_
      refine g_if_gt (tgt := 33) (pc' := 29) O dX3_isWithin_26 (by decide) rfl (fun hc => ?_) (fun hc => ?_)
      · replace h := ip hc h
        refine g_sub (lv' := []) [] rfl ?_
        exact tX3_isWithin_33 O hf h
      · replace h := ine hc h
        refine g_iconst (v := 1) (pc' := 30) O dX3_isWithin_29 (by decide) rfl ?_
        refine g_goto (pc' := 34) O dX3_isWithin_30 (by decide) ?_
        refine g_sub (lv' := []) [] rfl ?_
        exact tX3_isWithin_34 O hf h
abbrev mX4_length : MD := (cX4_length, 1, RX4, (some .int), { frames := 0, cells := 0, slots := 0, locals := 0 }, "length")
theorem hyX4_length : yX4_length.cls ≠ "java/lang/invoke/MethodHandle" ∧ yX4_length.cls ≠ "java/lang/invoke/VarHandle" ∧ (parseMethodDescriptor yX4_length.desc).map (fun d => d.parameters.length) = some 0 := by decide +kernel
def fX4_length  (this : Nat) (M : Mem) : Option (Int32 × Mem) :=
  (gI M 3 this 1).bind fun v1 =>
  some (v1, M)
set_option maxHeartbeats 4000000 in
set_option maxRecDepth 100000 in
theorem okX4_length {l : Launch} {p : Int32 × Mem} {this : Nat} {M : Mem} (h : fX4_length this M = some p) : Cn l yX4_length mX4_length [.ref this] M (some (.int p.1)) p.2 := by
  refine Cn.of [(0, .ref this)] (by decide) rfl rfl (Nat.le_of_ble_eq_true rfl) rfl (fun κ _ hf O => ?_)
  unfold fX4_length at h
  refine g_aload_n (pc' := 1) 0 O dX4_length_0 rfl rfl rfl ?_
  replace h := ob h; obtain ⟨v1, ev1, h⟩ := h
  refine g_getF (C := RX4) (T := TX4) (N := 2) (ci := 3) (k := 1) (pc' := 4) O dX4_length_1 rfl inX4 (by decide) tw_94 (gI_F ev1) rfl ?_
  cases h
  exact g_ireturn O dX4_length_4 rfl rfl hf (by decide) (by decide)
abbrev mX3_rowStart : MD := (cX3_rowStart, 2, RX3, (some .int), { frames := 0, cells := 0, slots := 0, locals := 0 }, "rowStart")
theorem hyX3_rowStart : yX3_rowStart.cls ≠ "java/lang/invoke/MethodHandle" ∧ yX3_rowStart.cls ≠ "java/lang/invoke/VarHandle" ∧ (parseMethodDescriptor yX3_rowStart.desc).map (fun d => d.parameters.length) = some 1 := by decide +kernel
def fX3_rowStart  (this : Nat) (p0 : Int32) (M : Mem) : Option (Int32 × Mem) :=
  some ((p0 * (60 : Int32)), M)
set_option maxHeartbeats 4000000 in
set_option maxRecDepth 100000 in
theorem okX3_rowStart {l : Launch} {p : Int32 × Mem} {this : Nat} {p0 : Int32} {M : Mem} (h : fX3_rowStart this p0 M = some p) : Cn l yX3_rowStart mX3_rowStart [.ref this, .int p0] M (some (.int p.1)) p.2 := by
  refine Cn.of [(0, .ref this), (1, .int p0)] (by decide) rfl rfl (Nat.le_of_ble_eq_true rfl) rfl (fun κ _ hf O => ?_)
  unfold fX3_rowStart at h
  refine g_iload_n (pc' := 1) 1 O dX3_rowStart_0 rfl rfl rfl ?_
  refine g_bipush (v := 60) (pc' := 3) O dX3_rowStart_1 (by decide) rfl ?_
  refine g_imul (pc' := 4) O dX3_rowStart_3 rfl ?_
  cases h
  exact g_ireturn O dX3_rowStart_4 rfl rfl hf (by decide) (by decide)
abbrev mX4_empty : MD := (cX4_empty, 1, RX4, none, { frames := 0, cells := 0, slots := 0, locals := 0 }, "empty")
theorem hyX4_empty : yX4_empty.cls ≠ "java/lang/invoke/MethodHandle" ∧ yX4_empty.cls ≠ "java/lang/invoke/VarHandle" ∧ (parseMethodDescriptor yX4_empty.desc).map (fun d => d.parameters.length) = some 0 := by decide +kernel
def fX4_empty  (this : Nat) (M : Mem) : Option (Mem) :=
  (pF M 3 this 1 (.int (0 : Int32))).bind fun M1 =>
  some M1
set_option maxHeartbeats 4000000 in
set_option maxRecDepth 100000 in
theorem okX4_empty {l : Launch} {p : Mem} {this : Nat} {M : Mem} (h : fX4_empty this M = some p) : Cn l yX4_empty mX4_empty [.ref this] M none p := by
  refine Cn.of [(0, .ref this)] (by decide) rfl rfl (Nat.le_of_ble_eq_true rfl) rfl (fun κ _ hf O => ?_)
  unfold fX4_empty at h
  refine g_aload_n (pc' := 1) 0 O dX4_empty_0 rfl rfl rfl ?_
  refine g_iconst (v := 0) (pc' := 2) O dX4_empty_1 (by decide) rfl ?_
  replace h := ob h; obtain ⟨M1, eM1, h⟩ := h
  refine g_putF (C := RX4) (T := TX4) (N := 2) (ci := 3) (k := 1) (pc' := 5) O dX4_empty_2 rfl inX4 (by decide) tw_94 tyX4 tyX4_ok nmX4 rfl rfl rfl rfl eM1 rfl ?_
  cases h
  exact g_vreturn O dX4_empty_5 rfl hf (by decide) (by decide)
abbrev mX3_moveLineToRows : MD := (cX3_moveLineToRows, 1, RX3, (some .int), { frames := 1, cells := 0, slots := 0, locals := 38 }, "moveLineToRows")
theorem hyX3_moveLineToRows : yX3_moveLineToRows.cls ≠ "java/lang/invoke/MethodHandle" ∧ yX3_moveLineToRows.cls ≠ "java/lang/invoke/VarHandle" ∧ (parseMethodDescriptor yX3_moveLineToRows.desc).map (fun d => d.parameters.length) = some 0 := by decide +kernel
def fX3_moveLineToRows  (this : Nat) (M : Mem) : Option (Int32 × Mem) :=
  (gI M 2 this 6).bind fun v1 =>
  if v1 < (30 : Int32) then ((gN M 2 this 5).bind fun v2 =>
  (gI M 2 this 6).bind fun v3 =>
  (gN M 2 this 0).bind fun v4 =>
  (ck M 3 v4).bind fun u5 =>
  (fX4_length v4 M).bind fun r6 =>
  (sI r6.2 v2 v3 r6.1).bind fun M7 =>
  (gN M7 2 this 0).bind fun v8 =>
  (gN M7 3 v8 0).bind fun v9 =>
  (gN M7 2 this 4).bind fun v10 =>
  (gI M7 2 this 6).bind fun v11 =>
  (ck M7 2 this).bind fun u12 =>
  (fX3_rowStart this v11 M7).bind fun r13 =>
  (gN r13.2 2 this 0).bind fun v14 =>
  (ck r13.2 3 v14).bind fun u15 =>
  (fX4_length v14 r13.2).bind fun r16 =>
  (cpI r16.2 v9 (0 : Int32) v10 r13.1 r16.1).bind fun M17 =>
  (gN M17 2 this 0).bind fun v18 =>
  (ck M17 3 v18).bind fun u19 =>
  (fX4_empty v18 M17).bind fun r20 =>
  (gI r20 2 this 6).bind fun v21 =>
  (pF r20 2 this 6 (.int (v21 + (1 : Int32)))).bind fun M22 =>
  (gI M22 2 this 6).bind fun v23 =>
  some ((v23 - (1 : Int32)), M22))
  else (some ((-1 : Int32), M))
set_option maxHeartbeats 4000000 in
set_option maxRecDepth 100000 in
theorem okX3_moveLineToRows {l : Launch} {p : Int32 × Mem} {this : Nat} {M : Mem} (h : fX3_moveLineToRows this M = some p) : Cn l yX3_moveLineToRows mX3_moveLineToRows [.ref this] M (some (.int p.1)) p.2 := by
  refine Cn.of [(0, .ref this)] (by decide) rfl rfl (Nat.le_of_ble_eq_true rfl) rfl (fun κ _ hf O => ?_)
  unfold fX3_moveLineToRows at h
  refine g_aload_n (pc' := 1) 0 O dX3_moveLineToRows_0 rfl rfl rfl ?_
  replace h := ob h; obtain ⟨v1, ev1, h⟩ := h
  refine g_getF (C := RX3) (T := TX3) (N := 9) (ci := 2) (k := 6) (pc' := 4) O dX3_moveLineToRows_1 rfl inX3 (by decide) tw_115 (gI_F ev1) rfl ?_
  refine g_bipush (v := 30) (pc' := 6) O dX3_moveLineToRows_4 (by decide) rfl ?_
  refine g_icmp_lt (tgt := 11) (pc' := 9) O dX3_moveLineToRows_6 (by decide) rfl (fun hc => ?_) (fun hc => ?_)
  · replace h := ip hc h
    refine g_aload_n (pc' := 12) 0 O dX3_moveLineToRows_11 rfl rfl rfl ?_
    replace h := ob h; obtain ⟨v2, ev2, h⟩ := h
    refine g_getF (C := RX3) (T := TX3) (N := 9) (ci := 2) (k := 5) (pc' := 15) O dX3_moveLineToRows_12 rfl inX3 (by decide) tw_114 (gN_F ev2) rfl ?_
    refine g_aload_n (pc' := 16) 0 O dX3_moveLineToRows_15 rfl rfl rfl ?_
    replace h := ob h; obtain ⟨v3, ev3, h⟩ := h
    refine g_getF (C := RX3) (T := TX3) (N := 9) (ci := 2) (k := 6) (pc' := 19) O dX3_moveLineToRows_16 rfl inX3 (by decide) tw_115 (gI_F ev3) rfl ?_
    refine g_aload_n (pc' := 20) 0 O dX3_moveLineToRows_19 rfl rfl rfl ?_
    replace h := ob h; obtain ⟨v4, ev4, h⟩ := h
    refine g_getF (C := RX3) (T := TX3) (N := 9) (ci := 2) (k := 0) (pc' := 23) O dX3_moveLineToRows_20 rfl inX3 (by decide) tw_105 (gN_F ev4) rfl ?_
    replace h := ob h; obtain ⟨u5, eu5, h⟩ := h
    replace h := ob h; obtain ⟨r6, er6, h⟩ := h
    refine g_callV (y := yX4_length) (ν := mX4_length) (n := 0) (As := []) (b := v4) (st := [.int v3, .ref v2]) (M2 := r6.2) (r1 := (some (.int r6.1))) (pc' := 26) O dX3_moveLineToRows_23 tw_260 tw_55 tw_258 tw_259 tw_659 hyX4_length rfl rfl eu5 (okX4_length er6) (Nat.le_of_ble_eq_true rfl) ⟨Nat.le_of_ble_eq_true rfl, Nat.le_of_ble_eq_true rfl⟩ ⟨Nat.le_of_ble_eq_true rfl, Nat.le_of_ble_eq_true rfl⟩ rfl ?_
    show G κ mX3_moveLineToRows 0 0 26 [(0, .ref this)] [.int r6.1, .int v3, .ref v2] r6.2
    replace h := ob h; obtain ⟨M7, eM7, h⟩ := h
    refine g_iast (pc' := 27) O dX3_moveLineToRows_26 eM7 rfl ?_
    refine g_aload_n (pc' := 28) 0 O dX3_moveLineToRows_27 rfl rfl rfl ?_
    replace h := ob h; obtain ⟨v8, ev8, h⟩ := h
    refine g_getF (C := RX3) (T := TX3) (N := 9) (ci := 2) (k := 0) (pc' := 31) O dX3_moveLineToRows_28 rfl inX3 (by decide) tw_105 (gN_F ev8) rfl ?_
    replace h := ob h; obtain ⟨v9, ev9, h⟩ := h
    refine g_getF (C := RX4) (T := TX4) (N := 2) (ci := 3) (k := 0) (pc' := 34) O dX3_moveLineToRows_31 rfl inX4 (by decide) tw_92 (gN_F ev9) rfl ?_
    refine g_iconst (v := 0) (pc' := 35) O dX3_moveLineToRows_34 (by decide) rfl ?_
    refine g_aload_n (pc' := 36) 0 O dX3_moveLineToRows_35 rfl rfl rfl ?_
    replace h := ob h; obtain ⟨v10, ev10, h⟩ := h
    refine g_getF (C := RX3) (T := TX3) (N := 9) (ci := 2) (k := 4) (pc' := 39) O dX3_moveLineToRows_36 rfl inX3 (by decide) tw_112 (gN_F ev10) rfl ?_
    refine g_aload_n (pc' := 40) 0 O dX3_moveLineToRows_39 rfl rfl rfl ?_
    refine g_aload_n (pc' := 41) 0 O dX3_moveLineToRows_40 rfl rfl rfl ?_
    replace h := ob h; obtain ⟨v11, ev11, h⟩ := h
    refine g_getF (C := RX3) (T := TX3) (N := 9) (ci := 2) (k := 6) (pc' := 44) O dX3_moveLineToRows_41 rfl inX3 (by decide) tw_115 (gI_F ev11) rfl ?_
    replace h := ob h; obtain ⟨u12, eu12, h⟩ := h
    replace h := ob h; obtain ⟨r13, er13, h⟩ := h
    refine g_callV (y := yX3_rowStart) (ν := mX3_rowStart) (n := 1) (As := [.int v11]) (b := this) (st := [.ref v10, .int (0 : Int32), .ref v9]) (M2 := r13.2) (r1 := (some (.int r13.1))) (pc' := 47) O dX3_moveLineToRows_44 tw_663 tw_54 tw_661 tw_662 tw_660 hyX3_rowStart rfl rfl eu12 (okX3_rowStart er13) (Nat.le_of_ble_eq_true rfl) ⟨Nat.le_of_ble_eq_true rfl, Nat.le_of_ble_eq_true rfl⟩ ⟨Nat.le_of_ble_eq_true rfl, Nat.le_of_ble_eq_true rfl⟩ rfl ?_
    show G κ mX3_moveLineToRows 0 0 47 [(0, .ref this)] [.int r13.1, .ref v10, .int (0 : Int32), .ref v9] r13.2
    refine g_aload_n (pc' := 48) 0 O dX3_moveLineToRows_47 rfl rfl rfl ?_
    replace h := ob h; obtain ⟨v14, ev14, h⟩ := h
    refine g_getF (C := RX3) (T := TX3) (N := 9) (ci := 2) (k := 0) (pc' := 51) O dX3_moveLineToRows_48 rfl inX3 (by decide) tw_105 (gN_F ev14) rfl ?_
    replace h := ob h; obtain ⟨u15, eu15, h⟩ := h
    replace h := ob h; obtain ⟨r16, er16, h⟩ := h
    refine g_callV (y := yX4_length) (ν := mX4_length) (n := 0) (As := []) (b := v14) (st := [.int r13.1, .ref v10, .int (0 : Int32), .ref v9]) (M2 := r16.2) (r1 := (some (.int r16.1))) (pc' := 54) O dX3_moveLineToRows_51 tw_260 tw_55 tw_258 tw_259 tw_659 hyX4_length rfl rfl eu15 (okX4_length er16) (Nat.le_of_ble_eq_true rfl) ⟨Nat.le_of_ble_eq_true rfl, Nat.le_of_ble_eq_true rfl⟩ ⟨Nat.le_of_ble_eq_true rfl, Nat.le_of_ble_eq_true rfl⟩ rfl ?_
    show G κ mX3_moveLineToRows 0 0 54 [(0, .ref this)] [.int r16.1, .int r13.1, .ref v10, .int (0 : Int32), .ref v9] r16.2
    replace h := ob h; obtain ⟨M17, eM17, h⟩ := h
    refine g_cpI (pc' := 57) O dX3_moveLineToRows_54 tw_664 tw_627 tw_626 tw_67 eM17 (by decide) (by decide) rfl ?_
    refine g_aload_n (pc' := 58) 0 O dX3_moveLineToRows_57 rfl rfl rfl ?_
    replace h := ob h; obtain ⟨v18, ev18, h⟩ := h
    refine g_getF (C := RX3) (T := TX3) (N := 9) (ci := 2) (k := 0) (pc' := 61) O dX3_moveLineToRows_58 rfl inX3 (by decide) tw_105 (gN_F ev18) rfl ?_
    replace h := ob h; obtain ⟨u19, eu19, h⟩ := h
    replace h := ob h; obtain ⟨r20, er20, h⟩ := h
    refine g_callV (y := yX4_empty) (ν := mX4_empty) (n := 0) (As := []) (b := v18) (st := []) (M2 := r20) (r1 := none) (pc' := 64) O dX3_moveLineToRows_61 tw_464 tw_55 tw_462 tw_463 tw_665 hyX4_empty rfl rfl eu19 (okX4_empty er20) (Nat.le_of_ble_eq_true rfl) ⟨Nat.le_of_ble_eq_true rfl, Nat.le_of_ble_eq_true rfl⟩ ⟨Nat.le_of_ble_eq_true rfl, Nat.le_of_ble_eq_true rfl⟩ rfl ?_
    show G κ mX3_moveLineToRows 0 0 64 [(0, .ref this)] [] r20
    refine g_aload_n (pc' := 65) 0 O dX3_moveLineToRows_64 rfl rfl rfl ?_
    refine g_dup (pc' := 66) O dX3_moveLineToRows_65 rfl rfl ?_
    replace h := ob h; obtain ⟨v21, ev21, h⟩ := h
    refine g_getF (C := RX3) (T := TX3) (N := 9) (ci := 2) (k := 6) (pc' := 69) O dX3_moveLineToRows_66 rfl inX3 (by decide) tw_115 (gI_F ev21) rfl ?_
    refine g_iconst (v := 1) (pc' := 70) O dX3_moveLineToRows_69 (by decide) rfl ?_
    refine g_iadd (pc' := 71) O dX3_moveLineToRows_70 rfl ?_
    replace h := ob h; obtain ⟨M22, eM22, h⟩ := h
    refine g_putF (C := RX3) (T := TX3) (N := 9) (ci := 2) (k := 6) (pc' := 74) O dX3_moveLineToRows_71 rfl inX3 (by decide) tw_115 tyX3 tyX3_ok nmX3 rfl rfl rfl rfl eM22 rfl ?_
    refine g_aload_n (pc' := 75) 0 O dX3_moveLineToRows_74 rfl rfl rfl ?_
    replace h := ob h; obtain ⟨v23, ev23, h⟩ := h
    refine g_getF (C := RX3) (T := TX3) (N := 9) (ci := 2) (k := 6) (pc' := 78) O dX3_moveLineToRows_75 rfl inX3 (by decide) tw_115 (gI_F ev23) rfl ?_
    refine g_iconst (v := 1) (pc' := 79) O dX3_moveLineToRows_78 (by decide) rfl ?_
    refine g_isub (pc' := 80) O dX3_moveLineToRows_79 rfl ?_
    cases h
    exact g_ireturn O dX3_moveLineToRows_80 rfl rfl hf (by decide) (by decide)
  · replace h := ine hc h
    refine g_iconst (v := -1) (pc' := 10) O dX3_moveLineToRows_9 (by decide) rfl ?_
    cases h
    exact g_ireturn O dX3_moveLineToRows_10 rfl rfl hf (by decide) (by decide)
abbrev mX3_rowLength : MD := (cX3_rowLength, 2, RX3, (some .int), { frames := 0, cells := 0, slots := 0, locals := 0 }, "rowLength")
theorem hyX3_rowLength : yX3_rowLength.cls ≠ "java/lang/invoke/MethodHandle" ∧ yX3_rowLength.cls ≠ "java/lang/invoke/VarHandle" ∧ (parseMethodDescriptor yX3_rowLength.desc).map (fun d => d.parameters.length) = some 1 := by decide +kernel
def fX3_rowLength_31  (s0 : Int32) (M : Mem) : Option (Int32 × Mem) :=
  some (s0, M)
set_option maxHeartbeats 4000000 in
set_option maxRecDepth 100000 in
theorem tX3_rowLength_31 {κ : KT} {p : Int32 × Mem} (O : OkK κ mX3_rowLength) (hf : κ.2.2.2.2.2.2.2.2.2.2.2.2.2 = (some (.int p.1), p.2))  {s0 : Int32} {M : Mem} (h : fX3_rowLength_31  s0 M = some p) : G κ mX3_rowLength 0 0 31 [] [.int s0] M := by
  unfold fX3_rowLength_31 at h
  cases h
  exact g_ireturn O dX3_rowLength_31 rfl rfl hf (by decide) (by decide)
def fX3_rowLength_30  (M : Mem) : Option (Int32 × Mem) :=
  fX3_rowLength_31 (0 : Int32) M
set_option maxHeartbeats 4000000 in
set_option maxRecDepth 100000 in
theorem tX3_rowLength_30 {κ : KT} {p : Int32 × Mem} (O : OkK κ mX3_rowLength) (hf : κ.2.2.2.2.2.2.2.2.2.2.2.2.2 = (some (.int p.1), p.2))  {M : Mem} (h : fX3_rowLength_30  M = some p) : G κ mX3_rowLength 0 0 30 [] [] M := by
  unfold fX3_rowLength_30 at h
  refine g_iconst (v := 0) (pc' := 31) O dX3_rowLength_30 (by decide) rfl ?_
  exact tX3_rowLength_31 O hf h
def fX3_rowLength  (this : Nat) (p0 : Int32) (M : Mem) : Option (Int32 × Mem) :=
  if p0 < 0 then (fX3_rowLength_30 M)
  else ((gI M 2 this 6).bind fun v1 =>
  if v1 ≤ p0 then (fX3_rowLength_30 M)
  else ((gN M 2 this 5).bind fun v2 =>
  (aN M v2).bind fun v3 =>
  if v3 ≤ p0 then (fX3_rowLength_30 M)
  else ((gN M 2 this 5).bind fun v4 =>
  (aI M v4 p0).bind fun v5 =>
  fX3_rowLength_31 v5 M)))
set_option maxHeartbeats 4000000 in
set_option maxRecDepth 100000 in
theorem okX3_rowLength {l : Launch} {p : Int32 × Mem} {this : Nat} {p0 : Int32} {M : Mem} (h : fX3_rowLength this p0 M = some p) : Cn l yX3_rowLength mX3_rowLength [.ref this, .int p0] M (some (.int p.1)) p.2 := by
  refine Cn.of [(0, .ref this), (1, .int p0)] (by decide) rfl rfl (Nat.le_of_ble_eq_true rfl) rfl (fun κ _ hf O => ?_)
  unfold fX3_rowLength at h
  refine g_iload_n (pc' := 1) 1 O dX3_rowLength_0 rfl rfl rfl ?_
  refine g_if_lt (tgt := 30) (pc' := 4) O dX3_rowLength_1 (by decide) rfl (fun hc => ?_) (fun hc => ?_)
  · replace h := ip hc h
    refine g_sub (lv' := []) [] rfl ?_
    exact tX3_rowLength_30 O hf h
  · replace h := ine hc h
    refine g_iload_n (pc' := 5) 1 O dX3_rowLength_4 rfl rfl rfl ?_
    refine g_aload_n (pc' := 6) 0 O dX3_rowLength_5 rfl rfl rfl ?_
    replace h := ob h; obtain ⟨v1, ev1, h⟩ := h
    refine g_getF (C := RX3) (T := TX3) (N := 9) (ci := 2) (k := 6) (pc' := 9) O dX3_rowLength_6 rfl inX3 (by decide) tw_115 (gI_F ev1) rfl ?_
    refine g_icmp_ge (tgt := 30) (pc' := 12) O dX3_rowLength_9 (by decide) rfl (fun hc => ?_) (fun hc => ?_)
    · replace h := ip hc h
      refine g_sub (lv' := []) [] rfl ?_
      exact tX3_rowLength_30 O hf h
    · replace h := ine hc h
      refine g_iload_n (pc' := 13) 1 O dX3_rowLength_12 rfl rfl rfl ?_
      refine g_aload_n (pc' := 14) 0 O dX3_rowLength_13 rfl rfl rfl ?_
      replace h := ob h; obtain ⟨v2, ev2, h⟩ := h
      refine g_getF (C := RX3) (T := TX3) (N := 9) (ci := 2) (k := 5) (pc' := 17) O dX3_rowLength_14 rfl inX3 (by decide) tw_114 (gN_F ev2) rfl ?_
      replace h := ob h; obtain ⟨v3, ev3, h⟩ := h
      refine g_alen (pc' := 18) O dX3_rowLength_17 ev3 rfl ?_
      refine g_icmp_ge (tgt := 30) (pc' := 21) O dX3_rowLength_18 (by decide) rfl (fun hc => ?_) (fun hc => ?_)
      · replace h := ip hc h
        refine g_sub (lv' := []) [] rfl ?_
        exact tX3_rowLength_30 O hf h
      · replace h := ine hc h
        refine g_aload_n (pc' := 22) 0 O dX3_rowLength_21 rfl rfl rfl ?_
        replace h := ob h; obtain ⟨v4, ev4, h⟩ := h
        refine g_getF (C := RX3) (T := TX3) (N := 9) (ci := 2) (k := 5) (pc' := 25) O dX3_rowLength_22 rfl inX3 (by decide) tw_114 (gN_F ev4) rfl ?_
        refine g_iload_n (pc' := 26) 1 O dX3_rowLength_25 rfl rfl rfl ?_
        replace h := ob h; obtain ⟨v5, ev5, h⟩ := h
        refine g_iald (pc' := 27) O dX3_rowLength_26 ev5 rfl ?_
        refine g_goto (pc' := 31) O dX3_rowLength_27 (by decide) ?_
        refine g_sub (lv' := []) [] rfl ?_
        exact tX3_rowLength_31 O hf h
abbrev mX4_copyFrom : MD := (cX4_copyFrom, 2, RX4, none, { frames := 1, cells := 0, slots := 0, locals := 38 }, "copyFrom")
theorem hyX4_copyFrom : yX4_copyFrom.cls ≠ "java/lang/invoke/MethodHandle" ∧ yX4_copyFrom.cls ≠ "java/lang/invoke/VarHandle" ∧ (parseMethodDescriptor yX4_copyFrom.desc).map (fun d => d.parameters.length) = some 1 := by decide +kernel
def fX4_copyFrom  (this : Nat) (p0 : Nat) (M : Mem) : Option (Mem) :=
  (gI M 3 p0 1).bind fun v1 =>
  (gN M 3 this 0).bind fun v2 =>
  (aN M v2).bind fun v3 =>
  (fJ9_min_7cf53 v1 v3 M).bind fun r4 =>
  (pF r4.2 3 this 1 (.int r4.1)).bind fun M5 =>
  (gN M5 3 p0 0).bind fun v6 =>
  (gN M5 3 this 0).bind fun v7 =>
  (gI M5 3 this 1).bind fun v8 =>
  (cpI M5 v6 (0 : Int32) v7 (0 : Int32) v8).bind fun M9 =>
  some M9
set_option maxHeartbeats 4000000 in
set_option maxRecDepth 100000 in
theorem okX4_copyFrom {l : Launch} {p : Mem} {this : Nat} {p0 : Nat} {M : Mem} (h : fX4_copyFrom this p0 M = some p) : Cn l yX4_copyFrom mX4_copyFrom [.ref this, .ref p0] M none p := by
  refine Cn.of [(0, .ref this), (1, .ref p0)] (by decide) rfl rfl (Nat.le_of_ble_eq_true rfl) rfl (fun κ _ hf O => ?_)
  unfold fX4_copyFrom at h
  refine g_aload_n (pc' := 1) 0 O dX4_copyFrom_0 rfl rfl rfl ?_
  refine g_aload_n (pc' := 2) 1 O dX4_copyFrom_1 rfl rfl rfl ?_
  replace h := ob h; obtain ⟨v1, ev1, h⟩ := h
  refine g_getF (C := RX4) (T := TX4) (N := 2) (ci := 3) (k := 1) (pc' := 5) O dX4_copyFrom_2 rfl inX4 (by decide) tw_94 (gI_F ev1) rfl ?_
  refine g_aload_n (pc' := 6) 0 O dX4_copyFrom_5 rfl rfl rfl ?_
  replace h := ob h; obtain ⟨v2, ev2, h⟩ := h
  refine g_getF (C := RX4) (T := TX4) (N := 2) (ci := 3) (k := 0) (pc' := 9) O dX4_copyFrom_6 rfl inX4 (by decide) tw_91 (gN_F ev2) rfl ?_
  replace h := ob h; obtain ⟨v3, ev3, h⟩ := h
  refine g_alen (pc' := 10) O dX4_copyFrom_9 ev3 rfl ?_
  replace h := ob h; obtain ⟨r4, er4, h⟩ := h
  refine g_callS (y := yJ9_min_7cf53) (ν := mJ9_min_7cf53) (n := 2) (As := [.int v1, .int v3]) (b := 0) (st := [.ref this]) (M2 := r4.2) (r1 := (some (.int r4.1))) (pc' := 13) O dX4_copyFrom_10 tw_312 tw_56 tw_311 tw_624 hyJ9_min_7cf53 rfl (okJ9_min_7cf53 er4) (Nat.le_of_ble_eq_true rfl) ⟨Nat.le_of_ble_eq_true rfl, Nat.le_of_ble_eq_true rfl⟩ ⟨Nat.le_of_ble_eq_true rfl, Nat.le_of_ble_eq_true rfl⟩ rfl ?_
  show G κ mX4_copyFrom 0 0 13 [(0, .ref this), (1, .ref p0)] [.int r4.1, .ref this] r4.2
  replace h := ob h; obtain ⟨M5, eM5, h⟩ := h
  refine g_putF (C := RX4) (T := TX4) (N := 2) (ci := 3) (k := 1) (pc' := 16) O dX4_copyFrom_13 rfl inX4 (by decide) tw_94 tyX4 tyX4_ok nmX4 rfl rfl rfl rfl eM5 rfl ?_
  refine g_aload_n (pc' := 17) 1 O dX4_copyFrom_16 rfl rfl rfl ?_
  replace h := ob h; obtain ⟨v6, ev6, h⟩ := h
  refine g_getF (C := RX4) (T := TX4) (N := 2) (ci := 3) (k := 0) (pc' := 20) O dX4_copyFrom_17 rfl inX4 (by decide) tw_91 (gN_F ev6) rfl ?_
  refine g_iconst (v := 0) (pc' := 21) O dX4_copyFrom_20 (by decide) rfl ?_
  refine g_aload_n (pc' := 22) 0 O dX4_copyFrom_21 rfl rfl rfl ?_
  replace h := ob h; obtain ⟨v7, ev7, h⟩ := h
  refine g_getF (C := RX4) (T := TX4) (N := 2) (ci := 3) (k := 0) (pc' := 25) O dX4_copyFrom_22 rfl inX4 (by decide) tw_91 (gN_F ev7) rfl ?_
  refine g_iconst (v := 0) (pc' := 26) O dX4_copyFrom_25 (by decide) rfl ?_
  refine g_aload_n (pc' := 27) 0 O dX4_copyFrom_26 rfl rfl rfl ?_
  replace h := ob h; obtain ⟨v8, ev8, h⟩ := h
  refine g_getF (C := RX4) (T := TX4) (N := 2) (ci := 3) (k := 1) (pc' := 30) O dX4_copyFrom_27 rfl inX4 (by decide) tw_94 (gI_F ev8) rfl ?_
  replace h := ob h; obtain ⟨M9, eM9, h⟩ := h
  refine g_cpI (pc' := 33) O dX4_copyFrom_30 tw_625 tw_627 tw_626 tw_67 eM9 (by decide) (by decide) rfl ?_
  cases h
  exact g_vreturn O dX4_copyFrom_33 rfl hf (by decide) (by decide)
abbrev mX3_copyFrom : MD := (cX3_copyFrom, 3, RX3, none, { frames := 2, cells := 0, slots := 0, locals := 59 }, "copyFrom")
theorem hyX3_copyFrom : yX3_copyFrom.cls ≠ "java/lang/invoke/MethodHandle" ∧ yX3_copyFrom.cls ≠ "java/lang/invoke/VarHandle" ∧ (parseMethodDescriptor yX3_copyFrom.desc).map (fun d => d.parameters.length) = some 1 := by decide +kernel
def fX3_copyFrom_32  : Nat → Nat → Nat → Int32 → Mem → Option (Mem)
  | 0, _, _, _, _ => none
  | n + 1, x0, x1, x2, M =>
    if (6 : Int32) ≤ x2 then ((gI M 2 x1 6).bind fun v1 =>
    (pF M 2 x0 6 (.int v1)).bind fun M2 =>
    (gN M2 2 x1 5).bind fun v3 =>
    (gN M2 2 x0 5).bind fun v4 =>
    (cpI M2 v3 (0 : Int32) v4 (0 : Int32) (30 : Int32)).bind fun M5 =>
    (gN M5 2 x1 4).bind fun v6 =>
    (gN M5 2 x0 4).bind fun v7 =>
    (gN M5 2 x0 4).bind fun v8 =>
    (aN M5 v8).bind fun v9 =>
    (cpI M5 v6 (0 : Int32) v7 (0 : Int32) v9).bind fun M10 =>
    (gN M10 2 x1 7).bind fun v11 =>
    (gN M10 2 x0 7).bind fun v12 =>
    (cpL M10 v11 (0 : Int32) v12 (0 : Int32) (3 : Int32)).bind fun M13 =>
    (gN M13 2 x1 8).bind fun v14 =>
    (gN M13 2 x0 8).bind fun v15 =>
    (cpL M13 v14 (0 : Int32) v15 (0 : Int32) (3 : Int32)).bind fun M16 =>
    some M16)
    else ((gN M 2 x0 2).bind fun v17 =>
    (gN M 2 x1 2).bind fun v18 =>
    (aQ M v18 x2).bind fun v19 =>
    (sQ M 0 v17 x2 v19).bind fun M20 =>
    fX3_copyFrom_32 n x0 x1 (x2 + (1 : Int32)) M20)
set_option maxHeartbeats 4000000 in
set_option maxRecDepth 100000 in
theorem tX3_copyFrom_32 {κ : KT} {p : Mem} (O : OkK κ mX3_copyFrom) (hf : κ.2.2.2.2.2.2.2.2.2.2.2.2.2 = (none, p))  : ∀ (n : Nat) (x0 : Nat) (x1 : Nat) (x2 : Int32) (M : Mem), fX3_copyFrom_32  n x0 x1 x2 M = some p → G κ mX3_copyFrom 0 0 32 [(0, .ref x0), (1, .ref x1), (2, .int x2)] [] M := by
  intro n
  induction n with
  | zero => intro x0 x1 x2 M h; cases h
  | succ n ih =>
    intro x0 x1 x2 M h
    rw [fX3_copyFrom_32] at h
    refine g_iload_n (pc' := 33) 2 O dX3_copyFrom_32 rfl rfl rfl ?_
    refine g_bipush (v := 6) (pc' := 35) O dX3_copyFrom_33 (by decide) rfl ?_
    refine g_icmp_ge (tgt := 56) (pc' := 38) O dX3_copyFrom_35 (by decide) rfl (fun hc => ?_) (fun hc => ?_)
    · replace h := ip hc h
      refine g_aload_n (pc' := 57) 0 O dX3_copyFrom_56 rfl rfl rfl ?_
      refine g_aload_n (pc' := 58) 1 O dX3_copyFrom_57 rfl rfl rfl ?_
      replace h := ob h; obtain ⟨v1, ev1, h⟩ := h
      refine g_getF (C := RX3) (T := TX3) (N := 9) (ci := 2) (k := 6) (pc' := 61) O dX3_copyFrom_58 rfl inX3 (by decide) tw_115 (gI_F ev1) rfl ?_
      replace h := ob h; obtain ⟨M2, eM2, h⟩ := h
      refine g_putF (C := RX3) (T := TX3) (N := 9) (ci := 2) (k := 6) (pc' := 64) O dX3_copyFrom_61 rfl inX3 (by decide) tw_115 tyX3 tyX3_ok nmX3 rfl rfl rfl rfl eM2 rfl ?_
      refine g_aload_n (pc' := 65) 1 O dX3_copyFrom_64 rfl rfl rfl ?_
      replace h := ob h; obtain ⟨v3, ev3, h⟩ := h
      refine g_getF (C := RX3) (T := TX3) (N := 9) (ci := 2) (k := 5) (pc' := 68) O dX3_copyFrom_65 rfl inX3 (by decide) tw_114 (gN_F ev3) rfl ?_
      refine g_iconst (v := 0) (pc' := 69) O dX3_copyFrom_68 (by decide) rfl ?_
      refine g_aload_n (pc' := 70) 0 O dX3_copyFrom_69 rfl rfl rfl ?_
      replace h := ob h; obtain ⟨v4, ev4, h⟩ := h
      refine g_getF (C := RX3) (T := TX3) (N := 9) (ci := 2) (k := 5) (pc' := 73) O dX3_copyFrom_70 rfl inX3 (by decide) tw_114 (gN_F ev4) rfl ?_
      refine g_iconst (v := 0) (pc' := 74) O dX3_copyFrom_73 (by decide) rfl ?_
      refine g_bipush (v := 30) (pc' := 76) O dX3_copyFrom_74 (by decide) rfl ?_
      replace h := ob h; obtain ⟨M5, eM5, h⟩ := h
      refine g_cpI (pc' := 79) O dX3_copyFrom_76 tw_664 tw_627 tw_626 tw_67 eM5 (by decide) (by decide) rfl ?_
      refine g_aload_n (pc' := 80) 1 O dX3_copyFrom_79 rfl rfl rfl ?_
      replace h := ob h; obtain ⟨v6, ev6, h⟩ := h
      refine g_getF (C := RX3) (T := TX3) (N := 9) (ci := 2) (k := 4) (pc' := 83) O dX3_copyFrom_80 rfl inX3 (by decide) tw_112 (gN_F ev6) rfl ?_
      refine g_iconst (v := 0) (pc' := 84) O dX3_copyFrom_83 (by decide) rfl ?_
      refine g_aload_n (pc' := 85) 0 O dX3_copyFrom_84 rfl rfl rfl ?_
      replace h := ob h; obtain ⟨v7, ev7, h⟩ := h
      refine g_getF (C := RX3) (T := TX3) (N := 9) (ci := 2) (k := 4) (pc' := 88) O dX3_copyFrom_85 rfl inX3 (by decide) tw_112 (gN_F ev7) rfl ?_
      refine g_iconst (v := 0) (pc' := 89) O dX3_copyFrom_88 (by decide) rfl ?_
      refine g_aload_n (pc' := 90) 0 O dX3_copyFrom_89 rfl rfl rfl ?_
      replace h := ob h; obtain ⟨v8, ev8, h⟩ := h
      refine g_getF (C := RX3) (T := TX3) (N := 9) (ci := 2) (k := 4) (pc' := 93) O dX3_copyFrom_90 rfl inX3 (by decide) tw_112 (gN_F ev8) rfl ?_
      replace h := ob h; obtain ⟨v9, ev9, h⟩ := h
      refine g_alen (pc' := 94) O dX3_copyFrom_93 ev9 rfl ?_
      replace h := ob h; obtain ⟨M10, eM10, h⟩ := h
      refine g_cpI (pc' := 97) O dX3_copyFrom_94 tw_664 tw_627 tw_626 tw_67 eM10 (by decide) (by decide) rfl ?_
      refine g_aload_n (pc' := 98) 1 O dX3_copyFrom_97 rfl rfl rfl ?_
      replace h := ob h; obtain ⟨v11, ev11, h⟩ := h
      refine g_getF (C := RX3) (T := TX3) (N := 9) (ci := 2) (k := 7) (pc' := 101) O dX3_copyFrom_98 rfl inX3 (by decide) tw_117 (gN_F ev11) rfl ?_
      refine g_iconst (v := 0) (pc' := 102) O dX3_copyFrom_101 (by decide) rfl ?_
      refine g_aload_n (pc' := 103) 0 O dX3_copyFrom_102 rfl rfl rfl ?_
      replace h := ob h; obtain ⟨v12, ev12, h⟩ := h
      refine g_getF (C := RX3) (T := TX3) (N := 9) (ci := 2) (k := 7) (pc' := 106) O dX3_copyFrom_103 rfl inX3 (by decide) tw_117 (gN_F ev12) rfl ?_
      refine g_iconst (v := 0) (pc' := 107) O dX3_copyFrom_106 (by decide) rfl ?_
      refine g_iconst (v := 3) (pc' := 108) O dX3_copyFrom_107 (by decide) rfl ?_
      replace h := ob h; obtain ⟨M13, eM13, h⟩ := h
      refine g_cpL (pc' := 111) O dX3_copyFrom_108 tw_664 tw_627 tw_626 tw_67 eM13 (by decide) (by decide) rfl ?_
      refine g_aload_n (pc' := 112) 1 O dX3_copyFrom_111 rfl rfl rfl ?_
      replace h := ob h; obtain ⟨v14, ev14, h⟩ := h
      refine g_getF (C := RX3) (T := TX3) (N := 9) (ci := 2) (k := 8) (pc' := 115) O dX3_copyFrom_112 rfl inX3 (by decide) tw_118 (gN_F ev14) rfl ?_
      refine g_iconst (v := 0) (pc' := 116) O dX3_copyFrom_115 (by decide) rfl ?_
      refine g_aload_n (pc' := 117) 0 O dX3_copyFrom_116 rfl rfl rfl ?_
      replace h := ob h; obtain ⟨v15, ev15, h⟩ := h
      refine g_getF (C := RX3) (T := TX3) (N := 9) (ci := 2) (k := 8) (pc' := 120) O dX3_copyFrom_117 rfl inX3 (by decide) tw_118 (gN_F ev15) rfl ?_
      refine g_iconst (v := 0) (pc' := 121) O dX3_copyFrom_120 (by decide) rfl ?_
      refine g_iconst (v := 3) (pc' := 122) O dX3_copyFrom_121 (by decide) rfl ?_
      replace h := ob h; obtain ⟨M16, eM16, h⟩ := h
      refine g_cpL (pc' := 125) O dX3_copyFrom_122 tw_664 tw_627 tw_626 tw_67 eM16 (by decide) (by decide) rfl ?_
      cases h
      exact g_vreturn O dX3_copyFrom_125 rfl hf (by decide) (by decide)
    · replace h := ine hc h
      refine g_aload_n (pc' := 39) 0 O dX3_copyFrom_38 rfl rfl rfl ?_
      replace h := ob h; obtain ⟨v17, ev17, h⟩ := h
      refine g_getF (C := RX3) (T := TX3) (N := 9) (ci := 2) (k := 2) (pc' := 42) O dX3_copyFrom_39 rfl inX3 (by decide) tw_109 (gN_F ev17) rfl ?_
      refine g_iload_n (pc' := 43) 2 O dX3_copyFrom_42 rfl rfl rfl ?_
      refine g_aload_n (pc' := 44) 1 O dX3_copyFrom_43 rfl rfl rfl ?_
      replace h := ob h; obtain ⟨v18, ev18, h⟩ := h
      refine g_getF (C := RX3) (T := TX3) (N := 9) (ci := 2) (k := 2) (pc' := 47) O dX3_copyFrom_44 rfl inX3 (by decide) tw_109 (gN_F ev18) rfl ?_
      refine g_iload_n (pc' := 48) 2 O dX3_copyFrom_47 rfl rfl rfl ?_
      replace h := ob h; obtain ⟨v19, ev19, h⟩ := h
      refine g_aald (pc' := 49) O dX3_copyFrom_48 ev19 rfl ?_
      replace h := ob h; obtain ⟨M20, eM20, h⟩ := h
      refine g_aast (pc' := 50) O dX3_copyFrom_49 eM20 rfl ?_
      refine g_iinc (q := 2) (v := x2 + (1 : Int32)) (lv' := [(2, .int (x2 + (1 : Int32))), (0, .ref x0), (1, .ref x1)]) (pc' := 53) O dX3_copyFrom_50 rfl rfl (by decide) rfl rfl ?_
      refine g_goto (pc' := 32) O dX3_copyFrom_53 (by decide) ?_
      refine g_sub (lv' := [(0, .ref x0), (1, .ref x1), (2, .int (x2 + (1 : Int32)))]) [1, 2, 0] rfl ?_
      exact ih x0 x1 (x2 + (1 : Int32)) M20 h
def fX3_copyFrom  (this : Nat) (p0 : Nat) (M : Mem) : Option (Mem) :=
  (gN M 2 this 0).bind fun v1 =>
  (gN M 2 p0 0).bind fun v2 =>
  (ck M 3 v1).bind fun u3 =>
  (fX4_copyFrom v1 v2 M).bind fun r4 =>
  (gN r4 2 this 1).bind fun v5 =>
  (gN r4 2 p0 1).bind fun v6 =>
  (ck r4 3 v5).bind fun u7 =>
  (fX4_copyFrom v5 v6 r4).bind fun r8 =>
  (gI r8 2 p0 3).bind fun v9 =>
  (pF r8 2 this 3 (.int v9)).bind fun M10 =>
  fX3_copyFrom_32 FU this p0 (0 : Int32) M10
set_option maxHeartbeats 4000000 in
set_option maxRecDepth 100000 in
theorem okX3_copyFrom {l : Launch} {p : Mem} {this : Nat} {p0 : Nat} {M : Mem} (h : fX3_copyFrom this p0 M = some p) : Cn l yX3_copyFrom mX3_copyFrom [.ref this, .ref p0] M none p := by
  refine Cn.of [(0, .ref this), (1, .ref p0)] (by decide) rfl rfl (Nat.le_of_ble_eq_true rfl) rfl (fun κ _ hf O => ?_)
  unfold fX3_copyFrom at h
  refine g_aload_n (pc' := 1) 0 O dX3_copyFrom_0 rfl rfl rfl ?_
  replace h := ob h; obtain ⟨v1, ev1, h⟩ := h
  refine g_getF (C := RX3) (T := TX3) (N := 9) (ci := 2) (k := 0) (pc' := 4) O dX3_copyFrom_1 rfl inX3 (by decide) tw_105 (gN_F ev1) rfl ?_
  refine g_aload_n (pc' := 5) 1 O dX3_copyFrom_4 rfl rfl rfl ?_
  replace h := ob h; obtain ⟨v2, ev2, h⟩ := h
  refine g_getF (C := RX3) (T := TX3) (N := 9) (ci := 2) (k := 0) (pc' := 8) O dX3_copyFrom_5 rfl inX3 (by decide) tw_105 (gN_F ev2) rfl ?_
  replace h := ob h; obtain ⟨u3, eu3, h⟩ := h
  replace h := ob h; obtain ⟨r4, er4, h⟩ := h
  refine g_callV (y := yX4_copyFrom) (ν := mX4_copyFrom) (n := 1) (As := [.ref v2]) (b := v1) (st := []) (M2 := r4) (r1 := none) (pc' := 11) O dX3_copyFrom_8 tw_623 tw_55 tw_621 tw_622 tw_703 hyX4_copyFrom rfl rfl eu3 (okX4_copyFrom er4) (Nat.le_of_ble_eq_true rfl) ⟨Nat.le_of_ble_eq_true rfl, Nat.le_of_ble_eq_true rfl⟩ ⟨Nat.le_of_ble_eq_true rfl, Nat.le_of_ble_eq_true rfl⟩ rfl ?_
  show G κ mX3_copyFrom 0 0 11 [(0, .ref this), (1, .ref p0)] [] r4
  refine g_aload_n (pc' := 12) 0 O dX3_copyFrom_11 rfl rfl rfl ?_
  replace h := ob h; obtain ⟨v5, ev5, h⟩ := h
  refine g_getF (C := RX3) (T := TX3) (N := 9) (ci := 2) (k := 1) (pc' := 15) O dX3_copyFrom_12 rfl inX3 (by decide) tw_107 (gN_F ev5) rfl ?_
  refine g_aload_n (pc' := 16) 1 O dX3_copyFrom_15 rfl rfl rfl ?_
  replace h := ob h; obtain ⟨v6, ev6, h⟩ := h
  refine g_getF (C := RX3) (T := TX3) (N := 9) (ci := 2) (k := 1) (pc' := 19) O dX3_copyFrom_16 rfl inX3 (by decide) tw_107 (gN_F ev6) rfl ?_
  replace h := ob h; obtain ⟨u7, eu7, h⟩ := h
  replace h := ob h; obtain ⟨r8, er8, h⟩ := h
  refine g_callV (y := yX4_copyFrom) (ν := mX4_copyFrom) (n := 1) (As := [.ref v6]) (b := v5) (st := []) (M2 := r8) (r1 := none) (pc' := 22) O dX3_copyFrom_19 tw_623 tw_55 tw_621 tw_622 tw_703 hyX4_copyFrom rfl rfl eu7 (okX4_copyFrom er8) (Nat.le_of_ble_eq_true rfl) ⟨Nat.le_of_ble_eq_true rfl, Nat.le_of_ble_eq_true rfl⟩ ⟨Nat.le_of_ble_eq_true rfl, Nat.le_of_ble_eq_true rfl⟩ rfl ?_
  show G κ mX3_copyFrom 0 0 22 [(0, .ref this), (1, .ref p0)] [] r8
  refine g_aload_n (pc' := 23) 0 O dX3_copyFrom_22 rfl rfl rfl ?_
  refine g_aload_n (pc' := 24) 1 O dX3_copyFrom_23 rfl rfl rfl ?_
  replace h := ob h; obtain ⟨v9, ev9, h⟩ := h
  refine g_getF (C := RX3) (T := TX3) (N := 9) (ci := 2) (k := 3) (pc' := 27) O dX3_copyFrom_24 rfl inX3 (by decide) tw_111 (gI_F ev9) rfl ?_
  replace h := ob h; obtain ⟨M10, eM10, h⟩ := h
  refine g_putF (C := RX3) (T := TX3) (N := 9) (ci := 2) (k := 3) (pc' := 30) O dX3_copyFrom_27 rfl inX3 (by decide) tw_111 tyX3 tyX3_ok nmX3 rfl rfl rfl rfl eM10 rfl ?_
  refine g_iconst (v := 0) (pc' := 31) O dX3_copyFrom_30 (by decide) rfl ?_
  refine g_istore_n (lv' := [(2, .int (0 : Int32)), (0, .ref this), (1, .ref p0)]) (pc' := 32) O dX3_copyFrom_31 rfl (by decide) rfl rfl ?_
  refine g_sub (lv' := [(0, .ref this), (1, .ref p0), (2, .int (0 : Int32))]) [1, 2, 0] rfl ?_
  exact tX3_copyFrom_32 O hf FU this p0 (0 : Int32) M10 h
abbrev mX4_byteAt : MD := (cX4_byteAt, 2, RX4, (some .int), { frames := 0, cells := 0, slots := 0, locals := 0 }, "byteAt")
theorem hyX4_byteAt : yX4_byteAt.cls ≠ "java/lang/invoke/MethodHandle" ∧ yX4_byteAt.cls ≠ "java/lang/invoke/VarHandle" ∧ (parseMethodDescriptor yX4_byteAt.desc).map (fun d => d.parameters.length) = some 1 := by decide +kernel
def fX4_byteAt_22  (s0 : Int32) (M : Mem) : Option (Int32 × Mem) :=
  some (s0, M)
set_option maxHeartbeats 4000000 in
set_option maxRecDepth 100000 in
theorem tX4_byteAt_22 {κ : KT} {p : Int32 × Mem} (O : OkK κ mX4_byteAt) (hf : κ.2.2.2.2.2.2.2.2.2.2.2.2.2 = (some (.int p.1), p.2))  {s0 : Int32} {M : Mem} (h : fX4_byteAt_22  s0 M = some p) : G κ mX4_byteAt 0 0 22 [] [.int s0] M := by
  unfold fX4_byteAt_22 at h
  cases h
  exact g_ireturn O dX4_byteAt_22 rfl rfl hf (by decide) (by decide)
def fX4_byteAt_21  (M : Mem) : Option (Int32 × Mem) :=
  fX4_byteAt_22 (-1 : Int32) M
set_option maxHeartbeats 4000000 in
set_option maxRecDepth 100000 in
theorem tX4_byteAt_21 {κ : KT} {p : Int32 × Mem} (O : OkK κ mX4_byteAt) (hf : κ.2.2.2.2.2.2.2.2.2.2.2.2.2 = (some (.int p.1), p.2))  {M : Mem} (h : fX4_byteAt_21  M = some p) : G κ mX4_byteAt 0 0 21 [] [] M := by
  unfold fX4_byteAt_21 at h
  refine g_iconst (v := -1) (pc' := 22) O dX4_byteAt_21 (by decide) rfl ?_
  exact tX4_byteAt_22 O hf h
def fX4_byteAt  (this : Nat) (p0 : Int32) (M : Mem) : Option (Int32 × Mem) :=
  if p0 < 0 then (fX4_byteAt_21 M)
  else ((gI M 3 this 1).bind fun v1 =>
  if v1 ≤ p0 then (fX4_byteAt_21 M)
  else ((gN M 3 this 0).bind fun v2 =>
  (aI M v2 p0).bind fun v3 =>
  fX4_byteAt_22 v3 M))
set_option maxHeartbeats 4000000 in
set_option maxRecDepth 100000 in
theorem okX4_byteAt {l : Launch} {p : Int32 × Mem} {this : Nat} {p0 : Int32} {M : Mem} (h : fX4_byteAt this p0 M = some p) : Cn l yX4_byteAt mX4_byteAt [.ref this, .int p0] M (some (.int p.1)) p.2 := by
  refine Cn.of [(0, .ref this), (1, .int p0)] (by decide) rfl rfl (Nat.le_of_ble_eq_true rfl) rfl (fun κ _ hf O => ?_)
  unfold fX4_byteAt at h
  refine g_iload_n (pc' := 1) 1 O dX4_byteAt_0 rfl rfl rfl ?_
  refine g_if_lt (tgt := 21) (pc' := 4) O dX4_byteAt_1 (by decide) rfl (fun hc => ?_) (fun hc => ?_)
  · replace h := ip hc h
    refine g_sub (lv' := []) [] rfl ?_
    exact tX4_byteAt_21 O hf h
  · replace h := ine hc h
    refine g_iload_n (pc' := 5) 1 O dX4_byteAt_4 rfl rfl rfl ?_
    refine g_aload_n (pc' := 6) 0 O dX4_byteAt_5 rfl rfl rfl ?_
    replace h := ob h; obtain ⟨v1, ev1, h⟩ := h
    refine g_getF (C := RX4) (T := TX4) (N := 2) (ci := 3) (k := 1) (pc' := 9) O dX4_byteAt_6 rfl inX4 (by decide) tw_94 (gI_F ev1) rfl ?_
    refine g_icmp_ge (tgt := 21) (pc' := 12) O dX4_byteAt_9 (by decide) rfl (fun hc => ?_) (fun hc => ?_)
    · replace h := ip hc h
      refine g_sub (lv' := []) [] rfl ?_
      exact tX4_byteAt_21 O hf h
    · replace h := ine hc h
      refine g_aload_n (pc' := 13) 0 O dX4_byteAt_12 rfl rfl rfl ?_
      replace h := ob h; obtain ⟨v2, ev2, h⟩ := h
      refine g_getF (C := RX4) (T := TX4) (N := 2) (ci := 3) (k := 0) (pc' := 16) O dX4_byteAt_13 rfl inX4 (by decide) tw_91 (gN_F ev2) rfl ?_
      refine g_iload_n (pc' := 17) 1 O dX4_byteAt_16 rfl rfl rfl ?_
      replace h := ob h; obtain ⟨v3, ev3, h⟩ := h
      refine g_iald (pc' := 18) O dX4_byteAt_17 ev3 rfl ?_
      refine g_goto (pc' := 22) O dX4_byteAt_18 (by decide) ?_
      refine g_sub (lv' := []) [] rfl ?_
      exact tX4_byteAt_22 O hf h
abbrev mX4_add : MD := (cX4_add, 2, RX4, none, { frames := 0, cells := 0, slots := 0, locals := 0 }, "add")
theorem hyX4_add : yX4_add.cls ≠ "java/lang/invoke/MethodHandle" ∧ yX4_add.cls ≠ "java/lang/invoke/VarHandle" ∧ (parseMethodDescriptor yX4_add.desc).map (fun d => d.parameters.length) = some 1 := by decide +kernel
def fX4_add_32  (M : Mem) : Option (Mem) :=
  some M
set_option maxHeartbeats 4000000 in
set_option maxRecDepth 100000 in
theorem tX4_add_32 {κ : KT} {p : Mem} (O : OkK κ mX4_add) (hf : κ.2.2.2.2.2.2.2.2.2.2.2.2.2 = (none, p))  {M : Mem} (h : fX4_add_32  M = some p) : G κ mX4_add 0 0 32 [] [] M := by
  unfold fX4_add_32 at h
  cases h
  exact g_vreturn O dX4_add_32 rfl hf (by decide) (by decide)
def fX4_add  (this : Nat) (p0 : Int32) (M : Mem) : Option (Mem) :=
  (gI M 3 this 1).bind fun v1 =>
  (gN M 3 this 0).bind fun v2 =>
  (aN M v2).bind fun v3 =>
  if v3 ≤ v1 then (fX4_add_32 M)
  else ((gN M 3 this 0).bind fun v4 =>
  (gI M 3 this 1).bind fun v5 =>
  (sI M v4 v5 p0).bind fun M6 =>
  (gI M6 3 this 1).bind fun v7 =>
  (pF M6 3 this 1 (.int (v7 + (1 : Int32)))).bind fun M8 =>
  fX4_add_32 M8)
set_option maxHeartbeats 4000000 in
set_option maxRecDepth 100000 in
theorem okX4_add {l : Launch} {p : Mem} {this : Nat} {p0 : Int32} {M : Mem} (h : fX4_add this p0 M = some p) : Cn l yX4_add mX4_add [.ref this, .int p0] M none p := by
  refine Cn.of [(0, .ref this), (1, .int p0)] (by decide) rfl rfl (Nat.le_of_ble_eq_true rfl) rfl (fun κ _ hf O => ?_)
  unfold fX4_add at h
  refine g_aload_n (pc' := 1) 0 O dX4_add_0 rfl rfl rfl ?_
  replace h := ob h; obtain ⟨v1, ev1, h⟩ := h
  refine g_getF (C := RX4) (T := TX4) (N := 2) (ci := 3) (k := 1) (pc' := 4) O dX4_add_1 rfl inX4 (by decide) tw_94 (gI_F ev1) rfl ?_
  refine g_aload_n (pc' := 5) 0 O dX4_add_4 rfl rfl rfl ?_
  replace h := ob h; obtain ⟨v2, ev2, h⟩ := h
  refine g_getF (C := RX4) (T := TX4) (N := 2) (ci := 3) (k := 0) (pc' := 8) O dX4_add_5 rfl inX4 (by decide) tw_91 (gN_F ev2) rfl ?_
  replace h := ob h; obtain ⟨v3, ev3, h⟩ := h
  refine g_alen (pc' := 9) O dX4_add_8 ev3 rfl ?_
  refine g_icmp_ge (tgt := 32) (pc' := 12) O dX4_add_9 (by decide) rfl (fun hc => ?_) (fun hc => ?_)
  · replace h := ip hc h
    refine g_sub (lv' := []) [] rfl ?_
    exact tX4_add_32 O hf h
  · replace h := ine hc h
    refine g_aload_n (pc' := 13) 0 O dX4_add_12 rfl rfl rfl ?_
    replace h := ob h; obtain ⟨v4, ev4, h⟩ := h
    refine g_getF (C := RX4) (T := TX4) (N := 2) (ci := 3) (k := 0) (pc' := 16) O dX4_add_13 rfl inX4 (by decide) tw_91 (gN_F ev4) rfl ?_
    refine g_aload_n (pc' := 17) 0 O dX4_add_16 rfl rfl rfl ?_
    replace h := ob h; obtain ⟨v5, ev5, h⟩ := h
    refine g_getF (C := RX4) (T := TX4) (N := 2) (ci := 3) (k := 1) (pc' := 20) O dX4_add_17 rfl inX4 (by decide) tw_94 (gI_F ev5) rfl ?_
    refine g_iload_n (pc' := 21) 1 O dX4_add_20 rfl rfl rfl ?_
    replace h := ob h; obtain ⟨M6, eM6, h⟩ := h
    refine g_iast (pc' := 22) O dX4_add_21 eM6 rfl ?_
    refine g_aload_n (pc' := 23) 0 O dX4_add_22 rfl rfl rfl ?_
    refine g_dup (pc' := 24) O dX4_add_23 rfl rfl ?_
    replace h := ob h; obtain ⟨v7, ev7, h⟩ := h
    refine g_getF (C := RX4) (T := TX4) (N := 2) (ci := 3) (k := 1) (pc' := 27) O dX4_add_24 rfl inX4 (by decide) tw_94 (gI_F ev7) rfl ?_
    refine g_iconst (v := 1) (pc' := 28) O dX4_add_27 (by decide) rfl ?_
    refine g_iadd (pc' := 29) O dX4_add_28 rfl ?_
    replace h := ob h; obtain ⟨M8, eM8, h⟩ := h
    refine g_putF (C := RX4) (T := TX4) (N := 2) (ci := 3) (k := 1) (pc' := 32) O dX4_add_29 rfl inX4 (by decide) tw_94 tyX4 tyX4_ok nmX4 rfl rfl rfl rfl eM8 rfl ?_
    refine g_sub (lv' := []) [] rfl ?_
    exact tX4_add_32 O hf h
abbrev mX6_digitOf : MD := (cX6_digitOf, 6, RX6, (some .int), { frames := 0, cells := 0, slots := 0, locals := 0 }, "digitOf")
theorem hyX6_digitOf : yX6_digitOf.cls ≠ "java/lang/invoke/MethodHandle" ∧ yX6_digitOf.cls ≠ "java/lang/invoke/VarHandle" ∧ (parseMethodDescriptor yX6_digitOf.desc).map (fun d => d.parameters.length) = some 2 := by decide +kernel
def fX6_digitOf_5  : Nat → Int32 → Int64 → Int32 → Mem → Option (Int32 × Mem)
  | 0, _, _, _, _ => none
  | n + 1, x2, x3, x5, M =>
    if x2 ≤ x5 then (some (((rmL x3 (10 : Int64)).toInt32), M))
    else (fX6_digitOf_5 n x2 (x3 / (10 : Int64)) (x5 + (1 : Int32)) M)
set_option maxHeartbeats 4000000 in
set_option maxRecDepth 100000 in
theorem tX6_digitOf_5 {κ : KT} {p : Int32 × Mem} (O : OkK κ mX6_digitOf) (hf : κ.2.2.2.2.2.2.2.2.2.2.2.2.2 = (some (.int p.1), p.2))  : ∀ (n : Nat) (x2 : Int32) (x3 : Int64) (x5 : Int32) (M : Mem), fX6_digitOf_5  n x2 x3 x5 M = some p → G κ mX6_digitOf 0 0 5 [(2, .int x2), (3, .long x3), (5, .int x5)] [] M := by
  intro n
  induction n with
  | zero => intro x2 x3 x5 M h; cases h
  | succ n ih =>
    intro x2 x3 x5 M h
    rw [fX6_digitOf_5] at h
    refine g_iload (pc' := 7) 2 O dX6_digitOf_5 rfl rfl ?_
    refine g_iload_n (pc' := 8) 0 O dX6_digitOf_7 rfl rfl rfl ?_
    refine g_icmp_ge (tgt := 23) (pc' := 11) O dX6_digitOf_8 (by decide) rfl (fun hc => ?_) (fun hc => ?_)
    · replace h := ip hc h
      refine g_lload_n (pc' := 24) 1 O dX6_digitOf_23 rfl rfl rfl ?_
      refine g_ldc2 (v := 10) (pc' := 27) O dX6_digitOf_24 tw_475 rfl ?_
      refine g_lrem2 (pc' := 28) O dX6_digitOf_27 (by decide) rfl ?_
      refine g_l2i (pc' := 29) O dX6_digitOf_28 rfl ?_
      cases h
      exact g_ireturn O dX6_digitOf_29 rfl rfl hf (by decide) (by decide)
    · replace h := ine hc h
      refine g_lload_n (pc' := 12) 1 O dX6_digitOf_11 rfl rfl rfl ?_
      refine g_ldc2 (v := 10) (pc' := 15) O dX6_digitOf_12 tw_475 rfl ?_
      refine g_ldiv (pc' := 16) O dX6_digitOf_15 (by decide) rfl ?_
      refine g_lstore_n (lv' := [(3, .long (x3 / (10 : Int64))), (2, .int x2), (5, .int x5)]) (pc' := 17) O dX6_digitOf_16 rfl (by decide) rfl rfl ?_
      refine g_iinc (q := 2) (v := x5 + (1 : Int32)) (lv' := [(5, .int (x5 + (1 : Int32))), (3, .long (x3 / (10 : Int64))), (2, .int x2)]) (pc' := 20) O dX6_digitOf_17 rfl rfl (by decide) rfl rfl ?_
      refine g_goto (pc' := 5) O dX6_digitOf_20 (by decide) ?_
      refine g_sub (lv' := [(2, .int x2), (3, .long (x3 / (10 : Int64))), (5, .int (x5 + (1 : Int32)))]) [2, 1, 0] rfl ?_
      exact ih x2 (x3 / (10 : Int64)) (x5 + (1 : Int32)) M h
def fX6_digitOf  (p0 : Int64) (p1 : Int32) (M : Mem) : Option (Int32 × Mem) :=
  fX6_digitOf_5 FU p1 p0 (0 : Int32) M
set_option maxHeartbeats 4000000 in
set_option maxRecDepth 100000 in
theorem okX6_digitOf {l : Launch} {p : Int32 × Mem} {p0 : Int64} {p1 : Int32} {M : Mem} (h : fX6_digitOf p0 p1 M = some p) : Cn l yX6_digitOf mX6_digitOf [.long p0, .int p1] M (some (.int p.1)) p.2 := by
  refine Cn.of [(0, .long p0), (2, .int p1)] (by decide) rfl rfl (Nat.le_of_ble_eq_true rfl) rfl (fun κ _ hf O => ?_)
  unfold fX6_digitOf at h
  refine g_lload_n (pc' := 1) 0 O dX6_digitOf_0 rfl rfl rfl ?_
  refine g_lstore_n (lv' := [(3, .long p0), (0, .long p0), (2, .int p1)]) (pc' := 2) O dX6_digitOf_1 rfl (by decide) rfl rfl ?_
  refine g_iconst (v := 0) (pc' := 3) O dX6_digitOf_2 (by decide) rfl ?_
  refine g_istore (lv' := [(5, .int (0 : Int32)), (3, .long p0), (0, .long p0), (2, .int p1)]) (pc' := 5) O dX6_digitOf_3 (by decide) rfl rfl ?_
  refine g_sub (lv' := [(2, .int p1), (3, .long p0), (5, .int (0 : Int32))]) [3, 1, 0] rfl ?_
  exact tX6_digitOf_5 O hf FU p1 p0 (0 : Int32) M h
abbrev mX4_addDigits : MD := (cX4_addDigits, 4, RX4, none, { frames := 1, cells := 0, slots := 0, locals := 25 }, "addDigits")
theorem hyX4_addDigits : yX4_addDigits.cls ≠ "java/lang/invoke/MethodHandle" ∧ yX4_addDigits.cls ≠ "java/lang/invoke/VarHandle" ∧ (parseMethodDescriptor yX4_addDigits.desc).map (fun d => d.parameters.length) = some 2 := by decide +kernel
def fX4_addDigits_4  : Nat → Nat → Int32 → Int32 → Mem → Option (Mem)
  | 0, _, _, _, _ => none
  | n + 1, x0, x1, x3, M =>
    if x3 < 0 then (some M)
    else ((fX6_digitOf (x1.toInt64) x3 M).bind fun r1 =>
    (ck r1.2 3 x0).bind fun u2 =>
    (fX4_add x0 ((48 : Int32) + r1.1) r1.2).bind fun r3 =>
    fX4_addDigits_4 n x0 x1 (x3 + (-1 : Int32)) r3)
set_option maxHeartbeats 4000000 in
set_option maxRecDepth 100000 in
theorem tX4_addDigits_4 {κ : KT} {p : Mem} (O : OkK κ mX4_addDigits) (hf : κ.2.2.2.2.2.2.2.2.2.2.2.2.2 = (none, p))  : ∀ (n : Nat) (x0 : Nat) (x1 : Int32) (x3 : Int32) (M : Mem), fX4_addDigits_4  n x0 x1 x3 M = some p → G κ mX4_addDigits 0 0 4 [(0, .ref x0), (1, .int x1), (3, .int x3)] [] M := by
  intro n
  induction n with
  | zero => intro x0 x1 x3 M h; cases h
  | succ n ih =>
    intro x0 x1 x3 M h
    rw [fX4_addDigits_4] at h
    refine g_iload_n (pc' := 5) 2 O dX4_addDigits_4 rfl rfl rfl ?_
    refine g_if_lt (tgt := 27) (pc' := 8) O dX4_addDigits_5 (by decide) rfl (fun hc => ?_) (fun hc => ?_)
    · replace h := ip hc h
      cases h
      exact g_vreturn O dX4_addDigits_27 rfl hf (by decide) (by decide)
    · replace h := ine hc h
      refine g_aload_n (pc' := 9) 0 O dX4_addDigits_8 rfl rfl rfl ?_
      refine g_bipush (v := 48) (pc' := 11) O dX4_addDigits_9 (by decide) rfl ?_
      refine g_iload_n (pc' := 12) 1 O dX4_addDigits_11 rfl rfl rfl ?_
      refine g_i2l (pc' := 13) O dX4_addDigits_12 rfl ?_
      refine g_iload_n (pc' := 14) 2 O dX4_addDigits_13 rfl rfl rfl ?_
      replace h := ob h; obtain ⟨r1, er1, h⟩ := h
      refine g_callS (y := yX6_digitOf) (ν := mX6_digitOf) (n := 2) (As := [.long (x1.toInt64), .int x3]) (b := 0) (st := [.int (48 : Int32), .ref x0]) (M2 := r1.2) (r1 := (some (.int r1.1))) (pc' := 17) O dX4_addDigits_14 tw_474 tw_61 tw_473 tw_472 hyX6_digitOf rfl (okX6_digitOf er1) (Nat.le_of_ble_eq_true rfl) ⟨Nat.le_of_ble_eq_true rfl, Nat.le_of_ble_eq_true rfl⟩ ⟨Nat.le_of_ble_eq_true rfl, Nat.le_of_ble_eq_true rfl⟩ rfl ?_
      show G κ mX4_addDigits 0 0 17 [(0, .ref x0), (1, .int x1), (3, .int x3)] [.int r1.1, .int (48 : Int32), .ref x0] r1.2
      refine g_iadd (pc' := 18) O dX4_addDigits_17 rfl ?_
      replace h := ob h; obtain ⟨u2, eu2, h⟩ := h
      replace h := ob h; obtain ⟨r3, er3, h⟩ := h
      refine g_callV (y := yX4_add) (ν := mX4_add) (n := 1) (As := [.int ((48 : Int32) + r1.1)]) (b := x0) (st := []) (M2 := r3) (r1 := none) (pc' := 21) O dX4_addDigits_18 tw_264 tw_55 tw_262 tw_263 tw_476 hyX4_add rfl rfl eu2 (okX4_add er3) (Nat.le_of_ble_eq_true rfl) ⟨Nat.le_of_ble_eq_true rfl, Nat.le_of_ble_eq_true rfl⟩ ⟨Nat.le_of_ble_eq_true rfl, Nat.le_of_ble_eq_true rfl⟩ rfl ?_
      show G κ mX4_addDigits 0 0 21 [(0, .ref x0), (1, .int x1), (3, .int x3)] [] r3
      refine g_iinc (q := 2) (v := x3 + (-1 : Int32)) (lv' := [(3, .int (x3 + (-1 : Int32))), (0, .ref x0), (1, .int x1)]) (pc' := 24) O dX4_addDigits_21 rfl rfl (by decide) rfl rfl ?_
      refine g_goto (pc' := 4) O dX4_addDigits_24 (by decide) ?_
      refine g_sub (lv' := [(0, .ref x0), (1, .int x1), (3, .int (x3 + (-1 : Int32)))]) [1, 2, 0] rfl ?_
      exact ih x0 x1 (x3 + (-1 : Int32)) r3 h
def fX4_addDigits  (this : Nat) (p0 : Int32) (p1 : Int32) (M : Mem) : Option (Mem) :=
  fX4_addDigits_4 FU this p0 (p1 - (1 : Int32)) M
set_option maxHeartbeats 4000000 in
set_option maxRecDepth 100000 in
theorem okX4_addDigits {l : Launch} {p : Mem} {this : Nat} {p0 : Int32} {p1 : Int32} {M : Mem} (h : fX4_addDigits this p0 p1 M = some p) : Cn l yX4_addDigits mX4_addDigits [.ref this, .int p0, .int p1] M none p := by
  refine Cn.of [(0, .ref this), (1, .int p0), (2, .int p1)] (by decide) rfl rfl (Nat.le_of_ble_eq_true rfl) rfl (fun κ _ hf O => ?_)
  unfold fX4_addDigits at h
  refine g_iload_n (pc' := 1) 2 O dX4_addDigits_0 rfl rfl rfl ?_
  refine g_iconst (v := 1) (pc' := 2) O dX4_addDigits_1 (by decide) rfl ?_
  refine g_isub (pc' := 3) O dX4_addDigits_2 rfl ?_
  refine g_istore_n (lv' := [(3, .int (p1 - (1 : Int32))), (0, .ref this), (1, .int p0), (2, .int p1)]) (pc' := 4) O dX4_addDigits_3 rfl (by decide) rfl rfl ?_
  refine g_sub (lv' := [(0, .ref this), (1, .int p0), (3, .int (p1 - (1 : Int32)))]) [1, 2, 0] rfl ?_
  exact tX4_addDigits_4 O hf FU this p0 (p1 - (1 : Int32)) M h
