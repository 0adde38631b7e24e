abbrev mX8_findValue : MD := (cX8_findValue, 7, RX8, none, { frames := 0, cells := 0, slots := 0, locals := 0 }, "findValue")
theorem hyX8_findValue : yX8_findValue.cls ≠ "java/lang/invoke/MethodHandle" ∧ yX8_findValue.cls ≠ "java/lang/invoke/VarHandle" ∧ (parseMethodDescriptor yX8_findValue.desc).map (fun d => d.parameters.length) = some 1 := by decide +kernel
def fX8_findValue_125  (s0 : Int64) (s1 : Nat) (M : Mem) : Option (Mem) :=
  (pF M 5 s1 24 (.long s0)).bind fun M1 =>
  some M1
set_option maxHeartbeats 4000000 in
set_option maxRecDepth 100000 in
theorem tX8_findValue_125 {κ : KT} {p : Mem} (O : OkK κ mX8_findValue) (hf : κ.2.2.2.2.2.2.2.2.2.2.2.2.2 = (none, p))  {s0 : Int64} {s1 : Nat} {M : Mem} (h : fX8_findValue_125  s0 s1 M = some p) : G κ mX8_findValue 0 0 125 [] [.long s0, .ref s1] M := by
  unfold fX8_findValue_125 at h
  replace h := ob h; obtain ⟨M1, eM1, h⟩ := h
  refine g_putF (C := RX8) (T := TX8) (N := 29) (ci := 5) (k := 24) (pc' := 128) O dX8_findValue_125 rfl inX8 (by decide) tw_740 tyX8 tyX8_ok nmX8 rfl rfl rfl rfl eM1 rfl ?_
  cases h
  exact g_vreturn O dX8_findValue_128 rfl hf (by decide) (by decide)
def fX8_findValue_108 (k63 : Nat → Int32 → Int64 → Int64 → Int32 → Mem → Option (Mem)) (x0 : Nat) (x1 : Int32) (x2 : Int64) (x4 : Int64) (x6 : Int32) (M : Mem) : Option (Mem) :=
  k63 x0 x1 x2 x4 (x6 + (1 : Int32)) M
set_option maxHeartbeats 4000000 in
set_option maxRecDepth 100000 in
theorem tX8_findValue_108 {κ : KT} {p : Mem} (O : OkK κ mX8_findValue) (hf : κ.2.2.2.2.2.2.2.2.2.2.2.2.2 = (none, p)) {k63 : Nat → Int32 → Int64 → Int64 → Int32 → Mem → Option (Mem)} (hk63 : ∀ (x0 : Nat) (x1 : Int32) (x2 : Int64) (x4 : Int64) (x6 : Int32) (M : Mem), k63 x0 x1 x2 x4 x6 M = some p → G κ mX8_findValue 0 0 63 [(0, .ref x0), (1, .int x1), (2, .long x2), (4, .long x4), (6, .int x6)] [] M) {x0 : Nat} {x1 : Int32} {x2 : Int64} {x4 : Int64} {x6 : Int32} {M : Mem} (h : fX8_findValue_108 k63 x0 x1 x2 x4 x6 M = some p) : G κ mX8_findValue 0 0 108 [(0, .ref x0), (1, .int x1), (2, .long x2), (4, .long x4), (6, .int x6)] [] M := by
  unfold fX8_findValue_108 at h
  refine g_iinc (q := 4) (v := x6 + (1 : Int32)) (lv' := [(6, .int (x6 + (1 : Int32))), (0, .ref x0), (1, .int x1), (2, .long x2), (4, .long x4)]) (pc' := 111) O dX8_findValue_108 rfl rfl (by decide) rfl rfl ?_
  refine g_goto (pc' := 63) O dX8_findValue_111 (by decide) ?_
  refine g_sub (lv' := [(0, .ref x0), (1, .int x1), (2, .long x2), (4, .long x4), (6, .int (x6 + (1 : Int32)))]) [1, 2, 3, 4, 0] rfl ?_
  exact hk63 x0 x1 x2 x4 (x6 + (1 : Int32)) M h
def fX8_findValue_63  : Nat → Nat → Int32 → Int64 → Int64 → Int32 → Mem → Option (Mem)
  | 0, _, _, _, _, _, _ => none
  | n + 1, x0, x1, x2, x4, x6, M =>
    (gI M 5 x0 23).bind fun v1 =>
    if v1 ≤ x6 then (if x1 = 0 then (fX8_findValue_125 x2 x0 M)
    else (fX8_findValue_125 (-x2) x0 M))
    else ((gN M 5 x0 22).bind fun v2 =>
    (aI M v2 x6).bind fun v3 =>
    if v3 = (2 : Int32) then ((gN M 5 x0 19).bind fun v4 =>
    (aI M v4 x6).bind fun v5 =>
    fX8_findValue_108 (fX8_findValue_63 n) x0 x1 (x2 + ((x4 / (10 : Int64)) * ((v5 - (48 : Int32)).toInt64))) (x4 / (10 : Int64)) x6 M)
    else (fX8_findValue_108 (fX8_findValue_63 n) x0 x1 x2 x4 x6 M))
set_option maxHeartbeats 4000000 in
set_option maxRecDepth 100000 in
theorem tX8_findValue_63 {κ : KT} {p : Mem} (O : OkK κ mX8_findValue) (hf : κ.2.2.2.2.2.2.2.2.2.2.2.2.2 = (none, p))  : ∀ (n : Nat) (x0 : Nat) (x1 : Int32) (x2 : Int64) (x4 : Int64) (x6 : Int32) (M : Mem), fX8_findValue_63  n x0 x1 x2 x4 x6 M = some p → G κ mX8_findValue 0 0 63 [(0, .ref x0), (1, .int x1), (2, .long x2), (4, .long x4), (6, .int x6)] [] M := by
  intro n
  induction n with
  | zero => intro x0 x1 x2 x4 x6 M h; cases h
  | succ n ih =>
    intro x0 x1 x2 x4 x6 M h
    rw [fX8_findValue_63] at h
    refine g_iload (pc' := 65) 4 O dX8_findValue_63 rfl rfl ?_
    refine g_aload_n (pc' := 66) 0 O dX8_findValue_65 rfl rfl rfl ?_
    replace h := ob h; obtain ⟨v1, ev1, h⟩ := h
    refine g_getF (C := RX8) (T := TX8) (N := 29) (ci := 5) (k := 23) (pc' := 69) O dX8_findValue_66 rfl inX8 (by decide) tw_739 (gI_F ev1) rfl ?_
    refine g_icmp_ge (tgt := 114) (pc' := 72) O dX8_findValue_69 (by decide) rfl (fun hc => ?_) (fun hc => ?_)
    · replace h := ip hc h
      refine g_aload_n (pc' := 115) 0 O dX8_findValue_114 rfl rfl rfl ?_
      refine g_iload_n (pc' := 116) 1 O dX8_findValue_115 rfl rfl rfl ?_
      refine g_if_eq (tgt := 124) (pc' := 119) O dX8_findValue_116 (by decide) rfl (fun hc => ?_) (fun hc => ?_)
      · replace h := ip hc h
        refine g_lload_n (pc' := 125) 2 O dX8_findValue_124 rfl rfl rfl ?_
        refine g_sub (lv' := []) [] rfl ?_
        exact tX8_findValue_125 O hf h
      · replace h := ine hc h
        refine g_lload_n (pc' := 120) 2 O dX8_findValue_119 rfl rfl rfl ?_
        refine g_lneg (pc' := 121) O dX8_findValue_120 rfl ?_
        refine g_goto (pc' := 125) O dX8_findValue_121 (by decide) ?_
        refine g_sub (lv' := []) [] rfl ?_
        exact tX8_findValue_125 O hf h
    · replace h := ine hc h
      refine g_aload_n (pc' := 73) 0 O dX8_findValue_72 rfl rfl rfl ?_
      replace h := ob h; obtain ⟨v2, ev2, h⟩ := h
      refine g_getF (C := RX8) (T := TX8) (N := 29) (ci := 5) (k := 22) (pc' := 76) O dX8_findValue_73 rfl inX8 (by decide) tw_738 (gN_F ev2) rfl ?_
      refine g_iload (pc' := 78) 4 O dX8_findValue_76 rfl rfl ?_
      replace h := ob h; obtain ⟨v3, ev3, h⟩ := h
      refine g_iald (pc' := 79) O dX8_findValue_78 ev3 rfl ?_
      refine g_iconst (v := 2) (pc' := 80) O dX8_findValue_79 (by decide) rfl ?_
      refine g_icmp_ne (tgt := 108) (pc' := 83) O dX8_findValue_80 (by decide) rfl (fun hc => ?_) (fun hc => ?_)
      · replace h := ine hc h
        exact tX8_findValue_108 O hf ih h
      · replace h := ip hc h
        refine g_lload (pc' := 85) 3 O dX8_findValue_83 rfl rfl ?_
        refine g_ldc2 (v := 10) (pc' := 88) O dX8_findValue_85 tw_881 rfl ?_
        refine g_ldiv (pc' := 89) O dX8_findValue_88 (by decide) rfl ?_
        refine g_lstore (lv' := [(4, .long (x4 / (10 : Int64))), (0, .ref x0), (1, .int x1), (2, .long x2), (6, .int x6)]) (pc' := 91) O dX8_findValue_89 (by decide) rfl rfl ?_
        refine g_lload_n (pc' := 92) 3 O dX8_findValue_91 rfl rfl rfl ?_
        refine g_lload (pc' := 94) 0 O dX8_findValue_92 rfl rfl ?_
        refine g_aload_n (pc' := 95) 1 O dX8_findValue_94 rfl rfl rfl ?_
        replace h := ob h; obtain ⟨v4, ev4, h⟩ := h
        refine g_getF (C := RX8) (T := TX8) (N := 29) (ci := 5) (k := 19) (pc' := 98) O dX8_findValue_95 rfl inX8 (by decide) tw_735 (gN_F ev4) rfl ?_
        refine g_iload (pc' := 100) 4 O dX8_findValue_98 rfl rfl ?_
        replace h := ob h; obtain ⟨v5, ev5, h⟩ := h
        refine g_iald (pc' := 101) O dX8_findValue_100 ev5 rfl ?_
        refine g_bipush (v := 48) (pc' := 103) O dX8_findValue_101 (by decide) rfl ?_
        refine g_isub (pc' := 104) O dX8_findValue_103 rfl ?_
        refine g_i2l (pc' := 105) O dX8_findValue_104 rfl ?_
        refine g_lmul (pc' := 106) O dX8_findValue_105 rfl ?_
        refine g_ladd (pc' := 107) O dX8_findValue_106 rfl ?_
        refine g_lstore_n (lv' := [(2, .long (x2 + ((x4 / (10 : Int64)) * ((v5 - (48 : Int32)).toInt64)))), (4, .long (x4 / (10 : Int64))), (0, .ref x0), (1, .int x1), (6, .int x6)]) (pc' := 108) O dX8_findValue_107 rfl (by decide) rfl rfl ?_
        refine g_sub (lv' := [(0, .ref x0), (1, .int x1), (2, .long (x2 + ((x4 / (10 : Int64)) * ((v5 - (48 : Int32)).toInt64)))), (4, .long (x4 / (10 : Int64))), (6, .int x6)]) [2, 3, 0, 1, 4] rfl ?_
        exact tX8_findValue_108 O hf ih h
def fX8_findValue_48 (k10 : Nat → Int32 → Int64 → Int64 → Int32 → Mem → Option (Mem)) (x0 : Nat) (x1 : Int32) (x2 : Int64) (x4 : Int64) (x6 : Int32) (M : Mem) : Option (Mem) :=
  k10 x0 x1 x2 x4 (x6 + (1 : Int32)) M
set_option maxHeartbeats 4000000 in
set_option maxRecDepth 100000 in
theorem tX8_findValue_48 {κ : KT} {p : Mem} (O : OkK κ mX8_findValue) (hf : κ.2.2.2.2.2.2.2.2.2.2.2.2.2 = (none, p)) {k10 : Nat → Int32 → Int64 → Int64 → Int32 → Mem → Option (Mem)} (hk10 : ∀ (x0 : Nat) (x1 : Int32) (x2 : Int64) (x4 : Int64) (x6 : Int32) (M : Mem), k10 x0 x1 x2 x4 x6 M = some p → G κ mX8_findValue 0 0 10 [(0, .ref x0), (1, .int x1), (2, .long x2), (4, .long x4), (6, .int x6)] [] M) {x0 : Nat} {x1 : Int32} {x2 : Int64} {x4 : Int64} {x6 : Int32} {M : Mem} (h : fX8_findValue_48 k10 x0 x1 x2 x4 x6 M = some p) : G κ mX8_findValue 0 0 48 [(0, .ref x0), (1, .int x1), (2, .long x2), (4, .long x4), (6, .int x6)] [] M := by
  unfold fX8_findValue_48 at h
  refine g_iinc (q := 4) (v := x6 + (1 : Int32)) (lv' := [(6, .int (x6 + (1 : Int32))), (0, .ref x0), (1, .int x1), (2, .long x2), (4, .long x4)]) (pc' := 51) O dX8_findValue_48 rfl rfl (by decide) rfl rfl ?_
  refine g_goto (pc' := 10) O dX8_findValue_51 (by decide) ?_
  refine g_sub (lv' := [(0, .ref x0), (1, .int x1), (2, .long x2), (4, .long x4), (6, .int (x6 + (1 : Int32)))]) [1, 2, 3, 4, 0] rfl ?_
  exact hk10 x0 x1 x2 x4 (x6 + (1 : Int32)) M h
def fX8_findValue_10  : Nat → Nat → Int32 → Int64 → Int64 → Int32 → Mem → Option (Mem)
  | 0, _, _, _, _, _, _ => none
  | n + 1, x0, x1, x2, x4, x6, M =>
    (gI M 5 x0 23).bind fun v1 =>
    if v1 ≤ x6 then (fX8_findValue_63 FU x0 x1 (x2 * (1000000 : Int64)) x4 (0 : Int32) M)
    else ((gN M 5 x0 22).bind fun v2 =>
    (aI M v2 x6).bind fun v3 =>
    if v3 = (1 : Int32) then ((gN M 5 x0 19).bind fun v4 =>
    (aI M v4 x6).bind fun v5 =>
    fX8_findValue_48 (fX8_findValue_10 n) x0 x1 (((10 : Int64) * x2) + ((v5 - (48 : Int32)).toInt64)) x4 x6 M)
    else (fX8_findValue_48 (fX8_findValue_10 n) x0 x1 x2 x4 x6 M))
set_option maxHeartbeats 4000000 in
set_option maxRecDepth 100000 in
theorem tX8_findValue_10 {κ : KT} {p : Mem} (O : OkK κ mX8_findValue) (hf : κ.2.2.2.2.2.2.2.2.2.2.2.2.2 = (none, p))  : ∀ (n : Nat) (x0 : Nat) (x1 : Int32) (x2 : Int64) (x4 : Int64) (x6 : Int32) (M : Mem), fX8_findValue_10  n x0 x1 x2 x4 x6 M = some p → G κ mX8_findValue 0 0 10 [(0, .ref x0), (1, .int x1), (2, .long x2), (4, .long x4), (6, .int x6)] [] M := by
  intro n
  induction n with
  | zero => intro x0 x1 x2 x4 x6 M h; cases h
  | succ n ih =>
    intro x0 x1 x2 x4 x6 M h
    rw [fX8_findValue_10] at h
    refine g_iload (pc' := 12) 4 O dX8_findValue_10 rfl rfl ?_
    refine g_aload_n (pc' := 13) 0 O dX8_findValue_12 rfl rfl rfl ?_
    replace h := ob h; obtain ⟨v1, ev1, h⟩ := h
    refine g_getF (C := RX8) (T := TX8) (N := 29) (ci := 5) (k := 23) (pc' := 16) O dX8_findValue_13 rfl inX8 (by decide) tw_739 (gI_F ev1) rfl ?_
    refine g_icmp_ge (tgt := 54) (pc' := 19) O dX8_findValue_16 (by decide) rfl (fun hc => ?_) (fun hc => ?_)
    · replace h := ip hc h
      refine g_lload_n (pc' := 55) 2 O dX8_findValue_54 rfl rfl rfl ?_
      refine g_ldc2 (v := 1000000) (pc' := 58) O dX8_findValue_55 tw_880 rfl ?_
      refine g_lmul (pc' := 59) O dX8_findValue_58 rfl ?_
      refine g_lstore_n (lv' := [(2, .long (x2 * (1000000 : Int64))), (0, .ref x0), (1, .int x1), (4, .long x4), (6, .int x6)]) (pc' := 60) O dX8_findValue_59 rfl (by decide) rfl rfl ?_
      refine g_iconst (v := 0) (pc' := 61) O dX8_findValue_60 (by decide) rfl ?_
      refine g_istore (lv' := [(6, .int (0 : Int32)), (2, .long (x2 * (1000000 : Int64))), (0, .ref x0), (1, .int x1), (4, .long x4)]) (pc' := 63) O dX8_findValue_61 (by decide) rfl rfl ?_
      refine g_sub (lv' := [(0, .ref x0), (1, .int x1), (2, .long (x2 * (1000000 : Int64))), (4, .long x4), (6, .int (0 : Int32))]) [2, 3, 1, 4, 0] rfl ?_
      exact tX8_findValue_63 O hf FU x0 x1 (x2 * (1000000 : Int64)) x4 (0 : Int32) M h
    · replace h := ine hc h
      refine g_aload_n (pc' := 20) 0 O dX8_findValue_19 rfl rfl rfl ?_
      replace h := ob h; obtain ⟨v2, ev2, h⟩ := h
      refine g_getF (C := RX8) (T := TX8) (N := 29) (ci := 5) (k := 22) (pc' := 23) O dX8_findValue_20 rfl inX8 (by decide) tw_738 (gN_F ev2) rfl ?_
      refine g_iload (pc' := 25) 4 O dX8_findValue_23 rfl rfl ?_
      replace h := ob h; obtain ⟨v3, ev3, h⟩ := h
      refine g_iald (pc' := 26) O dX8_findValue_25 ev3 rfl ?_
      refine g_iconst (v := 1) (pc' := 27) O dX8_findValue_26 (by decide) rfl ?_
      refine g_icmp_ne (tgt := 48) (pc' := 30) O dX8_findValue_27 (by decide) rfl (fun hc => ?_) (fun hc => ?_)
      · replace h := ine hc h
        exact tX8_findValue_48 O hf ih h
      · replace h := ip hc h
        refine g_ldc2 (v := 10) (pc' := 33) O dX8_findValue_30 tw_881 rfl ?_
        refine g_lload_n (pc' := 34) 2 O dX8_findValue_33 rfl rfl rfl ?_
        refine g_lmul (pc' := 35) O dX8_findValue_34 rfl ?_
        refine g_aload_n (pc' := 36) 0 O dX8_findValue_35 rfl rfl rfl ?_
        replace h := ob h; obtain ⟨v4, ev4, h⟩ := h
        refine g_getF (C := RX8) (T := TX8) (N := 29) (ci := 5) (k := 19) (pc' := 39) O dX8_findValue_36 rfl inX8 (by decide) tw_735 (gN_F ev4) rfl ?_
        refine g_iload (pc' := 41) 4 O dX8_findValue_39 rfl rfl ?_
        replace h := ob h; obtain ⟨v5, ev5, h⟩ := h
        refine g_iald (pc' := 42) O dX8_findValue_41 ev5 rfl ?_
        refine g_bipush (v := 48) (pc' := 44) O dX8_findValue_42 (by decide) rfl ?_
        refine g_isub (pc' := 45) O dX8_findValue_44 rfl ?_
        refine g_i2l (pc' := 46) O dX8_findValue_45 rfl ?_
        refine g_ladd (pc' := 47) O dX8_findValue_46 rfl ?_
        refine g_lstore_n (lv' := [(2, .long (((10 : Int64) * x2) + ((v5 - (48 : Int32)).toInt64))), (0, .ref x0), (1, .int x1), (4, .long x4), (6, .int x6)]) (pc' := 48) O dX8_findValue_47 rfl (by decide) rfl rfl ?_
        refine g_sub (lv' := [(0, .ref x0), (1, .int x1), (2, .long (((10 : Int64) * x2) + ((v5 - (48 : Int32)).toInt64))), (4, .long x4), (6, .int x6)]) [1, 2, 0, 3, 4] rfl ?_
        exact tX8_findValue_48 O hf ih h
def fX8_findValue  (this : Nat) (p0 : Int32) (M : Mem) : Option (Mem) :=
  fX8_findValue_10 FU this p0 (0 : Int64) (1000000 : Int64) (0 : Int32) M
set_option maxHeartbeats 4000000 in
set_option maxRecDepth 100000 in
theorem okX8_findValue {l : Launch} {p : Mem} {this : Nat} {p0 : Int32} {M : Mem} (h : fX8_findValue this p0 M = some p) : Cn l yX8_findValue mX8_findValue [.ref this, .int p0] M none p := by
  refine Cn.of [(0, .ref this), (1, .int p0)] (by decide) rfl rfl (Nat.le_of_ble_eq_true rfl) rfl (fun κ _ hf O => ?_)
  unfold fX8_findValue at h
  refine g_lconst (v := 0) (pc' := 1) O dX8_findValue_0 (by decide) rfl ?_
  refine g_lstore_n (lv' := [(2, .long (0 : Int64)), (0, .ref this), (1, .int p0)]) (pc' := 2) O dX8_findValue_1 rfl (by decide) rfl rfl ?_
  refine g_ldc2 (v := 1000000) (pc' := 5) O dX8_findValue_2 tw_880 rfl ?_
  refine g_lstore (lv' := [(4, .long (1000000 : Int64)), (2, .long (0 : Int64)), (0, .ref this), (1, .int p0)]) (pc' := 7) O dX8_findValue_5 (by decide) rfl rfl ?_
  refine g_iconst (v := 0) (pc' := 8) O dX8_findValue_7 (by decide) rfl ?_
  refine g_istore (lv' := [(6, .int (0 : Int32)), (4, .long (1000000 : Int64)), (2, .long (0 : Int64)), (0, .ref this), (1, .int p0)]) (pc' := 10) O dX8_findValue_8 (by decide) rfl rfl ?_
  refine g_sub (lv' := [(0, .ref this), (1, .int p0), (2, .long (0 : Int64)), (4, .long (1000000 : Int64)), (6, .int (0 : Int32))]) [3, 4, 2, 1, 0] rfl ?_
  exact tX8_findValue_10 O hf FU this p0 (0 : Int64) (1000000 : Int64) (0 : Int32) M h
abbrev mX8_amount : MD := (cX8_amount, 11, RX8, (some .int), { frames := 3, cells := 0, slots := 0, locals := 75 }, "amount")
theorem hyX8_amount : yX8_amount.cls ≠ "java/lang/invoke/MethodHandle" ∧ yX8_amount.cls ≠ "java/lang/invoke/VarHandle" ∧ (parseMethodDescriptor yX8_amount.desc).map (fun d => d.parameters.length) = some 3 := by decide +kernel
def fX8_amount_148 (k18 : Nat → Int32 → Int32 → Int32 → Int32 → Int32 → Int32 → Mem → Option (Int32 × Mem)) (k28 : Nat → Int32 → Int32 → Int32 → Int32 → Int32 → Int32 → Int32 → Mem → Option (Int32 × Mem)) (k38 : Nat → Int32 → Int32 → Int32 → Int32 → Int32 → Int32 → Int32 → Int32 → Mem → Option (Int32 × Mem)) (x0 : Nat) (x1 : Int32) (x2 : Int32) (x3 : Int32) (x4 : Int32) (x5 : Int32) (x6 : Int32) (x7 : Int32) (x8 : Int32) (M : Mem) : Option (Int32 × Mem) :=
  k38 x0 x1 x2 x3 x4 x5 x6 x7 (x8 + (1 : Int32)) M
set_option maxHeartbeats 4000000 in
set_option maxRecDepth 100000 in
theorem tX8_amount_148 {κ : KT} {p : Int32 × Mem} (O : OkK κ mX8_amount) (hf : κ.2.2.2.2.2.2.2.2.2.2.2.2.2 = (some (.int p.1), p.2)) {k18 : Nat → Int32 → Int32 → Int32 → Int32 → Int32 → Int32 → Mem → Option (Int32 × Mem)} (hk18 : ∀ (x0 : Nat) (x1 : Int32) (x2 : Int32) (x3 : Int32) (x4 : Int32) (x5 : Int32) (x6 : Int32) (M : Mem), k18 x0 x1 x2 x3 x4 x5 x6 M = some p → G κ mX8_amount 0 0 18 [(0, .ref x0), (1, .int x1), (2, .int x2), (3, .int x3), (4, .int x4), (5, .int x5), (6, .int x6)] [] M) {k28 : Nat → Int32 → Int32 → Int32 → Int32 → Int32 → Int32 → Int32 → Mem → Option (Int32 × Mem)} (hk28 : ∀ (x0 : Nat) (x1 : Int32) (x2 : Int32) (x3 : Int32) (x4 : Int32) (x5 : Int32) (x6 : Int32) (x7 : Int32) (M : Mem), k28 x0 x1 x2 x3 x4 x5 x6 x7 M = some p → G κ mX8_amount 0 0 28 [(0, .ref x0), (1, .int x1), (2, .int x2), (3, .int x3), (4, .int x4), (5, .int x5), (6, .int x6), (7, .int x7)] [] M) {k38 : Nat → Int32 → Int32 → Int32 → Int32 → Int32 → Int32 → Int32 → Int32 → Mem → Option (Int32 × Mem)} (hk38 : ∀ (x0 : Nat) (x1 : Int32) (x2 : Int32) (x3 : Int32) (x4 : Int32) (x5 : Int32) (x6 : Int32) (x7 : Int32) (x8 : Int32) (M : Mem), k38 x0 x1 x2 x3 x4 x5 x6 x7 x8 M = some p → G κ mX8_amount 0 0 38 [(0, .ref x0), (1, .int x1), (2, .int x2), (3, .int x3), (4, .int x4), (5, .int x5), (6, .int x6), (7, .int x7), (8, .int x8)] [] M) {x0 : Nat} {x1 : Int32} {x2 : Int32} {x3 : Int32} {x4 : Int32} {x5 : Int32} {x6 : Int32} {x7 : Int32} {x8 : Int32} {M : Mem} (h : fX8_amount_148 k18 k28 k38 x0 x1 x2 x3 x4 x5 x6 x7 x8 M = some p) : G κ mX8_amount 0 0 148 [(0, .ref x0), (1, .int x1), (2, .int x2), (3, .int x3), (4, .int x4), (5, .int x5), (6, .int x6), (7, .int x7), (8, .int x8)] [] M := by
  unfold fX8_amount_148 at h
  refine g_iinc (q := 8) (v := x8 + (1 : Int32)) (lv' := [(8, .int (x8 + (1 : Int32))), (0, .ref x0), (1, .int x1), (2, .int x2), (3, .int x3), (4, .int x4), (5, .int x5), (6, .int x6), (7, .int x7)]) (pc' := 151) O dX8_amount_148 rfl rfl (by decide) rfl rfl ?_
  refine g_goto (pc' := 38) O dX8_amount_151 (by decide) ?_
  refine g_sub (lv' := [(0, .ref x0), (1, .int x1), (2, .int x2), (3, .int x3), (4, .int x4), (5, .int x5), (6, .int x6), (7, .int x7), (8, .int (x8 + (1 : Int32)))]) [1, 2, 3, 4, 5, 6, 7, 8, 0] rfl ?_
  exact hk38 x0 x1 x2 x3 x4 x5 x6 x7 (x8 + (1 : Int32)) M h
def fX8_amount_146 (k18 : Nat → Int32 → Int32 → Int32 → Int32 → Int32 → Int32 → Mem → Option (Int32 × Mem)) (k28 : Nat → Int32 → Int32 → Int32 → Int32 → Int32 → Int32 → Int32 → Mem → Option (Int32 × Mem)) (k38 : Nat → Int32 → Int32 → Int32 → Int32 → Int32 → Int32 → Int32 → Int32 → Mem → Option (Int32 × Mem)) (x0 : Nat) (x1 : Int32) (x2 : Int32) (x3 : Int32) (x5 : Int32) (x6 : Int32) (x7 : Int32) (x8 : Int32) (s0 : Int32) (M : Mem) : Option (Int32 × Mem) :=
  fX8_amount_148 k18 k28 k38 x0 x1 x2 x3 s0 x5 x6 x7 x8 M
set_option maxHeartbeats 4000000 in
set_option maxRecDepth 100000 in
theorem tX8_amount_146 {κ : KT} {p : Int32 × Mem} (O : OkK κ mX8_amount) (hf : κ.2.2.2.2.2.2.2.2.2.2.2.2.2 = (some (.int p.1), p.2)) {k18 : Nat → Int32 → Int32 → Int32 → Int32 → Int32 → Int32 → Mem → Option (Int32 × Mem)} (hk18 : ∀ (x0 : Nat) (x1 : Int32) (x2 : Int32) (x3 : Int32) (x4 : Int32) (x5 : Int32) (x6 : Int32) (M : Mem), k18 x0 x1 x2 x3 x4 x5 x6 M = some p → G κ mX8_amount 0 0 18 [(0, .ref x0), (1, .int x1), (2, .int x2), (3, .int x3), (4, .int x4), (5, .int x5), (6, .int x6)] [] M) {k28 : Nat → Int32 → Int32 → Int32 → Int32 → Int32 → Int32 → Int32 → Mem → Option (Int32 × Mem)} (hk28 : ∀ (x0 : Nat) (x1 : Int32) (x2 : Int32) (x3 : Int32) (x4 : Int32) (x5 : Int32) (x6 : Int32) (x7 : Int32) (M : Mem), k28 x0 x1 x2 x3 x4 x5 x6 x7 M = some p → G κ mX8_amount 0 0 28 [(0, .ref x0), (1, .int x1), (2, .int x2), (3, .int x3), (4, .int x4), (5, .int x5), (6, .int x6), (7, .int x7)] [] M) {k38 : Nat → Int32 → Int32 → Int32 → Int32 → Int32 → Int32 → Int32 → Int32 → Mem → Option (Int32 × Mem)} (hk38 : ∀ (x0 : Nat) (x1 : Int32) (x2 : Int32) (x3 : Int32) (x4 : Int32) (x5 : Int32) (x6 : Int32) (x7 : Int32) (x8 : Int32) (M : Mem), k38 x0 x1 x2 x3 x4 x5 x6 x7 x8 M = some p → G κ mX8_amount 0 0 38 [(0, .ref x0), (1, .int x1), (2, .int x2), (3, .int x3), (4, .int x4), (5, .int x5), (6, .int x6), (7, .int x7), (8, .int x8)] [] M) {x0 : Nat} {x1 : Int32} {x2 : Int32} {x3 : Int32} {x5 : Int32} {x6 : Int32} {x7 : Int32} {x8 : Int32} {s0 : Int32} {M : Mem} (h : fX8_amount_146 k18 k28 k38 x0 x1 x2 x3 x5 x6 x7 x8 s0 M = some p) : G κ mX8_amount 0 0 146 [(0, .ref x0), (1, .int x1), (2, .int x2), (3, .int x3), (5, .int x5), (6, .int x6), (7, .int x7), (8, .int x8)] [.int s0] M := by
  unfold fX8_amount_146 at h
  refine g_istore (lv' := [(4, .int s0), (0, .ref x0), (1, .int x1), (2, .int x2), (3, .int x3), (5, .int x5), (6, .int x6), (7, .int x7), (8, .int x8)]) (pc' := 148) O dX8_amount_146 (by decide) rfl rfl ?_
  refine g_sub (lv' := [(0, .ref x0), (1, .int x1), (2, .int x2), (3, .int x3), (4, .int s0), (5, .int x5), (6, .int x6), (7, .int x7), (8, .int x8)]) [1, 2, 3, 4, 0, 5, 6, 7, 8] rfl ?_
  exact tX8_amount_148 O hf hk18 hk28 hk38 h
def fX8_amount_127  (s0 : Int32) (s1 : Nat) (M : Mem) : Option (Int32 × Mem) :=
  (ck M 5 s1).bind fun u1 =>
  (fX8_findValue s1 s0 M).bind fun r2 =>
  some ((2 : Int32), r2)
set_option maxHeartbeats 4000000 in
set_option maxRecDepth 100000 in
theorem tX8_amount_127 {κ : KT} {p : Int32 × Mem} (O : OkK κ mX8_amount) (hf : κ.2.2.2.2.2.2.2.2.2.2.2.2.2 = (some (.int p.1), p.2))  {s0 : Int32} {s1 : Nat} {M : Mem} (h : fX8_amount_127  s0 s1 M = some p) : G κ mX8_amount 0 0 127 [] [.int s0, .ref s1] M := by
  unfold fX8_amount_127 at h
  replace h := ob h; obtain ⟨u1, eu1, h⟩ := h
  replace h := ob h; obtain ⟨r2, er2, h⟩ := h
  refine g_callV (y := yX8_findValue) (ν := mX8_findValue) (n := 1) (As := [.int s0]) (b := s1) (st := []) (M2 := r2) (r1 := none) (pc' := 130) O dX8_amount_127 tw_879 tw_58 tw_878 tw_30 tw_876 hyX8_findValue rfl rfl eu1 (okX8_findValue er2) (Nat.le_of_ble_eq_true rfl) ⟨Nat.le_of_ble_eq_true rfl, Nat.le_of_ble_eq_true rfl⟩ ⟨Nat.le_of_ble_eq_true rfl, Nat.le_of_ble_eq_true rfl⟩ rfl ?_
  show G κ mX8_amount 0 0 130 [] [] r2
  refine g_iconst (v := 2) (pc' := 131) O dX8_amount_130 (by decide) rfl ?_
  cases h
  exact g_ireturn O dX8_amount_131 rfl rfl hf (by decide) (by decide)
def fX8_amount_84 (k18 : Nat → Int32 → Int32 → Int32 → Int32 → Int32 → Int32 → Mem → Option (Int32 × Mem)) (k28 : Nat → Int32 → Int32 → Int32 → Int32 → Int32 → Int32 → Int32 → Mem → Option (Int32 × Mem)) (k38 : Nat → Int32 → Int32 → Int32 → Int32 → Int32 → Int32 → Int32 → Int32 → Mem → Option (Int32 × Mem)) (x0 : Nat) (x1 : Int32) (x2 : Int32) (x3 : Int32) (x4 : Int32) (x5 : Int32) (x6 : Int32) (x7 : Int32) (x8 : Int32) (x9 : Int32) (M : Mem) : Option (Int32 × Mem) :=
  (dzI x5).bind fun z1 =>
  (ck M 5 x0).bind fun u2 =>
  (fX8_putAmount x0 x1 x2 x6 x7 x9 (rmI x8 x5) M).bind fun r3 =>
  (ck r3 5 x0).bind fun u4 =>
  (fX8_matched x0 x3 r3).bind fun r5 =>
  if r5.1 = (2 : Int32) then (if (x8 &&& (1 : Int32)) = 0 then (fX8_amount_127 (0 : Int32) x0 r5.2)
  else (fX8_amount_127 (1 : Int32) x0 r5.2))
  else (if r5.1 ≤ x4 then (fX8_amount_146 k18 k28 k38 x0 x1 x2 x3 x5 x6 x7 x8 x4 r5.2)
  else (fX8_amount_146 k18 k28 k38 x0 x1 x2 x3 x5 x6 x7 x8 r5.1 r5.2))
set_option maxHeartbeats 4000000 in
set_option maxRecDepth 100000 in
theorem tX8_amount_84 {κ : KT} {p : Int32 × Mem} (O : OkK κ mX8_amount) (hf : κ.2.2.2.2.2.2.2.2.2.2.2.2.2 = (some (.int p.1), p.2)) {k18 : Nat → Int32 → Int32 → Int32 → Int32 → Int32 → Int32 → Mem → Option (Int32 × Mem)} (hk18 : ∀ (x0 : Nat) (x1 : Int32) (x2 : Int32) (x3 : Int32) (x4 : Int32) (x5 : Int32) (x6 : Int32) (M : Mem), k18 x0 x1 x2 x3 x4 x5 x6 M = some p → G κ mX8_amount 0 0 18 [(0, .ref x0), (1, .int x1), (2, .int x2), (3, .int x3), (4, .int x4), (5, .int x5), (6, .int x6)] [] M) {k28 : Nat → Int32 → Int32 → Int32 → Int32 → Int32 → Int32 → Int32 → Mem → Option (Int32 × Mem)} (hk28 : ∀ (x0 : Nat) (x1 : Int32) (x2 : Int32) (x3 : Int32) (x4 : Int32) (x5 : Int32) (x6 : Int32) (x7 : Int32) (M : Mem), k28 x0 x1 x2 x3 x4 x5 x6 x7 M = some p → G κ mX8_amount 0 0 28 [(0, .ref x0), (1, .int x1), (2, .int x2), (3, .int x3), (4, .int x4), (5, .int x5), (6, .int x6), (7, .int x7)] [] M) {k38 : Nat → Int32 → Int32 → Int32 → Int32 → Int32 → Int32 → Int32 → Int32 → Mem → Option (Int32 × Mem)} (hk38 : ∀ (x0 : Nat) (x1 : Int32) (x2 : Int32) (x3 : Int32) (x4 : Int32) (x5 : Int32) (x6 : Int32) (x7 : Int32) (x8 : Int32) (M : Mem), k38 x0 x1 x2 x3 x4 x5 x6 x7 x8 M = some p → G κ mX8_amount 0 0 38 [(0, .ref x0), (1, .int x1), (2, .int x2), (3, .int x3), (4, .int x4), (5, .int x5), (6, .int x6), (7, .int x7), (8, .int x8)] [] M) {x0 : Nat} {x1 : Int32} {x2 : Int32} {x3 : Int32} {x4 : Int32} {x5 : Int32} {x6 : Int32} {x7 : Int32} {x8 : Int32} {x9 : Int32} {M : Mem} (h : fX8_amount_84 k18 k28 k38 x0 x1 x2 x3 x4 x5 x6 x7 x8 x9 M = some p) : G κ mX8_amount 0 0 84 [(0, .ref x0), (1, .int x1), (2, .int x2), (3, .int x3), (4, .int x4), (5, .int x5), (6, .int x6), (7, .int x7), (8, .int x8), (9, .int x9)] [] M := by
  unfold fX8_amount_84 at h
  refine g_aload_n (pc' := 85) 0 O dX8_amount_84 rfl rfl rfl ?_
  refine g_iload_n (pc' := 86) 1 O dX8_amount_85 rfl rfl rfl ?_
  refine g_iload_n (pc' := 87) 2 O dX8_amount_86 rfl rfl rfl ?_
  refine g_iload (pc' := 89) 6 O dX8_amount_87 rfl rfl ?_
  refine g_iload (pc' := 91) 7 O dX8_amount_89 rfl rfl ?_
  refine g_iload (pc' := 93) 9 O dX8_amount_91 rfl rfl ?_
  refine g_iload (pc' := 95) 8 O dX8_amount_93 rfl rfl ?_
  refine g_iload (pc' := 97) 5 O dX8_amount_95 rfl rfl ?_
  replace h := ob h; obtain ⟨z1, ez1, h⟩ := h
  refine g_irem2 (pc' := 98) O dX8_amount_97 (dzI_ne ez1) rfl ?_
  replace h := ob h; obtain ⟨u2, eu2, h⟩ := h
  replace h := ob h; obtain ⟨r3, er3, h⟩ := h
  refine g_callV (y := yX8_putAmount) (ν := mX8_putAmount) (n := 6) (As := [.int x1, .int x2, .int x6, .int x7, .int x9, .int (rmI x8 x5)]) (b := x0) (st := []) (M2 := r3) (r1 := none) (pc' := 101) O dX8_amount_98 tw_855 tw_58 tw_854 tw_24 tw_852 hyX8_putAmount rfl rfl eu2 (okX8_putAmount er3) (Nat.le_of_ble_eq_true rfl) ⟨Nat.le_of_ble_eq_true rfl, Nat.le_of_ble_eq_true rfl⟩ ⟨Nat.le_of_ble_eq_true rfl, Nat.le_of_ble_eq_true rfl⟩ rfl ?_
  show G κ mX8_amount 0 0 101 [(0, .ref x0), (1, .int x1), (2, .int x2), (3, .int x3), (4, .int x4), (5, .int x5), (6, .int x6), (7, .int x7), (8, .int x8), (9, .int x9)] [] r3
  refine g_aload_n (pc' := 102) 0 O dX8_amount_101 rfl rfl rfl ?_
  refine g_iload_n (pc' := 103) 3 O dX8_amount_102 rfl rfl rfl ?_
  replace h := ob h; obtain ⟨u4, eu4, h⟩ := h
  replace h := ob h; obtain ⟨r5, er5, h⟩ := h
  refine g_callV (y := yX8_matched) (ν := mX8_matched) (n := 1) (As := [.int x3]) (b := x0) (st := []) (M2 := r5.2) (r1 := (some (.int r5.1))) (pc' := 106) O dX8_amount_103 tw_875 tw_58 tw_874 tw_29 tw_872 hyX8_matched rfl rfl eu4 (okX8_matched er5) (Nat.le_of_ble_eq_true rfl) ⟨Nat.le_of_ble_eq_true rfl, Nat.le_of_ble_eq_true rfl⟩ ⟨Nat.le_of_ble_eq_true rfl, Nat.le_of_ble_eq_true rfl⟩ rfl ?_
  show G κ mX8_amount 0 0 106 [(0, .ref x0), (1, .int x1), (2, .int x2), (3, .int x3), (4, .int x4), (5, .int x5), (6, .int x6), (7, .int x7), (8, .int x8), (9, .int x9)] [.int r5.1] r5.2
  refine g_istore (lv' := [(10, .int r5.1), (0, .ref x0), (1, .int x1), (2, .int x2), (3, .int x3), (4, .int x4), (5, .int x5), (6, .int x6), (7, .int x7), (8, .int x8), (9, .int x9)]) (pc' := 108) O dX8_amount_106 (by decide) rfl rfl ?_
  refine g_iload (pc' := 110) 0 O dX8_amount_108 rfl rfl ?_
  refine g_iconst (v := 2) (pc' := 111) O dX8_amount_110 (by decide) rfl ?_
  refine g_icmp_ne (tgt := 132) (pc' := 114) O dX8_amount_111 (by decide) rfl (fun hc => ?_) (fun hc => ?_)
  · replace h := ine hc h
    refine g_iload (pc' := 134) 0 O dX8_amount_132 rfl rfl ?_
    refine g_iload (pc' := 136) 5 O dX8_amount_134 rfl rfl ?_
    refine g_icmp_le (tgt := 144) (pc' := 139) O dX8_amount_136 (by decide) rfl (fun hc => ?_) (fun hc => ?_)
    · replace h := ip hc h
      refine g_iload (pc' := 146) 5 O dX8_amount_144 rfl rfl ?_
      refine g_sub (lv' := [(0, .ref x0), (1, .int x1), (2, .int x2), (3, .int x3), (5, .int x5), (6, .int x6), (7, .int x7), (8, .int x8)]) [1, 2, 3, 4, 6, 7, 8, 9] rfl ?_
      exact tX8_amount_146 O hf hk18 hk28 hk38 h
    · replace h := ine hc h
      refine g_iload (pc' := 141) 0 O dX8_amount_139 rfl rfl ?_
      refine g_goto (pc' := 146) O dX8_amount_141 (by decide) ?_
      refine g_sub (lv' := [(0, .ref x0), (1, .int x1), (2, .int x2), (3, .int x3), (5, .int x5), (6, .int x6), (7, .int x7), (8, .int x8)]) [1, 2, 3, 4, 6, 7, 8, 9] rfl ?_
      exact tX8_amount_146 O hf hk18 hk28 hk38 h
  · replace h := ip hc h
    refine g_aload_n (pc' := 115) 1 O dX8_amount_114 rfl rfl rfl ?_
    refine g_iload (pc' := 117) 9 O dX8_amount_115 rfl rfl ?_
    refine g_iconst (v := 1) (pc' := 118) O dX8_amount_117 (by decide) rfl ?_
    refine g_iand (pc' := 119) O dX8_amount_118 rfl ?_
    refine g_if_eq (tgt := 126) (pc' := 122) O dX8_amount_119 (by decide) rfl (fun hc => ?_) (fun hc => ?_)
    · replace h := ip hc h
      refine g_iconst (v := 0) (pc' := 127) O dX8_amount_126 (by decide) rfl ?_
      refine g_sub (lv' := []) [] rfl ?_
      exact tX8_amount_127 O hf h
    · replace h := ine hc h
      refine g_iconst (v := 1) (pc' := 123) O dX8_amount_122 (by decide) rfl ?_
      refine g_goto (pc' := 127) O dX8_amount_123 (by decide) ?_
      refine g_sub (lv' := []) [] rfl ?_
      exact tX8_amount_127 O hf h
def fX8_amount_59 (k18 : Nat → Int32 → Int32 → Int32 → Int32 → Int32 → Int32 → Mem → Option (Int32 × Mem)) (k28 : Nat → Int32 → Int32 → Int32 → Int32 → Int32 → Int32 → Int32 → Mem → Option (Int32 × Mem)) (k38 : Nat → Int32 → Int32 → Int32 → Int32 → Int32 → Int32 → Int32 → Int32 → Mem → Option (Int32 × Mem)) (x0 : Nat) (x1 : Int32) (x2 : Int32) (x3 : Int32) (x4 : Int32) (x5 : Int32) (x6 : Int32) (x7 : Int32) (x8 : Int32) (s0 : Int32) (M : Mem) : Option (Int32 × Mem) :=
  if s0 = 0 then (fX8_amount_84 k18 k28 k38 x0 x1 x2 x3 x4 x5 x6 x7 x8 s0 M)
  else (if x6 < (4 : Int32) then (fX8_amount_148 k18 k28 k38 x0 x1 x2 x3 x4 x5 x6 x7 x8 M)
  else ((gN M 5 x0 3).bind fun v1 =>
  (aI M v1 x1).bind fun v2 =>
  if v2 = 0 then (fX8_amount_148 k18 k28 k38 x0 x1 x2 x3 x4 x5 x6 x7 x8 M)
  else (fX8_amount_84 k18 k28 k38 x0 x1 x2 x3 x4 x5 x6 x7 x8 s0 M)))
set_option maxHeartbeats 4000000 in
set_option maxRecDepth 100000 in
theorem tX8_amount_59 {κ : KT} {p : Int32 × Mem} (O : OkK κ mX8_amount) (hf : κ.2.2.2.2.2.2.2.2.2.2.2.2.2 = (some (.int p.1), p.2)) {k18 : Nat → Int32 → Int32 → Int32 → Int32 → Int32 → Int32 → Mem → Option (Int32 × Mem)} (hk18 : ∀ (x0 : Nat) (x1 : Int32) (x2 : Int32) (x3 : Int32) (x4 : Int32) (x5 : Int32) (x6 : Int32) (M : Mem), k18 x0 x1 x2 x3 x4 x5 x6 M = some p → G κ mX8_amount 0 0 18 [(0, .ref x0), (1, .int x1), (2, .int x2), (3, .int x3), (4, .int x4), (5, .int x5), (6, .int x6)] [] M) {k28 : Nat → Int32 → Int32 → Int32 → Int32 → Int32 → Int32 → Int32 → Mem → Option (Int32 × Mem)} (hk28 : ∀ (x0 : Nat) (x1 : Int32) (x2 : Int32) (x3 : Int32) (x4 : Int32) (x5 : Int32) (x6 : Int32) (x7 : Int32) (M : Mem), k28 x0 x1 x2 x3 x4 x5 x6 x7 M = some p → G κ mX8_amount 0 0 28 [(0, .ref x0), (1, .int x1), (2, .int x2), (3, .int x3), (4, .int x4), (5, .int x5), (6, .int x6), (7, .int x7)] [] M) {k38 : Nat → Int32 → Int32 → Int32 → Int32 → Int32 → Int32 → Int32 → Int32 → Mem → Option (Int32 × Mem)} (hk38 : ∀ (x0 : Nat) (x1 : Int32) (x2 : Int32) (x3 : Int32) (x4 : Int32) (x5 : Int32) (x6 : Int32) (x7 : Int32) (x8 : Int32) (M : Mem), k38 x0 x1 x2 x3 x4 x5 x6 x7 x8 M = some p → G κ mX8_amount 0 0 38 [(0, .ref x0), (1, .int x1), (2, .int x2), (3, .int x3), (4, .int x4), (5, .int x5), (6, .int x6), (7, .int x7), (8, .int x8)] [] M) {x0 : Nat} {x1 : Int32} {x2 : Int32} {x3 : Int32} {x4 : Int32} {x5 : Int32} {x6 : Int32} {x7 : Int32} {x8 : Int32} {s0 : Int32} {M : Mem} (h : fX8_amount_59 k18 k28 k38 x0 x1 x2 x3 x4 x5 x6 x7 x8 s0 M = some p) : G κ mX8_amount 0 0 59 [(0, .ref x0), (1, .int x1), (2, .int x2), (3, .int x3), (4, .int x4), (5, .int x5), (6, .int x6), (7, .int x7), (8, .int x8)] [.int s0] M := by
  unfold fX8_amount_59 at h
  refine g_istore (lv' := [(9, .int s0), (0, .ref x0), (1, .int x1), (2, .int x2), (3, .int x3), (4, .int x4), (5, .int x5), (6, .int x6), (7, .int x7), (8, .int x8)]) (pc' := 61) O dX8_amount_59 (by decide) rfl rfl ?_
  refine g_iload (pc' := 63) 0 O dX8_amount_61 rfl rfl ?_
  refine g_if_eq (tgt := 84) (pc' := 66) O dX8_amount_63 (by decide) rfl (fun hc => ?_) (fun hc => ?_)
  · replace h := ip hc h
    refine g_sub (lv' := [(0, .ref x0), (1, .int x1), (2, .int x2), (3, .int x3), (4, .int x4), (5, .int x5), (6, .int x6), (7, .int x7), (8, .int x8), (9, .int s0)]) [1, 2, 3, 4, 5, 6, 7, 8, 9, 0] rfl ?_
    exact tX8_amount_84 O hf hk18 hk28 hk38 h
  · replace h := ine hc h
    refine g_iload (pc' := 68) 7 O dX8_amount_66 rfl rfl ?_
    refine g_iconst (v := 4) (pc' := 69) O dX8_amount_68 (by decide) rfl ?_
    refine g_icmp_lt (tgt := 148) (pc' := 72) O dX8_amount_69 (by decide) rfl (fun hc => ?_) (fun hc => ?_)
    · replace h := ip hc h
      refine g_sub (lv' := [(0, .ref x0), (1, .int x1), (2, .int x2), (3, .int x3), (4, .int x4), (5, .int x5), (6, .int x6), (7, .int x7), (8, .int x8)]) [1, 2, 3, 4, 5, 6, 7, 8, 9] rfl ?_
      exact tX8_amount_148 O hf hk18 hk28 hk38 h
    · replace h := ine hc h
      refine g_aload_n (pc' := 73) 1 O dX8_amount_72 rfl rfl rfl ?_
      replace h := ob h; obtain ⟨v1, ev1, h⟩ := h
      refine g_getF (C := RX8) (T := TX8) (N := 29) (ci := 5) (k := 3) (pc' := 76) O dX8_amount_73 rfl inX8 (by decide) tw_719 (gN_F ev1) rfl ?_
      refine g_iload_n (pc' := 77) 2 O dX8_amount_76 rfl rfl rfl ?_
      replace h := ob h; obtain ⟨v2, ev2, h⟩ := h
      refine g_iald (pc' := 78) O dX8_amount_77 ev2 rfl ?_
      refine g_if_ne (tgt := 84) (pc' := 81) O dX8_amount_78 (by decide) rfl (fun hc => ?_) (fun hc => ?_)
      · replace h := ine hc h
        refine g_sub (lv' := [(0, .ref x0), (1, .int x1), (2, .int x2), (3, .int x3), (4, .int x4), (5, .int x5), (6, .int x6), (7, .int x7), (8, .int x8), (9, .int s0)]) [1, 2, 3, 4, 5, 6, 7, 8, 9, 0] rfl ?_
        exact tX8_amount_84 O hf hk18 hk28 hk38 h
      · replace h := ip hc h
        refine g_goto (pc' := 148) O dX8_amount_81 (by decide) ?_
        refine g_sub (lv' := [(0, .ref x0), (1, .int x1), (2, .int x2), (3, .int x3), (4, .int x4), (5, .int x5), (6, .int x6), (7, .int x7), (8, .int x8)]) [1, 2, 3, 4, 5, 6, 7, 8, 9] rfl ?_
        exact tX8_amount_148 O hf hk18 hk28 hk38 h
def fX8_amount_38 (k18 : Nat → Int32 → Int32 → Int32 → Int32 → Int32 → Int32 → Mem → Option (Int32 × Mem)) (k28 : Nat → Int32 → Int32 → Int32 → Int32 → Int32 → Int32 → Int32 → Mem → Option (Int32 × Mem)) : Nat → Nat → Int32 → Int32 → Int32 → Int32 → Int32 → Int32 → Int32 → Int32 → Mem → Option (Int32 × Mem)
  | 0, _, _, _, _, _, _, _, _, _, _ => none
  | n + 1, x0, x1, x2, x3, x4, x5, x6, x7, x8, M =>
    if ((2 : Int32) * x5) ≤ x8 then (k28 x0 x1 x2 x3 x4 x5 x6 (x7 + (1 : Int32)) M)
    else (if x8 < x5 then (fX8_amount_59 k18 k28 (fX8_amount_38 k18 k28 n) x0 x1 x2 x3 x4 x5 x6 x7 x8 (0 : Int32) M)
    else (fX8_amount_59 k18 k28 (fX8_amount_38 k18 k28 n) x0 x1 x2 x3 x4 x5 x6 x7 x8 (1 : Int32) M))
set_option maxHeartbeats 4000000 in
set_option maxRecDepth 100000 in
theorem tX8_amount_38 {κ : KT} {p : Int32 × Mem} (O : OkK κ mX8_amount) (hf : κ.2.2.2.2.2.2.2.2.2.2.2.2.2 = (some (.int p.1), p.2)) {k18 : Nat → Int32 → Int32 → Int32 → Int32 → Int32 → Int32 → Mem → Option (Int32 × Mem)} (hk18 : ∀ (x0 : Nat) (x1 : Int32) (x2 : Int32) (x3 : Int32) (x4 : Int32) (x5 : Int32) (x6 : Int32) (M : Mem), k18 x0 x1 x2 x3 x4 x5 x6 M = some p → G κ mX8_amount 0 0 18 [(0, .ref x0), (1, .int x1), (2, .int x2), (3, .int x3), (4, .int x4), (5, .int x5), (6, .int x6)] [] M) {k28 : Nat → Int32 → Int32 → Int32 → Int32 → Int32 → Int32 → Int32 → Mem → Option (Int32 × Mem)} (hk28 : ∀ (x0 : Nat) (x1 : Int32) (x2 : Int32) (x3 : Int32) (x4 : Int32) (x5 : Int32) (x6 : Int32) (x7 : Int32) (M : Mem), k28 x0 x1 x2 x3 x4 x5 x6 x7 M = some p → G κ mX8_amount 0 0 28 [(0, .ref x0), (1, .int x1), (2, .int x2), (3, .int x3), (4, .int x4), (5, .int x5), (6, .int x6), (7, .int x7)] [] M) : ∀ (n : Nat) (x0 : Nat) (x1 : Int32) (x2 : Int32) (x3 : Int32) (x4 : Int32) (x5 : Int32) (x6 : Int32) (x7 : Int32) (x8 : Int32) (M : Mem), fX8_amount_38 k18 k28 n x0 x1 x2 x3 x4 x5 x6 x7 x8 M = some p → G κ mX8_amount 0 0 38 [(0, .ref x0), (1, .int x1), (2, .int x2), (3, .int x3), (4, .int x4), (5, .int x5), (6, .int x6), (7, .int x7), (8, .int x8)] [] M := by
  intro n
  induction n with
  | zero => intro x0 x1 x2 x3 x4 x5 x6 x7 x8 M h; cases h
  | succ n ih =>
    intro x0 x1 x2 x3 x4 x5 x6 x7 x8 M h
    rw [fX8_amount_38] at h
    refine g_iload (pc' := 40) 8 O dX8_amount_38 rfl rfl ?_
    refine g_iconst (v := 2) (pc' := 41) O dX8_amount_40 (by decide) rfl ?_
    refine g_iload (pc' := 43) 5 O dX8_amount_41 rfl rfl ?_
    refine g_imul (pc' := 44) O dX8_amount_43 rfl ?_
    refine g_icmp_ge (tgt := 154) (pc' := 47) O dX8_amount_44 (by decide) rfl (fun hc => ?_) (fun hc => ?_)
    · replace h := ip hc h
      refine g_iinc (q := 7) (v := x7 + (1 : Int32)) (lv' := [(7, .int (x7 + (1 : Int32))), (0, .ref x0), (1, .int x1), (2, .int x2), (3, .int x3), (4, .int x4), (5, .int x5), (6, .int x6), (8, .int x8)]) (pc' := 157) O dX8_amount_154 rfl rfl (by decide) rfl rfl ?_
      refine g_goto (pc' := 28) O dX8_amount_157 (by decide) ?_
      refine g_sub (lv' := [(0, .ref x0), (1, .int x1), (2, .int x2), (3, .int x3), (4, .int x4), (5, .int x5), (6, .int x6), (7, .int (x7 + (1 : Int32)))]) [1, 2, 3, 4, 5, 6, 7, 0] rfl ?_
      exact hk28 x0 x1 x2 x3 x4 x5 x6 (x7 + (1 : Int32)) M h
    · replace h := ine hc h
      refine g_iload (pc' := 49) 8 O dX8_amount_47 rfl rfl ?_
      refine g_iload (pc' := 51) 5 O dX8_amount_49 rfl rfl ?_
      refine g_icmp_lt (tgt := 58) (pc' := 54) O dX8_amount_51 (by decide) rfl (fun hc => ?_) (fun hc => ?_)
      · replace h := ip hc h
        refine g_iconst (v := 0) (pc' := 59) O dX8_amount_58 (by decide) rfl ?_
        exact tX8_amount_59 O hf hk18 hk28 ih h
      · replace h := ine hc h
        refine g_iconst (v := 1) (pc' := 55) O dX8_amount_54 (by decide) rfl ?_
        refine g_goto (pc' := 59) O dX8_amount_55 (by decide) ?_
        exact tX8_amount_59 O hf hk18 hk28 ih h
def fX8_amount_28 (k18 : Nat → Int32 → Int32 → Int32 → Int32 → Int32 → Int32 → Mem → Option (Int32 × Mem)) : Nat → Nat → Int32 → Int32 → Int32 → Int32 → Int32 → Int32 → Int32 → Mem → Option (Int32 × Mem)
  | 0, _, _, _, _, _, _, _, _, _ => none
  | n + 1, x0, x1, x2, x3, x4, x5, x6, x7, M =>
    if (6 : Int32) < x7 then (k18 x0 x1 x2 x3 x4 x5 (x6 + (1 : Int32)) M)
    else (fX8_amount_38 k18 (fX8_amount_28 k18 n) FU x0 x1 x2 x3 x4 x5 x6 x7 (0 : Int32) M)
set_option maxHeartbeats 4000000 in
set_option maxRecDepth 100000 in
theorem tX8_amount_28 {κ : KT} {p : Int32 × Mem} (O : OkK κ mX8_amount) (hf : κ.2.2.2.2.2.2.2.2.2.2.2.2.2 = (some (.int p.1), p.2)) {k18 : Nat → Int32 → Int32 → Int32 → Int32 → Int32 → Int32 → Mem → Option (Int32 × Mem)} (hk18 : ∀ (x0 : Nat) (x1 : Int32) (x2 : Int32) (x3 : Int32) (x4 : Int32) (x5 : Int32) (x6 : Int32) (M : Mem), k18 x0 x1 x2 x3 x4 x5 x6 M = some p → G κ mX8_amount 0 0 18 [(0, .ref x0), (1, .int x1), (2, .int x2), (3, .int x3), (4, .int x4), (5, .int x5), (6, .int x6)] [] M) : ∀ (n : Nat) (x0 : Nat) (x1 : Int32) (x2 : Int32) (x3 : Int32) (x4 : Int32) (x5 : Int32) (x6 : Int32) (x7 : Int32) (M : Mem), fX8_amount_28 k18 n x0 x1 x2 x3 x4 x5 x6 x7 M = some p → G κ mX8_amount 0 0 28 [(0, .ref x0), (1, .int x1), (2, .int x2), (3, .int x3), (4, .int x4), (5, .int x5), (6, .int x6), (7, .int x7)] [] M := by
  intro n
  induction n with
  | zero => intro x0 x1 x2 x3 x4 x5 x6 x7 M h; cases h
  | succ n ih =>
    intro x0 x1 x2 x3 x4 x5 x6 x7 M h
    rw [fX8_amount_28] at h
    refine g_iload (pc' := 30) 7 O dX8_amount_28 rfl rfl ?_
    refine g_bipush (v := 6) (pc' := 32) O dX8_amount_30 (by decide) rfl ?_
    refine g_icmp_gt (tgt := 160) (pc' := 35) O dX8_amount_32 (by decide) rfl (fun hc => ?_) (fun hc => ?_)
    · replace h := ip hc h
      refine g_iinc (q := 6) (v := x6 + (1 : Int32)) (lv' := [(6, .int (x6 + (1 : Int32))), (0, .ref x0), (1, .int x1), (2, .int x2), (3, .int x3), (4, .int x4), (5, .int x5), (7, .int x7)]) (pc' := 163) O dX8_amount_160 rfl rfl (by decide) rfl rfl ?_
      refine g_goto (pc' := 18) O dX8_amount_163 (by decide) ?_
      refine g_sub (lv' := [(0, .ref x0), (1, .int x1), (2, .int x2), (3, .int x3), (4, .int x4), (5, .int x5), (6, .int (x6 + (1 : Int32)))]) [1, 2, 3, 4, 5, 6, 0] rfl ?_
      exact hk18 x0 x1 x2 x3 x4 x5 (x6 + (1 : Int32)) M h
    · replace h := ine hc h
      refine g_iconst (v := 0) (pc' := 36) O dX8_amount_35 (by decide) rfl ?_
      refine g_istore (lv' := [(8, .int (0 : Int32)), (0, .ref x0), (1, .int x1), (2, .int x2), (3, .int x3), (4, .int x4), (5, .int x5), (6, .int x6), (7, .int x7)]) (pc' := 38) O dX8_amount_36 (by decide) rfl rfl ?_
      refine g_sub (lv' := [(0, .ref x0), (1, .int x1), (2, .int x2), (3, .int x3), (4, .int x4), (5, .int x5), (6, .int x6), (7, .int x7), (8, .int (0 : Int32))]) [1, 2, 3, 4, 5, 6, 7, 8, 0] rfl ?_
      exact tX8_amount_38 O hf hk18 ih FU x0 x1 x2 x3 x4 x5 x6 x7 (0 : Int32) M h
def fX8_amount_18  : Nat → Nat → Int32 → Int32 → Int32 → Int32 → Int32 → Int32 → Mem → Option (Int32 × Mem)
  | 0, _, _, _, _, _, _, _, _ => none
  | n + 1, x0, x1, x2, x3, x4, x5, x6, M =>
    if (9 : Int32) < x6 then (some (x4, M))
    else (fX8_amount_28 (fX8_amount_18 n) FU x0 x1 x2 x3 x4 x5 x6 (0 : Int32) M)
set_option maxHeartbeats 4000000 in
set_option maxRecDepth 100000 in
theorem tX8_amount_18 {κ : KT} {p : Int32 × Mem} (O : OkK κ mX8_amount) (hf : κ.2.2.2.2.2.2.2.2.2.2.2.2.2 = (some (.int p.1), p.2))  : ∀ (n : Nat) (x0 : Nat) (x1 : Int32) (x2 : Int32) (x3 : Int32) (x4 : Int32) (x5 : Int32) (x6 : Int32) (M : Mem), fX8_amount_18  n x0 x1 x2 x3 x4 x5 x6 M = some p → G κ mX8_amount 0 0 18 [(0, .ref x0), (1, .int x1), (2, .int x2), (3, .int x3), (4, .int x4), (5, .int x5), (6, .int x6)] [] M := by
  intro n
  induction n with
  | zero => intro x0 x1 x2 x3 x4 x5 x6 M h; cases h
  | succ n ih =>
    intro x0 x1 x2 x3 x4 x5 x6 M h
    rw [fX8_amount_18] at h
    refine g_iload (pc' := 20) 6 O dX8_amount_18 rfl rfl ?_
    refine g_bipush (v := 9) (pc' := 22) O dX8_amount_20 (by decide) rfl ?_
    refine g_icmp_gt (tgt := 166) (pc' := 25) O dX8_amount_22 (by decide) rfl (fun hc => ?_) (fun hc => ?_)
    · replace h := ip hc h
      refine g_iload (pc' := 168) 4 O dX8_amount_166 rfl rfl ?_
      cases h
      exact g_ireturn O dX8_amount_168 rfl rfl hf (by decide) (by decide)
    · replace h := ine hc h
      refine g_iconst (v := 0) (pc' := 26) O dX8_amount_25 (by decide) rfl ?_
      refine g_istore (lv' := [(7, .int (0 : Int32)), (0, .ref x0), (1, .int x1), (2, .int x2), (3, .int x3), (4, .int x4), (5, .int x5), (6, .int x6)]) (pc' := 28) O dX8_amount_26 (by decide) rfl rfl ?_
      refine g_sub (lv' := [(0, .ref x0), (1, .int x1), (2, .int x2), (3, .int x3), (4, .int x4), (5, .int x5), (6, .int x6), (7, .int (0 : Int32))]) [1, 2, 3, 4, 5, 6, 7, 0] rfl ?_
      exact tX8_amount_28 O hf ih FU x0 x1 x2 x3 x4 x5 x6 (0 : Int32) M h
def fX8_amount_13  (x0 : Nat) (x1 : Int32) (x2 : Int32) (x3 : Int32) (x4 : Int32) (s0 : Int32) (M : Mem) : Option (Int32 × Mem) :=
  fX8_amount_18 FU x0 x1 x2 x3 x4 s0 (1 : Int32) M
set_option maxHeartbeats 4000000 in
set_option maxRecDepth 100000 in
theorem tX8_amount_13 {κ : KT} {p : Int32 × Mem} (O : OkK κ mX8_amount) (hf : κ.2.2.2.2.2.2.2.2.2.2.2.2.2 = (some (.int p.1), p.2))  {x0 : Nat} {x1 : Int32} {x2 : Int32} {x3 : Int32} {x4 : Int32} {s0 : Int32} {M : Mem} (h : fX8_amount_13  x0 x1 x2 x3 x4 s0 M = some p) : G κ mX8_amount 0 0 13 [(0, .ref x0), (1, .int x1), (2, .int x2), (3, .int x3), (4, .int x4)] [.int s0] M := by
  unfold fX8_amount_13 at h
  refine g_istore (lv' := [(5, .int s0), (0, .ref x0), (1, .int x1), (2, .int x2), (3, .int x3), (4, .int x4)]) (pc' := 15) O dX8_amount_13 (by decide) rfl rfl ?_
  refine g_iconst (v := 1) (pc' := 16) O dX8_amount_15 (by decide) rfl ?_
  refine g_istore (lv' := [(6, .int (1 : Int32)), (5, .int s0), (0, .ref x0), (1, .int x1), (2, .int x2), (3, .int x3), (4, .int x4)]) (pc' := 18) O dX8_amount_16 (by decide) rfl rfl ?_
  refine g_sub (lv' := [(0, .ref x0), (1, .int x1), (2, .int x2), (3, .int x3), (4, .int x4), (5, .int s0), (6, .int (1 : Int32))]) [2, 3, 4, 5, 6, 1, 0] rfl ?_
  exact tX8_amount_18 O hf FU x0 x1 x2 x3 x4 s0 (1 : Int32) M h
def fX8_amount  (this : Nat) (p0 : Int32) (p1 : Int32) (p2 : Int32) (M : Mem) : Option (Int32 × Mem) :=
  if p1 = (1 : Int32) then (fX8_amount_13 this p0 p1 p2 (0 : Int32) (4 : Int32) M)
  else (fX8_amount_13 this p0 p1 p2 (0 : Int32) (2 : Int32) M)
set_option maxHeartbeats 4000000 in
set_option maxRecDepth 100000 in
theorem okX8_amount {l : Launch} {p : Int32 × Mem} {this : Nat} {p0 : Int32} {p1 : Int32} {p2 : Int32} {M : Mem} (h : fX8_amount this p0 p1 p2 M = some p) : Cn l yX8_amount mX8_amount [.ref this, .int p0, .int p1, .int p2] M (some (.int p.1)) p.2 := by
  refine Cn.of [(0, .ref this), (1, .int p0), (2, .int p1), (3, .int p2)] (by decide) rfl rfl (Nat.le_of_ble_eq_true rfl) rfl (fun κ _ hf O => ?_)
  unfold fX8_amount at h
  refine g_iconst (v := 0) (pc' := 1) O dX8_amount_0 (by decide) rfl ?_
  refine g_istore (lv' := [(4, .int (0 : Int32)), (0, .ref this), (1, .int p0), (2, .int p1), (3, .int p2)]) (pc' := 3) O dX8_amount_1 (by decide) rfl rfl ?_
  refine g_iload_n (pc' := 4) 3 O dX8_amount_3 rfl rfl rfl ?_
  refine g_iconst (v := 1) (pc' := 5) O dX8_amount_4 (by decide) rfl ?_
  refine g_icmp_ne (tgt := 12) (pc' := 8) O dX8_amount_5 (by decide) rfl (fun hc => ?_) (fun hc => ?_)
  · replace h := ine hc h
    refine g_iconst (v := 2) (pc' := 13) O dX8_amount_12 (by decide) rfl ?_
    refine g_sub (lv' := [(0, .ref this), (1, .int p0), (2, .int p1), (3, .int p2), (4, .int (0 : Int32))]) [1, 2, 3, 4, 0] rfl ?_
    exact tX8_amount_13 O hf h
  · replace h := ip hc h
    refine g_iconst (v := 4) (pc' := 9) O dX8_amount_8 (by decide) rfl ?_
    refine g_goto (pc' := 13) O dX8_amount_9 (by decide) ?_
    refine g_sub (lv' := [(0, .ref this), (1, .int p0), (2, .int p1), (3, .int p2), (4, .int (0 : Int32))]) [1, 2, 3, 4, 0] rfl ?_
    exact tX8_amount_13 O hf h
abbrev mX8_isLeap : MD := (cX8_isLeap, 1, RX8, (some .boolean), { frames := 0, cells := 0, slots := 0, locals := 0 }, "isLeap")
theorem hyX8_isLeap : yX8_isLeap.cls ≠ "java/lang/invoke/MethodHandle" ∧ yX8_isLeap.cls ≠ "java/lang/invoke/VarHandle" ∧ (parseMethodDescriptor yX8_isLeap.desc).map (fun d => d.parameters.length) = some 1 := by decide +kernel
def fX8_isLeap_26  (s0 : Int32) (M : Mem) : Option (Int32 × Mem) :=
  (nz s0).bind fun z1 =>
  some (z1, M)
set_option maxHeartbeats 4000000 in
set_option maxRecDepth 100000 in
theorem tX8_isLeap_26 {κ : KT} {p : Int32 × Mem} (O : OkK κ mX8_isLeap) (hf : κ.2.2.2.2.2.2.2.2.2.2.2.2.2 = (some (.int p.1), p.2))  {s0 : Int32} {M : Mem} (h : fX8_isLeap_26  s0 M = some p) : G κ mX8_isLeap 0 0 26 [] [.int s0] M := by
  unfold fX8_isLeap_26 at h
  replace h := ob h; obtain ⟨z1, ez1, h⟩ := h
  obtain ⟨hz1, ez1b⟩ := nz_spec ez1
  rw [ez1b] at h
  cases h
  exact g_ireturn O dX8_isLeap_26 rfl (nz_nar hz1) hf (by decide) (by decide)
def fX8_isLeap_25  (M : Mem) : Option (Int32 × Mem) :=
  fX8_isLeap_26 (0 : Int32) M
set_option maxHeartbeats 4000000 in
set_option maxRecDepth 100000 in
theorem tX8_isLeap_25 {κ : KT} {p : Int32 × Mem} (O : OkK κ mX8_isLeap) (hf : κ.2.2.2.2.2.2.2.2.2.2.2.2.2 = (some (.int p.1), p.2))  {M : Mem} (h : fX8_isLeap_25  M = some p) : G κ mX8_isLeap 0 0 25 [] [] M := by
  unfold fX8_isLeap_25 at h
  refine g_iconst (v := 0) (pc' := 26) O dX8_isLeap_25 (by decide) rfl ?_
  exact tX8_isLeap_26 O hf h
def fX8_isLeap_21  (M : Mem) : Option (Int32 × Mem) :=
  fX8_isLeap_26 (1 : Int32) M
set_option maxHeartbeats 4000000 in
set_option maxRecDepth 100000 in
theorem tX8_isLeap_21 {κ : KT} {p : Int32 × Mem} (O : OkK κ mX8_isLeap) (hf : κ.2.2.2.2.2.2.2.2.2.2.2.2.2 = (some (.int p.1), p.2))  {M : Mem} (h : fX8_isLeap_21  M = some p) : G κ mX8_isLeap 0 0 21 [] [] M := by
  unfold fX8_isLeap_21 at h
  refine g_iconst (v := 1) (pc' := 22) O dX8_isLeap_21 (by decide) rfl ?_
  refine g_goto (pc' := 26) O dX8_isLeap_22 (by decide) ?_
  exact tX8_isLeap_26 O hf h
def fX8_isLeap  (p0 : Int32) (M : Mem) : Option (Int32 × Mem) :=
  if (rmI p0 (4 : Int32)) = 0 then (if (rmI p0 (100 : Int32)) = 0 then (if (rmI p0 (400 : Int32)) = 0 then (fX8_isLeap_21 M)
  else (fX8_isLeap_25 M))
  else (fX8_isLeap_21 M))
  else (fX8_isLeap_25 M)
set_option maxHeartbeats 4000000 in
set_option maxRecDepth 100000 in
theorem okX8_isLeap {l : Launch} {p : Int32 × Mem} {p0 : Int32} {M : Mem} (h : fX8_isLeap p0 M = some p) : Cn l yX8_isLeap mX8_isLeap [.int p0] M (some (.int p.1)) p.2 := by
  refine Cn.of [(0, .int p0)] (by decide) rfl rfl (Nat.le_of_ble_eq_true rfl) rfl (fun κ _ hf O => ?_)
  unfold fX8_isLeap at h
  refine g_iload_n (pc' := 1) 0 O dX8_isLeap_0 rfl rfl rfl ?_
  refine g_iconst (v := 4) (pc' := 2) O dX8_isLeap_1 (by decide) rfl ?_
  refine g_irem2 (pc' := 3) O dX8_isLeap_2 (by decide) rfl ?_
  refine g_if_ne (tgt := 25) (pc' := 6) O dX8_isLeap_3 (by decide) rfl (fun hc => ?_) (fun hc => ?_)
  · replace h := ine hc h
    refine g_sub (lv' := []) [] rfl ?_
    exact tX8_isLeap_25 O hf h
  · replace h := ip hc h
    refine g_iload_n (pc' := 7) 0 O dX8_isLeap_6 rfl rfl rfl ?_
    refine g_bipush (v := 100) (pc' := 9) O dX8_isLeap_7 (by decide) rfl ?_
    refine g_irem2 (pc' := 10) O dX8_isLeap_9 (by decide) rfl ?_
    refine g_if_ne (tgt := 21) (pc' := 13) O dX8_isLeap_10 (by decide) rfl (fun hc => ?_) (fun hc => ?_)
    · replace h := ine hc h
      refine g_sub (lv' := []) [] rfl ?_
      exact tX8_isLeap_21 O hf h
    · replace h := ip hc h
      refine g_iload_n (pc' := 14) 0 O dX8_isLeap_13 rfl rfl rfl ?_
      refine g_sipush (v := 400) (pc' := 17) O dX8_isLeap_14 (by decide) rfl ?_
      refine g_irem2 (pc' := 18) O dX8_isLeap_17 (by decide) rfl ?_
      refine g_if_ne (tgt := 25) (pc' := 21) O dX8_isLeap_18 (by decide) rfl (fun hc => ?_) (fun hc => ?_)
      · replace h := ine hc h
        refine g_sub (lv' := []) [] rfl ?_
        exact tX8_isLeap_25 O hf h
      · replace h := ip hc h
        refine g_sub (lv' := []) [] rfl ?_
        exact tX8_isLeap_21 O hf h
abbrev mX8_daysOf : MD := (cX8_daysOf, 2, RX8, (some .int), { frames := 1, cells := 0, slots := 0, locals := 20 }, "daysOf")
theorem hyX8_daysOf : yX8_daysOf.cls ≠ "java/lang/invoke/MethodHandle" ∧ yX8_daysOf.cls ≠ "java/lang/invoke/VarHandle" ∧ (parseMethodDescriptor yX8_daysOf.desc).map (fun d => d.parameters.length) = some 2 := by decide +kernel
def fX8_daysOf_52  (s0 : Int32) (M : Mem) : Option (Int32 × Mem) :=
  some (s0, M)
set_option maxHeartbeats 4000000 in
set_option maxRecDepth 100000 in
theorem tX8_daysOf_52 {κ : KT} {p : Int32 × Mem} (O : OkK κ mX8_daysOf) (hf : κ.2.2.2.2.2.2.2.2.2.2.2.2.2 = (some (.int p.1), p.2))  {s0 : Int32} {M : Mem} (h : fX8_daysOf_52  s0 M = some p) : G κ mX8_daysOf 0 0 52 [] [.int s0] M := by
  unfold fX8_daysOf_52 at h
  cases h
  exact g_ireturn O dX8_daysOf_52 rfl rfl hf (by decide) (by decide)
def fX8_daysOf_45  (M : Mem) : Option (Int32 × Mem) :=
  fX8_daysOf_52 (30 : Int32) M
set_option maxHeartbeats 4000000 in
set_option maxRecDepth 100000 in
theorem tX8_daysOf_45 {κ : KT} {p : Int32 × Mem} (O : OkK κ mX8_daysOf) (hf : κ.2.2.2.2.2.2.2.2.2.2.2.2.2 = (some (.int p.1), p.2))  {M : Mem} (h : fX8_daysOf_45  M = some p) : G κ mX8_daysOf 0 0 45 [] [] M := by
  unfold fX8_daysOf_45 at h
  refine g_bipush (v := 30) (pc' := 47) O dX8_daysOf_45 (by decide) rfl ?_
  refine g_goto (pc' := 52) O dX8_daysOf_47 (by decide) ?_
  exact tX8_daysOf_52 O hf h
def fX8_daysOf  (p0 : Int32) (p1 : Int32) (M : Mem) : Option (Int32 × Mem) :=
  if p0 = (2 : Int32) then ((fX8_isLeap p1 M).bind fun r1 =>
  if r1.1 = 0 then (fX8_daysOf_52 (28 : Int32) r1.2)
  else (fX8_daysOf_52 (29 : Int32) r1.2))
  else (if p0 = (4 : Int32) then (fX8_daysOf_45 M)
  else (if p0 = (6 : Int32) then (fX8_daysOf_45 M)
  else (if p0 = (9 : Int32) then (fX8_daysOf_45 M)
  else (if p0 = (11 : Int32) then (fX8_daysOf_45 M)
  else (fX8_daysOf_52 (31 : Int32) M)))))
set_option maxHeartbeats 4000000 in
set_option maxRecDepth 100000 in
theorem okX8_daysOf {l : Launch} {p : Int32 × Mem} {p0 : Int32} {p1 : Int32} {M : Mem} (h : fX8_daysOf p0 p1 M = some p) : Cn l yX8_daysOf mX8_daysOf [.int p0, .int p1] M (some (.int p.1)) p.2 := by
  refine Cn.of [(0, .int p0), (1, .int p1)] (by decide) rfl rfl (Nat.le_of_ble_eq_true rfl) rfl (fun κ _ hf O => ?_)
  unfold fX8_daysOf at h
  refine g_iload_n (pc' := 1) 0 O dX8_daysOf_0 rfl rfl rfl ?_
  refine g_iconst (v := 2) (pc' := 2) O dX8_daysOf_1 (by decide) rfl ?_
  refine g_icmp_ne (tgt := 22) (pc' := 5) O dX8_daysOf_2 (by decide) rfl (fun hc => ?_) (fun hc => ?_)
  · replace h := ine hc h
    refine g_iload_n (pc' := 23) 0 O dX8_daysOf_22 rfl rfl rfl ?_
    refine g_iconst (v := 4) (pc' := 24) O dX8_daysOf_23 (by decide) rfl ?_
    refine g_icmp_eq (tgt := 45) (pc' := 27) O dX8_daysOf_24 (by decide) rfl (fun hc => ?_) (fun hc => ?_)
    · replace h := ip hc h
      refine g_sub (lv' := []) [] rfl ?_
      exact tX8_daysOf_45 O hf h
    · replace h := ine hc h
      refine g_iload_n (pc' := 28) 0 O dX8_daysOf_27 rfl rfl rfl ?_
      refine g_bipush (v := 6) (pc' := 30) O dX8_daysOf_28 (by decide) rfl ?_
      refine g_icmp_eq (tgt := 45) (pc' := 33) O dX8_daysOf_30 (by decide) rfl (fun hc => ?_) (fun hc => ?_)
      · replace h := ip hc h
        refine g_sub (lv' := []) [] rfl ?_
        exact tX8_daysOf_45 O hf h
      · replace h := ine hc h
        refine g_iload_n (pc' := 34) 0 O dX8_daysOf_33 rfl rfl rfl ?_
        refine g_bipush (v := 9) (pc' := 36) O dX8_daysOf_34 (by decide) rfl ?_
        refine g_icmp_eq (tgt := 45) (pc' := 39) O dX8_daysOf_36 (by decide) rfl (fun hc => ?_) (fun hc => ?_)
        · replace h := ip hc h
          refine g_sub (lv' := []) [] rfl ?_
          exact tX8_daysOf_45 O hf h
        · replace h := ine hc h
          refine g_iload_n (pc' := 40) 0 O dX8_daysOf_39 rfl rfl rfl ?_
          refine g_bipush (v := 11) (pc' := 42) O dX8_daysOf_40 (by decide) rfl ?_
          refine g_icmp_ne (tgt := 50) (pc' := 45) O dX8_daysOf_42 (by decide) rfl (fun hc => ?_) (fun hc => ?_)
          · replace h := ine hc h
            refine g_bipush (v := 31) (pc' := 52) O dX8_daysOf_50 (by decide) rfl ?_
            refine g_sub (lv' := []) [] rfl ?_
            exact tX8_daysOf_52 O hf h
          · replace h := ip hc h
            refine g_sub (lv' := []) [] rfl ?_
            exact tX8_daysOf_45 O hf h
  · replace h := ip hc h
    refine g_iload_n (pc' := 6) 1 O dX8_daysOf_5 rfl rfl rfl ?_
    replace h := ob h; obtain ⟨r1, er1, h⟩ := h
    refine g_callS (y := yX8_isLeap) (ν := mX8_isLeap) (n := 1) (As := [.int p1]) (b := 0) (st := []) (M2 := r1.2) (r1 := (some (.int r1.1))) (pc' := 9) O dX8_daysOf_6 tw_896 tw_58 tw_895 tw_894 hyX8_isLeap rfl (okX8_isLeap er1) (Nat.le_of_ble_eq_true rfl) ⟨Nat.le_of_ble_eq_true rfl, Nat.le_of_ble_eq_true rfl⟩ ⟨Nat.le_of_ble_eq_true rfl, Nat.le_of_ble_eq_true rfl⟩ rfl ?_
    show G κ mX8_daysOf 0 0 9 [(0, .int p0), (1, .int p1)] [.int r1.1] r1.2
    refine g_if_eq (tgt := 17) (pc' := 12) O dX8_daysOf_9 (by decide) rfl (fun hc => ?_) (fun hc => ?_)
    · replace h := ip hc h
      refine g_bipush (v := 28) (pc' := 19) O dX8_daysOf_17 (by decide) rfl ?_
      refine g_goto (pc' := 52) O dX8_daysOf_19 (by decide) ?_
      refine g_sub (lv' := []) [] rfl ?_
      exact tX8_daysOf_52 O hf h
    · replace h := ine hc h
      refine g_bipush (v := 29) (pc' := 14) O dX8_daysOf_12 (by decide) rfl ?_
      refine g_goto (pc' := 52) O dX8_daysOf_14 (by decide) ?_
      refine g_sub (lv' := []) [] rfl ?_
      exact tX8_daysOf_52 O hf h
abbrev mX8_dayNumber : MD := (cX8_dayNumber, 8, RX8, (some .long), { frames := 2, cells := 0, slots := 0, locals := 41 }, "dayNumber")
theorem hyX8_dayNumber : yX8_dayNumber.cls ≠ "java/lang/invoke/MethodHandle" ∧ yX8_dayNumber.cls ≠ "java/lang/invoke/VarHandle" ∧ (parseMethodDescriptor yX8_dayNumber.desc).map (fun d => d.parameters.length) = some 3 := by decide +kernel
def fX8_dayNumber_33  : Nat → Int32 → Int32 → Int32 → Int64 → Int32 → Mem → Option (Int64 × Mem)
  | 0, _, _, _, _, _, _ => none
  | n + 1, x0, x1, x2, x5, x7, M =>
    if x1 ≤ x7 then (some (((x5 + (x0.toInt64)) - (1 : Int64)), M))
    else ((fX8_daysOf x7 x2 M).bind fun r1 =>
    fX8_dayNumber_33 n x0 x1 x2 (x5 + (r1.1.toInt64)) (x7 + (1 : Int32)) r1.2)
set_option maxHeartbeats 4000000 in
set_option maxRecDepth 100000 in
theorem tX8_dayNumber_33 {κ : KT} {p : Int64 × Mem} (O : OkK κ mX8_dayNumber) (hf : κ.2.2.2.2.2.2.2.2.2.2.2.2.2 = (some (.long p.1), p.2))  : ∀ (n : Nat) (x0 : Int32) (x1 : Int32) (x2 : Int32) (x5 : Int64) (x7 : Int32) (M : Mem), fX8_dayNumber_33  n x0 x1 x2 x5 x7 M = some p → G κ mX8_dayNumber 0 0 33 [(0, .int x0), (1, .int x1), (2, .int x2), (5, .long x5), (7, .int x7)] [] M := by
  intro n
  induction n with
  | zero => intro x0 x1 x2 x5 x7 M h; cases h
  | succ n ih =>
    intro x0 x1 x2 x5 x7 M h
    rw [fX8_dayNumber_33] at h
    refine g_iload (pc' := 35) 4 O dX8_dayNumber_33 rfl rfl ?_
    refine g_iload_n (pc' := 36) 1 O dX8_dayNumber_35 rfl rfl rfl ?_
    refine g_icmp_ge (tgt := 57) (pc' := 39) O dX8_dayNumber_36 (by decide) rfl (fun hc => ?_) (fun hc => ?_)
    · replace h := ip hc h
      refine g_lload (pc' := 59) 3 O dX8_dayNumber_57 rfl rfl ?_
      refine g_iload_n (pc' := 60) 0 O dX8_dayNumber_59 rfl rfl rfl ?_
      refine g_i2l (pc' := 61) O dX8_dayNumber_60 rfl ?_
      refine g_ladd (pc' := 62) O dX8_dayNumber_61 rfl ?_
      refine g_lconst (v := 1) (pc' := 63) O dX8_dayNumber_62 (by decide) rfl ?_
      refine g_lsub (pc' := 64) O dX8_dayNumber_63 rfl ?_
      cases h
      exact g_lreturn O dX8_dayNumber_64 rfl hf (by decide) (by decide)
    · replace h := ine hc h
      refine g_lload (pc' := 41) 3 O dX8_dayNumber_39 rfl rfl ?_
      refine g_iload (pc' := 43) 4 O dX8_dayNumber_41 rfl rfl ?_
      refine g_iload_n (pc' := 44) 2 O dX8_dayNumber_43 rfl rfl rfl ?_
      replace h := ob h; obtain ⟨r1, er1, h⟩ := h
      refine g_callS (y := yX8_daysOf) (ν := mX8_daysOf) (n := 2) (As := [.int x7, .int x2]) (b := 0) (st := [.long x5]) (M2 := r1.2) (r1 := (some (.int r1.1))) (pc' := 47) O dX8_dayNumber_44 tw_899 tw_58 tw_898 tw_897 hyX8_daysOf rfl (okX8_daysOf er1) (Nat.le_of_ble_eq_true rfl) ⟨Nat.le_of_ble_eq_true rfl, Nat.le_of_ble_eq_true rfl⟩ ⟨Nat.le_of_ble_eq_true rfl, Nat.le_of_ble_eq_true rfl⟩ rfl ?_
      show G κ mX8_dayNumber 0 0 47 [(0, .int x0), (1, .int x1), (2, .int x2), (5, .long x5), (7, .int x7)] [.int r1.1, .long x5] r1.2
      refine g_i2l (pc' := 48) O dX8_dayNumber_47 rfl ?_
      refine g_ladd (pc' := 49) O dX8_dayNumber_48 rfl ?_
      refine g_lstore (lv' := [(5, .long (x5 + (r1.1.toInt64))), (0, .int x0), (1, .int x1), (2, .int x2), (7, .int x7)]) (pc' := 51) O dX8_dayNumber_49 (by decide) rfl rfl ?_
      refine g_iinc (q := 4) (v := x7 + (1 : Int32)) (lv' := [(7, .int (x7 + (1 : Int32))), (5, .long (x5 + (r1.1.toInt64))), (0, .int x0), (1, .int x1), (2, .int x2)]) (pc' := 54) O dX8_dayNumber_51 rfl rfl (by decide) rfl rfl ?_
      refine g_goto (pc' := 33) O dX8_dayNumber_54 (by decide) ?_
      refine g_sub (lv' := [(0, .int x0), (1, .int x1), (2, .int x2), (5, .long (x5 + (r1.1.toInt64))), (7, .int (x7 + (1 : Int32)))]) [2, 3, 4, 1, 0] rfl ?_
      exact ih x0 x1 x2 (x5 + (r1.1.toInt64)) (x7 + (1 : Int32)) r1.2 h
def fX8_dayNumber  (p0 : Int32) (p1 : Int32) (p2 : Int32) (M : Mem) : Option (Int64 × Mem) :=
  (some (((((365 : Int64) * ((p2 - (1 : Int32)).toInt64)) + (((p2 - (1 : Int32)).toInt64) / (4 : Int64))) - (((p2 - (1 : Int32)).toInt64) / (100 : Int64))) + (((p2 - (1 : Int32)).toInt64) / (400 : Int64)))).bind fun v1 =>
  fX8_dayNumber_33 FU p0 p1 p2 v1 (1 : Int32) M
set_option maxHeartbeats 4000000 in
set_option maxRecDepth 100000 in
theorem okX8_dayNumber {l : Launch} {p : Int64 × Mem} {p0 : Int32} {p1 : Int32} {p2 : Int32} {M : Mem} (h : fX8_dayNumber p0 p1 p2 M = some p) : Cn l yX8_dayNumber mX8_dayNumber [.int p0, .int p1, .int p2] M (some (.long p.1)) p.2 := by
  refine Cn.of [(0, .int p0), (1, .int p1), (2, .int p2)] (by decide) rfl rfl (Nat.le_of_ble_eq_true rfl) rfl (fun κ _ hf O => ?_)
  unfold fX8_dayNumber at h
  refine g_iload_n (pc' := 1) 2 O dX8_dayNumber_0 rfl rfl rfl ?_
  refine g_iconst (v := 1) (pc' := 2) O dX8_dayNumber_1 (by decide) rfl ?_
  refine g_isub (pc' := 3) O dX8_dayNumber_2 rfl ?_
  refine g_i2l (pc' := 4) O dX8_dayNumber_3 rfl ?_
  refine g_lstore_n (lv' := [(3, .long ((p2 - (1 : Int32)).toInt64)), (0, .int p0), (1, .int p1), (2, .int p2)]) (pc' := 5) O dX8_dayNumber_4 rfl (by decide) rfl rfl ?_
  refine g_ldc2 (v := 365) (pc' := 8) O dX8_dayNumber_5 tw_903 rfl ?_
  refine g_lload_n (pc' := 9) 0 O dX8_dayNumber_8 rfl rfl rfl ?_
  refine g_lmul (pc' := 10) O dX8_dayNumber_9 rfl ?_
  refine g_lload_n (pc' := 11) 0 O dX8_dayNumber_10 rfl rfl rfl ?_
  refine g_ldc2 (v := 4) (pc' := 14) O dX8_dayNumber_11 tw_904 rfl ?_
  refine g_ldiv (pc' := 15) O dX8_dayNumber_14 (by decide) rfl ?_
  refine g_ladd (pc' := 16) O dX8_dayNumber_15 rfl ?_
  refine g_lload_n (pc' := 17) 0 O dX8_dayNumber_16 rfl rfl rfl ?_
  refine g_ldc2 (v := 100) (pc' := 20) O dX8_dayNumber_17 tw_905 rfl ?_
  refine g_ldiv (pc' := 21) O dX8_dayNumber_20 (by decide) rfl ?_
  refine g_lsub (pc' := 22) O dX8_dayNumber_21 rfl ?_
  refine g_lload_n (pc' := 23) 0 O dX8_dayNumber_22 rfl rfl rfl ?_
  refine g_ldc2 (v := 400) (pc' := 26) O dX8_dayNumber_23 tw_906 rfl ?_
  refine g_ldiv (pc' := 27) O dX8_dayNumber_26 (by decide) rfl ?_
  refine g_ladd (pc' := 28) O dX8_dayNumber_27 rfl ?_
  replace h := ob h; obtain ⟨v1, ev1, h⟩ := h
  have ev1 := Option.some.inj ev1
  rw [ev1]
  refine g_lstore (lv' := [(5, .long v1), (3, .long ((p2 - (1 : Int32)).toInt64)), (0, .int p0), (1, .int p1), (2, .int p2)]) (pc' := 30) O dX8_dayNumber_28 (by decide) rfl rfl ?_
  refine g_iconst (v := 1) (pc' := 31) O dX8_dayNumber_30 (by decide) rfl ?_
  refine g_istore (lv' := [(7, .int (1 : Int32)), (5, .long v1), (3, .long ((p2 - (1 : Int32)).toInt64)), (0, .int p0), (1, .int p1), (2, .int p2)]) (pc' := 33) O dX8_dayNumber_31 (by decide) rfl rfl ?_
  refine g_sub (lv' := [(0, .int p0), (1, .int p1), (2, .int p2), (5, .long v1), (7, .int (1 : Int32))]) [3, 4, 5, 1, 0] rfl ?_
  exact tX8_dayNumber_33 O hf FU p0 p1 p2 v1 (1 : Int32) M h
abbrev mX8_begins : MD := (cX8_begins, 7, RX8, (some .boolean), { frames := 0, cells := 0, slots := 0, locals := 0 }, "begins")
theorem hyX8_begins : yX8_begins.cls ≠ "java/lang/invoke/MethodHandle" ∧ yX8_begins.cls ≠ "java/lang/invoke/VarHandle" ∧ (parseMethodDescriptor yX8_begins.desc).map (fun d => d.parameters.length) = some 4 := by decide +kernel
def fX8_begins_79  (M : Mem) : Option (Int32 × Mem) :=
  (nz (1 : Int32)).bind fun z1 =>
  some (z1, M)
set_option maxHeartbeats 4000000 in
set_option maxRecDepth 100000 in
theorem tX8_begins_79 {κ : KT} {p : Int32 × Mem} (O : OkK κ mX8_begins) (hf : κ.2.2.2.2.2.2.2.2.2.2.2.2.2 = (some (.int p.1), p.2))  {M : Mem} (h : fX8_begins_79  M = some p) : G κ mX8_begins 0 0 79 [] [] M := by
  unfold fX8_begins_79 at h
  refine g_iconst (v := 1) (pc' := 80) O dX8_begins_79 (by decide) rfl ?_
  replace h := ob h; obtain ⟨z1, ez1, h⟩ := h
  obtain ⟨hz1, ez1b⟩ := nz_spec ez1
  rw [ez1b] at h
  cases h
  exact g_ireturn O dX8_begins_80 rfl (nz_nar hz1) hf (by decide) (by decide)
def fX8_begins_27  : Nat → Nat → Int32 → Int32 → Int32 → Int32 → Int32 → Int32 → Mem → Option (Int32 × Mem)
  | 0, _, _, _, _, _, _, _, _ => none
  | n + 1, x0, x1, x2, x3, x4, x5, x6, M =>
    if x2 ≤ x6 then (fX8_begins_79 M)
    else (if x4 ≤ (x3 + x6) then (fX8_begins_79 M)
    else ((gN M 5 x0 19).bind fun v1 =>
    (aI M v1 (x3 + x6)).bind fun v2 =>
    (dzI x5).bind fun z3 =>
    if v2 = ((48 : Int32) + (rmI (x1 / x5) (10 : Int32))) then (fX8_begins_27 n x0 x1 x2 x3 x4 (x5 / (10 : Int32)) (x6 + (1 : Int32)) M)
    else ((nz (0 : Int32)).bind fun z4 =>
    some (z4, M))))
set_option maxHeartbeats 4000000 in
set_option maxRecDepth 100000 in
theorem tX8_begins_27 {κ : KT} {p : Int32 × Mem} (O : OkK κ mX8_begins) (hf : κ.2.2.2.2.2.2.2.2.2.2.2.2.2 = (some (.int p.1), p.2))  : ∀ (n : Nat) (x0 : Nat) (x1 : Int32) (x2 : Int32) (x3 : Int32) (x4 : Int32) (x5 : Int32) (x6 : Int32) (M : Mem), fX8_begins_27  n x0 x1 x2 x3 x4 x5 x6 M = some p → G κ mX8_begins 0 0 27 [(0, .ref x0), (1, .int x1), (2, .int x2), (3, .int x3), (4, .int x4), (5, .int x5), (6, .int x6)] [] M := by
  intro n
  induction n with
  | zero => intro x0 x1 x2 x3 x4 x5 x6 M h; cases h
  | succ n ih =>
    intro x0 x1 x2 x3 x4 x5 x6 M h
    rw [fX8_begins_27] at h
    refine g_iload (pc' := 29) 6 O dX8_begins_27 rfl rfl ?_
    refine g_iload_n (pc' := 30) 2 O dX8_begins_29 rfl rfl rfl ?_
    refine g_icmp_ge (tgt := 79) (pc' := 33) O dX8_begins_30 (by decide) rfl (fun hc => ?_) (fun hc => ?_)
    · replace h := ip hc h
      refine g_sub (lv' := []) [] rfl ?_
      exact tX8_begins_79 O hf h
    · replace h := ine hc h
      refine g_iload_n (pc' := 34) 3 O dX8_begins_33 rfl rfl rfl ?_
      refine g_iload (pc' := 36) 6 O dX8_begins_34 rfl rfl ?_
      refine g_iadd (pc' := 37) O dX8_begins_36 rfl ?_
      refine g_iload (pc' := 39) 4 O dX8_begins_37 rfl rfl ?_
      refine g_icmp_ge (tgt := 79) (pc' := 42) O dX8_begins_39 (by decide) rfl (fun hc => ?_) (fun hc => ?_)
      · replace h := ip hc h
        refine g_sub (lv' := []) [] rfl ?_
        exact tX8_begins_79 O hf h
      · replace h := ine hc h
        refine g_aload_n (pc' := 43) 0 O dX8_begins_42 rfl rfl rfl ?_
        replace h := ob h; obtain ⟨v1, ev1, h⟩ := h
        refine g_getF (C := RX8) (T := TX8) (N := 29) (ci := 5) (k := 19) (pc' := 46) O dX8_begins_43 rfl inX8 (by decide) tw_735 (gN_F ev1) rfl ?_
        refine g_iload_n (pc' := 47) 3 O dX8_begins_46 rfl rfl rfl ?_
        refine g_iload (pc' := 49) 6 O dX8_begins_47 rfl rfl ?_
        refine g_iadd (pc' := 50) O dX8_begins_49 rfl ?_
        replace h := ob h; obtain ⟨v2, ev2, h⟩ := h
        refine g_iald (pc' := 51) O dX8_begins_50 ev2 rfl ?_
        refine g_bipush (v := 48) (pc' := 53) O dX8_begins_51 (by decide) rfl ?_
        refine g_iload_n (pc' := 54) 1 O dX8_begins_53 rfl rfl rfl ?_
        refine g_iload (pc' := 56) 5 O dX8_begins_54 rfl rfl ?_
        replace h := ob h; obtain ⟨z3, ez3, h⟩ := h
        refine g_idiv (pc' := 57) O dX8_begins_56 (dzI_ne ez3) rfl ?_
        refine g_bipush (v := 10) (pc' := 59) O dX8_begins_57 (by decide) rfl ?_
        refine g_irem2 (pc' := 60) O dX8_begins_59 (by decide) rfl ?_
        refine g_iadd (pc' := 61) O dX8_begins_60 rfl ?_
        refine g_icmp_eq (tgt := 66) (pc' := 64) O dX8_begins_61 (by decide) rfl (fun hc => ?_) (fun hc => ?_)
        · replace h := ip hc h
          refine g_iload (pc' := 68) 5 O dX8_begins_66 rfl rfl ?_
          refine g_bipush (v := 10) (pc' := 70) O dX8_begins_68 (by decide) rfl ?_
          refine g_idiv (pc' := 71) O dX8_begins_70 (by decide) rfl ?_
          refine g_istore (lv' := [(5, .int (x5 / (10 : Int32))), (0, .ref x0), (1, .int x1), (2, .int x2), (3, .int x3), (4, .int x4), (6, .int x6)]) (pc' := 73) O dX8_begins_71 (by decide) rfl rfl ?_
          refine g_iinc (q := 6) (v := x6 + (1 : Int32)) (lv' := [(6, .int (x6 + (1 : Int32))), (5, .int (x5 / (10 : Int32))), (0, .ref x0), (1, .int x1), (2, .int x2), (3, .int x3), (4, .int x4)]) (pc' := 76) O dX8_begins_73 rfl rfl (by decide) rfl rfl ?_
          refine g_goto (pc' := 27) O dX8_begins_76 (by decide) ?_
          refine g_sub (lv' := [(0, .ref x0), (1, .int x1), (2, .int x2), (3, .int x3), (4, .int x4), (5, .int (x5 / (10 : Int32))), (6, .int (x6 + (1 : Int32)))]) [2, 3, 4, 5, 6, 1, 0] rfl ?_
          exact ih x0 x1 x2 x3 x4 (x5 / (10 : Int32)) (x6 + (1 : Int32)) M h
        · replace h := ine hc h
          refine g_iconst (v := 0) (pc' := 65) O dX8_begins_64 (by decide) rfl ?_
          replace h := ob h; obtain ⟨z4, ez4, h⟩ := h
          obtain ⟨hz4, ez4b⟩ := nz_spec ez4
          rw [ez4b] at h
          cases h
          exact g_ireturn O dX8_begins_65 rfl (nz_nar hz4) hf (by decide) (by decide)
def fX8_begins_22  (x0 : Nat) (x1 : Int32) (x2 : Int32) (x3 : Int32) (x4 : Int32) (s0 : Int32) (M : Mem) : Option (Int32 × Mem) :=
  fX8_begins_27 FU x0 x1 x2 x3 x4 s0 (0 : Int32) M
set_option maxHeartbeats 4000000 in
set_option maxRecDepth 100000 in
theorem tX8_begins_22 {κ : KT} {p : Int32 × Mem} (O : OkK κ mX8_begins) (hf : κ.2.2.2.2.2.2.2.2.2.2.2.2.2 = (some (.int p.1), p.2))  {x0 : Nat} {x1 : Int32} {x2 : Int32} {x3 : Int32} {x4 : Int32} {s0 : Int32} {M : Mem} (h : fX8_begins_22  x0 x1 x2 x3 x4 s0 M = some p) : G κ mX8_begins 0 0 22 [(0, .ref x0), (1, .int x1), (2, .int x2), (3, .int x3), (4, .int x4)] [.int s0] M := by
  unfold fX8_begins_22 at h
  refine g_istore (lv' := [(5, .int s0), (0, .ref x0), (1, .int x1), (2, .int x2), (3, .int x3), (4, .int x4)]) (pc' := 24) O dX8_begins_22 (by decide) rfl rfl ?_
  refine g_iconst (v := 0) (pc' := 25) O dX8_begins_24 (by decide) rfl ?_
  refine g_istore (lv' := [(6, .int (0 : Int32)), (5, .int s0), (0, .ref x0), (1, .int x1), (2, .int x2), (3, .int x3), (4, .int x4)]) (pc' := 27) O dX8_begins_25 (by decide) rfl rfl ?_
  refine g_sub (lv' := [(0, .ref x0), (1, .int x1), (2, .int x2), (3, .int x3), (4, .int x4), (5, .int s0), (6, .int (0 : Int32))]) [2, 3, 4, 5, 6, 1, 0] rfl ?_
  exact tX8_begins_27 O hf FU x0 x1 x2 x3 x4 s0 (0 : Int32) M h
def fX8_begins  (this : Nat) (p0 : Int32) (p1 : Int32) (p2 : Int32) (p3 : Int32) (M : Mem) : Option (Int32 × Mem) :=
  if p1 = (4 : Int32) then (fX8_begins_22 this p0 p1 p2 p3 (1000 : Int32) M)
  else (if p1 = (2 : Int32) then (fX8_begins_22 this p0 p1 p2 p3 (10 : Int32) M)
  else (fX8_begins_22 this p0 p1 p2 p3 (1 : Int32) M))
set_option maxHeartbeats 4000000 in
set_option maxRecDepth 100000 in
theorem okX8_begins {l : Launch} {p : Int32 × Mem} {this : Nat} {p0 : Int32} {p1 : Int32} {p2 : Int32} {p3 : Int32} {M : Mem} (h : fX8_begins this p0 p1 p2 p3 M = some p) : Cn l yX8_begins mX8_begins [.ref this, .int p0, .int p1, .int p2, .int p3] M (some (.int p.1)) p.2 := by
  refine Cn.of [(0, .ref this), (1, .int p0), (2, .int p1), (3, .int p2), (4, .int p3)] (by decide) rfl rfl (Nat.le_of_ble_eq_true rfl) rfl (fun κ _ hf O => ?_)
  unfold fX8_begins at h
  refine g_iload_n (pc' := 1) 2 O dX8_begins_0 rfl rfl rfl ?_
  refine g_iconst (v := 4) (pc' := 2) O dX8_begins_1 (by decide) rfl ?_
  refine g_icmp_ne (tgt := 11) (pc' := 5) O dX8_begins_2 (by decide) rfl (fun hc => ?_) (fun hc => ?_)
  · replace h := ine hc h
    refine g_iload_n (pc' := 12) 2 O dX8_begins_11 rfl rfl rfl ?_
    refine g_iconst (v := 2) (pc' := 13) O dX8_begins_12 (by decide) rfl ?_
    refine g_icmp_ne (tgt := 21) (pc' := 16) O dX8_begins_13 (by decide) rfl (fun hc => ?_) (fun hc => ?_)
    · replace h := ine hc h
      refine g_iconst (v := 1) (pc' := 22) O dX8_begins_21 (by decide) rfl ?_
      exact tX8_begins_22 O hf h
    · replace h := ip hc h
      refine g_bipush (v := 10) (pc' := 18) O dX8_begins_16 (by decide) rfl ?_
      refine g_goto (pc' := 22) O dX8_begins_18 (by decide) ?_
      exact tX8_begins_22 O hf h
  · replace h := ip hc h
    refine g_sipush (v := 1000) (pc' := 8) O dX8_begins_5 (by decide) rfl ?_
    refine g_goto (pc' := 22) O dX8_begins_8 (by decide) ?_
    exact tX8_begins_22 O hf h
abbrev mX8_isSign : MD := (cX8_isSign, 4, RX8, (some .boolean), { frames := 0, cells := 0, slots := 0, locals := 0 }, "isSign")
theorem hyX8_isSign : yX8_isSign.cls ≠ "java/lang/invoke/MethodHandle" ∧ yX8_isSign.cls ≠ "java/lang/invoke/VarHandle" ∧ (parseMethodDescriptor yX8_isSign.desc).map (fun d => d.parameters.length) = some 3 := by decide +kernel
def fX8_isSign_25  (s0 : Int32) (M : Mem) : Option (Int32 × Mem) :=
  (nz s0).bind fun z1 =>
  some (z1, M)
set_option maxHeartbeats 4000000 in
set_option maxRecDepth 100000 in
theorem tX8_isSign_25 {κ : KT} {p : Int32 × Mem} (O : OkK κ mX8_isSign) (hf : κ.2.2.2.2.2.2.2.2.2.2.2.2.2 = (some (.int p.1), p.2))  {s0 : Int32} {M : Mem} (h : fX8_isSign_25  s0 M = some p) : G κ mX8_isSign 0 0 25 [] [.int s0] M := by
  unfold fX8_isSign_25 at h
  replace h := ob h; obtain ⟨z1, ez1, h⟩ := h
  obtain ⟨hz1, ez1b⟩ := nz_spec ez1
  rw [ez1b] at h
  cases h
  exact g_ireturn O dX8_isSign_25 rfl (nz_nar hz1) hf (by decide) (by decide)
def fX8_isSign_20  (M : Mem) : Option (Int32 × Mem) :=
  fX8_isSign_25 (1 : Int32) M
set_option maxHeartbeats 4000000 in
set_option maxRecDepth 100000 in
theorem tX8_isSign_20 {κ : KT} {p : Int32 × Mem} (O : OkK κ mX8_isSign) (hf : κ.2.2.2.2.2.2.2.2.2.2.2.2.2 = (some (.int p.1), p.2))  {M : Mem} (h : fX8_isSign_20  M = some p) : G κ mX8_isSign 0 0 20 [] [] M := by
  unfold fX8_isSign_20 at h
  refine g_iconst (v := 1) (pc' := 21) O dX8_isSign_20 (by decide) rfl ?_
  refine g_goto (pc' := 25) O dX8_isSign_21 (by decide) ?_
  exact tX8_isSign_25 O hf h
def fX8_isSign  (this : Nat) (p0 : Int32) (p1 : Int32) (p2 : Int32) (M : Mem) : Option (Int32 × Mem) :=
  if p2 ≤ p1 then (fX8_isSign_20 M)
  else ((gN M 5 this 19).bind fun v1 =>
  (aI M v1 p1).bind fun v2 =>
  (gN M 5 this 9).bind fun v3 =>
  (aI M v3 p0).bind fun v4 =>
  if v2 = v4 then (fX8_isSign_20 M)
  else (fX8_isSign_25 (0 : Int32) M))
set_option maxHeartbeats 4000000 in
set_option maxRecDepth 100000 in
theorem okX8_isSign {l : Launch} {p : Int32 × Mem} {this : Nat} {p0 : Int32} {p1 : Int32} {p2 : Int32} {M : Mem} (h : fX8_isSign this p0 p1 p2 M = some p) : Cn l yX8_isSign mX8_isSign [.ref this, .int p0, .int p1, .int p2] M (some (.int p.1)) p.2 := by
  refine Cn.of [(0, .ref this), (1, .int p0), (2, .int p1), (3, .int p2)] (by decide) rfl rfl (Nat.le_of_ble_eq_true rfl) rfl (fun κ _ hf O => ?_)
  unfold fX8_isSign at h
  refine g_iload_n (pc' := 1) 2 O dX8_isSign_0 rfl rfl rfl ?_
  refine g_iload_n (pc' := 2) 3 O dX8_isSign_1 rfl rfl rfl ?_
  refine g_icmp_ge (tgt := 20) (pc' := 5) O dX8_isSign_2 (by decide) rfl (fun hc => ?_) (fun hc => ?_)
  · replace h := ip hc h
    refine g_sub (lv' := []) [] rfl ?_
    exact tX8_isSign_20 O hf h
  · replace h := ine hc h
    refine g_aload_n (pc' := 6) 0 O dX8_isSign_5 rfl rfl rfl ?_
    replace h := ob h; obtain ⟨v1, ev1, h⟩ := h
    refine g_getF (C := RX8) (T := TX8) (N := 29) (ci := 5) (k := 19) (pc' := 9) O dX8_isSign_6 rfl inX8 (by decide) tw_735 (gN_F ev1) rfl ?_
    refine g_iload_n (pc' := 10) 2 O dX8_isSign_9 rfl rfl rfl ?_
    replace h := ob h; obtain ⟨v2, ev2, h⟩ := h
    refine g_iald (pc' := 11) O dX8_isSign_10 ev2 rfl ?_
    refine g_aload_n (pc' := 12) 0 O dX8_isSign_11 rfl rfl rfl ?_
    replace h := ob h; obtain ⟨v3, ev3, h⟩ := h
    refine g_getF (C := RX8) (T := TX8) (N := 29) (ci := 5) (k := 9) (pc' := 15) O dX8_isSign_12 rfl inX8 (by decide) tw_725 (gN_F ev3) rfl ?_
    refine g_iload_n (pc' := 16) 1 O dX8_isSign_15 rfl rfl rfl ?_
    replace h := ob h; obtain ⟨v4, ev4, h⟩ := h
    refine g_iald (pc' := 17) O dX8_isSign_16 ev4 rfl ?_
    refine g_icmp_ne (tgt := 24) (pc' := 20) O dX8_isSign_17 (by decide) rfl (fun hc => ?_) (fun hc => ?_)
    · replace h := ine hc h
      refine g_iconst (v := 0) (pc' := 25) O dX8_isSign_24 (by decide) rfl ?_
      refine g_sub (lv' := []) [] rfl ?_
      exact tX8_isSign_25 O hf h
    · replace h := ip hc h
      refine g_sub (lv' := []) [] rfl ?_
      exact tX8_isSign_20 O hf h
