abbrev mX6_writeDay : MD := (cX6_writeDay, 9, RX6, none, { frames := 2, cells := 0, slots := 0, locals := 48 }, "writeDay")
theorem hyX6_writeDay : yX6_writeDay.cls ≠ "java/lang/invoke/MethodHandle" ∧ yX6_writeDay.cls ≠ "java/lang/invoke/VarHandle" ∧ (parseMethodDescriptor yX6_writeDay.desc).map (fun d => d.parameters.length) = some 3 := by decide +kernel
def fX6_writeDay_128 (k66 : Nat → Nat → Int32 → Int32 → Int32 → Int32 → Mem → Option (Mem)) (x0 : Nat) (x1 : Nat) (x3 : Int32) (x5 : Int32) (x6 : Int32) (x7 : Int32) (M : Mem) : Option (Mem) :=
  k66 x0 x1 x3 x5 x6 (x7 + (1 : Int32)) M
set_option maxHeartbeats 4000000 in
set_option maxRecDepth 100000 in
theorem tX6_writeDay_128 {κ : KT} {p : Mem} (O : OkK κ mX6_writeDay) (hf : κ.2.2.2.2.2.2.2.2.2.2.2.2.2 = (none, p)) {k66 : Nat → Nat → Int32 → Int32 → Int32 → Int32 → Mem → Option (Mem)} (hk66 : ∀ (x0 : Nat) (x1 : Nat) (x3 : Int32) (x5 : Int32) (x6 : Int32) (x7 : Int32) (M : Mem), k66 x0 x1 x3 x5 x6 x7 M = some p → G κ mX6_writeDay 0 0 66 [(0, .ref x0), (1, .ref x1), (3, .int x3), (5, .int x5), (6, .int x6), (7, .int x7)] [] M) {x0 : Nat} {x1 : Nat} {x3 : Int32} {x5 : Int32} {x6 : Int32} {x7 : Int32} {M : Mem} (h : fX6_writeDay_128 k66 x0 x1 x3 x5 x6 x7 M = some p) : G κ mX6_writeDay 0 0 128 [(0, .ref x0), (1, .ref x1), (3, .int x3), (5, .int x5), (6, .int x6), (7, .int x7)] [] M := by
  unfold fX6_writeDay_128 at h
  refine g_iinc (q := 5) (v := x7 + (1 : Int32)) (lv' := [(7, .int (x7 + (1 : Int32))), (0, .ref x0), (1, .ref x1), (3, .int x3), (5, .int x5), (6, .int x6)]) (pc' := 131) O dX6_writeDay_128 rfl rfl (by decide) rfl rfl ?_
  refine g_goto (pc' := 66) O dX6_writeDay_131 (by decide) ?_
  refine g_sub (lv' := [(0, .ref x0), (1, .ref x1), (3, .int x3), (5, .int x5), (6, .int x6), (7, .int (x7 + (1 : Int32)))]) [1, 2, 3, 4, 5, 0] rfl ?_
  exact hk66 x0 x1 x3 x5 x6 (x7 + (1 : Int32)) M h
def fX6_writeDay_124 (k66 : Nat → Nat → Int32 → Int32 → Int32 → Int32 → Mem → Option (Mem)) (x0 : Nat) (x1 : Nat) (x3 : Int32) (x5 : Int32) (x6 : Int32) (x7 : Int32) (s0 : Int32) (s1 : Nat) (M : Mem) : Option (Mem) :=
  (ck M 3 s1).bind fun u1 =>
  (fX4_addDigits s1 s0 (2 : Int32) M).bind fun r2 =>
  fX6_writeDay_128 k66 x0 x1 x3 x5 x6 x7 r2
set_option maxHeartbeats 4000000 in
set_option maxRecDepth 100000 in
theorem tX6_writeDay_124 {κ : KT} {p : Mem} (O : OkK κ mX6_writeDay) (hf : κ.2.2.2.2.2.2.2.2.2.2.2.2.2 = (none, p)) {k66 : Nat → Nat → Int32 → Int32 → Int32 → Int32 → Mem → Option (Mem)} (hk66 : ∀ (x0 : Nat) (x1 : Nat) (x3 : Int32) (x5 : Int32) (x6 : Int32) (x7 : Int32) (M : Mem), k66 x0 x1 x3 x5 x6 x7 M = some p → G κ mX6_writeDay 0 0 66 [(0, .ref x0), (1, .ref x1), (3, .int x3), (5, .int x5), (6, .int x6), (7, .int x7)] [] M) {x0 : Nat} {x1 : Nat} {x3 : Int32} {x5 : Int32} {x6 : Int32} {x7 : Int32} {s0 : Int32} {s1 : Nat} {M : Mem} (h : fX6_writeDay_124 k66 x0 x1 x3 x5 x6 x7 s0 s1 M = some p) : G κ mX6_writeDay 0 0 124 [(0, .ref x0), (1, .ref x1), (3, .int x3), (5, .int x5), (6, .int x6), (7, .int x7)] [.int s0, .ref s1] M := by
  unfold fX6_writeDay_124 at h
  refine g_iconst (v := 2) (pc' := 125) O dX6_writeDay_124 (by decide) rfl ?_
  replace h := ob h; obtain ⟨u1, eu1, h⟩ := h
  replace h := ob h; obtain ⟨r2, er2, h⟩ := h
  refine g_callV (y := yX4_addDigits) (ν := mX4_addDigits) (n := 2) (As := [.int s0, .int (2 : Int32)]) (b := s1) (st := []) (M2 := r2) (r1 := none) (pc' := 128) O dX6_writeDay_125 tw_471 tw_55 tw_469 tw_470 tw_468 hyX4_addDigits rfl rfl eu1 (okX4_addDigits er2) (Nat.le_of_ble_eq_true rfl) ⟨Nat.le_of_ble_eq_true rfl, Nat.le_of_ble_eq_true rfl⟩ ⟨Nat.le_of_ble_eq_true rfl, Nat.le_of_ble_eq_true rfl⟩ rfl ?_
  show G κ mX6_writeDay 0 0 128 [(0, .ref x0), (1, .ref x1), (3, .int x3), (5, .int x5), (6, .int x6), (7, .int x7)] [] r2
  exact tX6_writeDay_128 O hf hk66 h
def fX6_writeDay_85 (k66 : Nat → Nat → Int32 → Int32 → Int32 → Int32 → Mem → Option (Mem)) (x0 : Nat) (x1 : Nat) (x3 : Int32) (x5 : Int32) (x6 : Int32) (x7 : Int32) (M : Mem) : Option (Mem) :=
  (ck M 0 x1).bind fun u1 =>
  (fX1_partAt x1 x7 M).bind fun r2 =>
  if r2.1 = (2 : Int32) then ((ck r2.2 3 x0).bind fun u3 =>
  (fX4_addDigits x0 x3 (4 : Int32) r2.2).bind fun r4 =>
  fX6_writeDay_128 k66 x0 x1 x3 x5 x6 x7 r4)
  else (if r2.1 = (1 : Int32) then (fX6_writeDay_124 k66 x0 x1 x3 x5 x6 x7 x6 x0 r2.2)
  else (fX6_writeDay_124 k66 x0 x1 x3 x5 x6 x7 (x5 + (1 : Int32)) x0 r2.2))
set_option maxHeartbeats 4000000 in
set_option maxRecDepth 100000 in
theorem tX6_writeDay_85 {κ : KT} {p : Mem} (O : OkK κ mX6_writeDay) (hf : κ.2.2.2.2.2.2.2.2.2.2.2.2.2 = (none, p)) {k66 : Nat → Nat → Int32 → Int32 → Int32 → Int32 → Mem → Option (Mem)} (hk66 : ∀ (x0 : Nat) (x1 : Nat) (x3 : Int32) (x5 : Int32) (x6 : Int32) (x7 : Int32) (M : Mem), k66 x0 x1 x3 x5 x6 x7 M = some p → G κ mX6_writeDay 0 0 66 [(0, .ref x0), (1, .ref x1), (3, .int x3), (5, .int x5), (6, .int x6), (7, .int x7)] [] M) {x0 : Nat} {x1 : Nat} {x3 : Int32} {x5 : Int32} {x6 : Int32} {x7 : Int32} {M : Mem} (h : fX6_writeDay_85 k66 x0 x1 x3 x5 x6 x7 M = some p) : G κ mX6_writeDay 0 0 85 [(0, .ref x0), (1, .ref x1), (3, .int x3), (5, .int x5), (6, .int x6), (7, .int x7)] [] M := by
  unfold fX6_writeDay_85 at h
  refine g_aload_n (pc' := 86) 1 O dX6_writeDay_85 rfl rfl rfl ?_
  refine g_iload (pc' := 88) 5 O dX6_writeDay_86 rfl rfl ?_
  replace h := ob h; obtain ⟨u1, eu1, h⟩ := h
  replace h := ob h; obtain ⟨r2, er2, h⟩ := h
  refine g_callV (y := yX1_partAt) (ν := mX1_partAt) (n := 1) (As := [.int x7]) (b := x1) (st := []) (M2 := r2.2) (r1 := (some (.int r2.1))) (pc' := 91) O dX6_writeDay_88 tw_336 tw_59 tw_334 tw_335 tw_467 hyX1_partAt rfl rfl eu1 (okX1_partAt er2) (Nat.le_of_ble_eq_true rfl) ⟨Nat.le_of_ble_eq_true rfl, Nat.le_of_ble_eq_true rfl⟩ ⟨Nat.le_of_ble_eq_true rfl, Nat.le_of_ble_eq_true rfl⟩ rfl ?_
  show G κ mX6_writeDay 0 0 91 [(0, .ref x0), (1, .ref x1), (3, .int x3), (5, .int x5), (6, .int x6), (7, .int x7)] [.int r2.1] r2.2
  refine g_istore (lv' := [(8, .int r2.1), (0, .ref x0), (1, .ref x1), (3, .int x3), (5, .int x5), (6, .int x6), (7, .int x7)]) (pc' := 93) O dX6_writeDay_91 (by decide) rfl rfl ?_
  refine g_iload (pc' := 95) 0 O dX6_writeDay_93 rfl rfl ?_
  refine g_iconst (v := 2) (pc' := 96) O dX6_writeDay_95 (by decide) rfl ?_
  refine g_icmp_ne (tgt := 108) (pc' := 99) O dX6_writeDay_96 (by decide) rfl (fun hc => ?_) (fun hc => ?_)
  · replace h := ine hc h
    refine g_aload_n (pc' := 109) 1 O dX6_writeDay_108 rfl rfl rfl ?_
    refine g_iload (pc' := 111) 0 O dX6_writeDay_109 rfl rfl ?_
    refine g_iconst (v := 1) (pc' := 112) O dX6_writeDay_111 (by decide) rfl ?_
    refine g_icmp_ne (tgt := 120) (pc' := 115) O dX6_writeDay_112 (by decide) rfl (fun hc => ?_) (fun hc => ?_)
    · replace h := ine hc h
      refine g_iload (pc' := 122) 4 O dX6_writeDay_120 rfl rfl ?_
      refine g_iconst (v := 1) (pc' := 123) O dX6_writeDay_122 (by decide) rfl ?_
      refine g_iadd (pc' := 124) O dX6_writeDay_123 rfl ?_
      refine g_sub (lv' := [(0, .ref x0), (1, .ref x1), (3, .int x3), (5, .int x5), (6, .int x6), (7, .int x7)]) [1, 2, 3, 4, 5, 6] rfl ?_
      exact tX6_writeDay_124 O hf hk66 h
    · replace h := ip hc h
      refine g_iload (pc' := 117) 5 O dX6_writeDay_115 rfl rfl ?_
      refine g_goto (pc' := 124) O dX6_writeDay_117 (by decide) ?_
      refine g_sub (lv' := [(0, .ref x0), (1, .ref x1), (3, .int x3), (5, .int x5), (6, .int x6), (7, .int x7)]) [1, 2, 3, 4, 5, 6] rfl ?_
      exact tX6_writeDay_124 O hf hk66 h
  · replace h := ip hc h
    refine g_aload_n (pc' := 100) 1 O dX6_writeDay_99 rfl rfl rfl ?_
    refine g_iload_n (pc' := 101) 3 O dX6_writeDay_100 rfl rfl rfl ?_
    refine g_iconst (v := 4) (pc' := 102) O dX6_writeDay_101 (by decide) rfl ?_
    replace h := ob h; obtain ⟨u3, eu3, h⟩ := h
    replace h := ob h; obtain ⟨r4, er4, h⟩ := h
    refine g_callV (y := yX4_addDigits) (ν := mX4_addDigits) (n := 2) (As := [.int x3, .int (4 : Int32)]) (b := x0) (st := []) (M2 := r4) (r1 := none) (pc' := 105) O dX6_writeDay_102 tw_471 tw_55 tw_469 tw_470 tw_468 hyX4_addDigits rfl rfl eu3 (okX4_addDigits er4) (Nat.le_of_ble_eq_true rfl) ⟨Nat.le_of_ble_eq_true rfl, Nat.le_of_ble_eq_true rfl⟩ ⟨Nat.le_of_ble_eq_true rfl, Nat.le_of_ble_eq_true rfl⟩ rfl ?_
    show G κ mX6_writeDay 0 0 105 [(8, .int r2.1), (0, .ref x0), (1, .ref x1), (3, .int x3), (5, .int x5), (6, .int x6), (7, .int x7)] [] r4
    refine g_goto (pc' := 128) O dX6_writeDay_105 (by decide) ?_
    refine g_sub (lv' := [(0, .ref x0), (1, .ref x1), (3, .int x3), (5, .int x5), (6, .int x6), (7, .int x7)]) [1, 2, 3, 4, 5, 6] rfl ?_
    exact tX6_writeDay_128 O hf hk66 h
def fX6_writeDay_66  : Nat → Nat → Nat → Int32 → Int32 → Int32 → Int32 → Mem → Option (Mem)
  | 0, _, _, _, _, _, _, _ => none
  | n + 1, x0, x1, x3, x5, x6, x7, M =>
    if (3 : Int32) ≤ x7 then (some M)
    else (if x7 ≤ 0 then (fX6_writeDay_85 (fX6_writeDay_66 n) x0 x1 x3 x5 x6 x7 M)
    else ((ck M 0 x1).bind fun u1 =>
    (fX1_signOfDays x1 M).bind fun r2 =>
    (ck r2.2 3 x0).bind fun u3 =>
    (fX4_add x0 r2.1 r2.2).bind fun r4 =>
    fX6_writeDay_85 (fX6_writeDay_66 n) x0 x1 x3 x5 x6 x7 r4))
set_option maxHeartbeats 4000000 in
set_option maxRecDepth 100000 in
theorem tX6_writeDay_66 {κ : KT} {p : Mem} (O : OkK κ mX6_writeDay) (hf : κ.2.2.2.2.2.2.2.2.2.2.2.2.2 = (none, p))  : ∀ (n : Nat) (x0 : Nat) (x1 : Nat) (x3 : Int32) (x5 : Int32) (x6 : Int32) (x7 : Int32) (M : Mem), fX6_writeDay_66  n x0 x1 x3 x5 x6 x7 M = some p → G κ mX6_writeDay 0 0 66 [(0, .ref x0), (1, .ref x1), (3, .int x3), (5, .int x5), (6, .int x6), (7, .int x7)] [] M := by
  intro n
  induction n with
  | zero => intro x0 x1 x3 x5 x6 x7 M h; cases h
  | succ n ih =>
    intro x0 x1 x3 x5 x6 x7 M h
    rw [fX6_writeDay_66] at h
    refine g_iload (pc' := 68) 5 O dX6_writeDay_66 rfl rfl ?_
    refine g_iconst (v := 3) (pc' := 69) O dX6_writeDay_68 (by decide) rfl ?_
    refine g_icmp_ge (tgt := 134) (pc' := 72) O dX6_writeDay_69 (by decide) rfl (fun hc => ?_) (fun hc => ?_)
    · replace h := ip hc h
      cases h
      exact g_vreturn O dX6_writeDay_134 rfl hf (by decide) (by decide)
    · replace h := ine hc h
      refine g_iload (pc' := 74) 5 O dX6_writeDay_72 rfl rfl ?_
      refine g_if_le (tgt := 85) (pc' := 77) O dX6_writeDay_74 (by decide) rfl (fun hc => ?_) (fun hc => ?_)
      · replace h := ip hc h
        exact tX6_writeDay_85 O hf ih h
      · replace h := ine hc h
        refine g_aload_n (pc' := 78) 0 O dX6_writeDay_77 rfl rfl rfl ?_
        refine g_aload_n (pc' := 79) 1 O dX6_writeDay_78 rfl rfl rfl ?_
        replace h := ob h; obtain ⟨u1, eu1, h⟩ := h
        replace h := ob h; obtain ⟨r2, er2, h⟩ := h
        refine g_callV (y := yX1_signOfDays) (ν := mX1_signOfDays) (n := 0) (As := []) (b := x1) (st := [.ref x0]) (M2 := r2.2) (r1 := (some (.int r2.1))) (pc' := 82) O dX6_writeDay_79 tw_320 tw_59 tw_318 tw_319 tw_465 hyX1_signOfDays rfl rfl eu1 (okX1_signOfDays er2) (Nat.le_of_ble_eq_true rfl) ⟨Nat.le_of_ble_eq_true rfl, Nat.le_of_ble_eq_true rfl⟩ ⟨Nat.le_of_ble_eq_true rfl, Nat.le_of_ble_eq_true rfl⟩ rfl ?_
        show G κ mX6_writeDay 0 0 82 [(0, .ref x0), (1, .ref x1), (3, .int x3), (5, .int x5), (6, .int x6), (7, .int x7)] [.int r2.1, .ref x0] r2.2
        replace h := ob h; obtain ⟨u3, eu3, h⟩ := h
        replace h := ob h; obtain ⟨r4, er4, h⟩ := h
        refine g_callV (y := yX4_add) (ν := mX4_add) (n := 1) (As := [.int r2.1]) (b := x0) (st := []) (M2 := r4) (r1 := none) (pc' := 85) O dX6_writeDay_82 tw_264 tw_55 tw_262 tw_263 tw_466 hyX4_add rfl rfl eu3 (okX4_add er4) (Nat.le_of_ble_eq_true rfl) ⟨Nat.le_of_ble_eq_true rfl, Nat.le_of_ble_eq_true rfl⟩ ⟨Nat.le_of_ble_eq_true rfl, Nat.le_of_ble_eq_true rfl⟩ rfl ?_
        show G κ mX6_writeDay 0 0 85 [(0, .ref x0), (1, .ref x1), (3, .int x3), (5, .int x5), (6, .int x6), (7, .int x7)] [] r4
        exact tX6_writeDay_85 O hf ih h
def fX6_writeDay_59  (x0 : Nat) (x1 : Nat) (x3 : Int32) (x5 : Int32) (x6 : Int32) (M : Mem) : Option (Mem) :=
  (ck M 3 x0).bind fun u1 =>
  (fX4_empty x0 M).bind fun r2 =>
  fX6_writeDay_66 FU x0 x1 x3 x5 x6 (0 : Int32) r2
set_option maxHeartbeats 4000000 in
set_option maxRecDepth 100000 in
theorem tX6_writeDay_59 {κ : KT} {p : Mem} (O : OkK κ mX6_writeDay) (hf : κ.2.2.2.2.2.2.2.2.2.2.2.2.2 = (none, p))  {x0 : Nat} {x1 : Nat} {x3 : Int32} {x5 : Int32} {x6 : Int32} {M : Mem} (h : fX6_writeDay_59  x0 x1 x3 x5 x6 M = some p) : G κ mX6_writeDay 0 0 59 [(0, .ref x0), (1, .ref x1), (3, .int x3), (5, .int x5), (6, .int x6)] [] M := by
  unfold fX6_writeDay_59 at h
  refine g_aload_n (pc' := 60) 0 O dX6_writeDay_59 rfl rfl rfl ?_
  replace h := ob h; obtain ⟨u1, eu1, h⟩ := h
  replace h := ob h; obtain ⟨r2, er2, h⟩ := h
  refine g_callV (y := yX4_empty) (ν := mX4_empty) (n := 0) (As := []) (b := x0) (st := []) (M2 := r2) (r1 := none) (pc' := 63) O dX6_writeDay_60 tw_464 tw_55 tw_462 tw_463 tw_461 hyX4_empty rfl rfl eu1 (okX4_empty er2) (Nat.le_of_ble_eq_true rfl) ⟨Nat.le_of_ble_eq_true rfl, Nat.le_of_ble_eq_true rfl⟩ ⟨Nat.le_of_ble_eq_true rfl, Nat.le_of_ble_eq_true rfl⟩ rfl ?_
  show G κ mX6_writeDay 0 0 63 [(0, .ref x0), (1, .ref x1), (3, .int x3), (5, .int x5), (6, .int x6)] [] r2
  refine g_iconst (v := 0) (pc' := 64) O dX6_writeDay_63 (by decide) rfl ?_
  refine g_istore (lv' := [(7, .int (0 : Int32)), (0, .ref x0), (1, .ref x1), (3, .int x3), (5, .int x5), (6, .int x6)]) (pc' := 66) O dX6_writeDay_64 (by decide) rfl rfl ?_
  refine g_sub (lv' := [(0, .ref x0), (1, .ref x1), (3, .int x3), (5, .int x5), (6, .int x6), (7, .int (0 : Int32))]) [1, 2, 3, 4, 5, 0] rfl ?_
  exact tX6_writeDay_66 O hf FU x0 x1 x3 x5 x6 (0 : Int32) r2 h
def fX6_writeDay_22  : Nat → Nat → Nat → Int32 → Int32 → Int32 → Int32 → Mem → Option (Mem)
  | 0, _, _, _, _, _, _, _ => none
  | n + 1, x0, x1, x3, x4, x5, x6, M =>
    if (12 : Int32) ≤ x6 then (fX6_writeDay_59 x0 x1 x3 x5 x6 M)
    else ((fX0_lengthOf x6 x4 M).bind fun r1 =>
    if x5 < r1.1 then (fX6_writeDay_59 x0 x1 x3 x5 x6 r1.2)
    else ((fX0_lengthOf x6 x4 r1.2).bind fun r2 =>
    fX6_writeDay_22 n x0 x1 x3 x4 (x5 - r2.1) (x6 + (1 : Int32)) r2.2))
set_option maxHeartbeats 4000000 in
set_option maxRecDepth 100000 in
theorem tX6_writeDay_22 {κ : KT} {p : Mem} (O : OkK κ mX6_writeDay) (hf : κ.2.2.2.2.2.2.2.2.2.2.2.2.2 = (none, p))  : ∀ (n : Nat) (x0 : Nat) (x1 : Nat) (x3 : Int32) (x4 : Int32) (x5 : Int32) (x6 : Int32) (M : Mem), fX6_writeDay_22  n x0 x1 x3 x4 x5 x6 M = some p → G κ mX6_writeDay 0 0 22 [(0, .ref x0), (1, .ref x1), (3, .int x3), (4, .int x4), (5, .int x5), (6, .int x6)] [] M := by
  intro n
  induction n with
  | zero => intro x0 x1 x3 x4 x5 x6 M h; cases h
  | succ n ih =>
    intro x0 x1 x3 x4 x5 x6 M h
    rw [fX6_writeDay_22] at h
    refine g_iload (pc' := 24) 5 O dX6_writeDay_22 rfl rfl ?_
    refine g_bipush (v := 12) (pc' := 26) O dX6_writeDay_24 (by decide) rfl ?_
    refine g_icmp_ge (tgt := 59) (pc' := 29) O dX6_writeDay_26 (by decide) rfl (fun hc => ?_) (fun hc => ?_)
    · replace h := ip hc h
      refine g_sub (lv' := [(0, .ref x0), (1, .ref x1), (3, .int x3), (5, .int x5), (6, .int x6)]) [0, 1, 2, 4, 5] rfl ?_
      exact tX6_writeDay_59 O hf h
    · replace h := ine hc h
      refine g_iload (pc' := 31) 4 O dX6_writeDay_29 rfl rfl ?_
      refine g_iload (pc' := 33) 5 O dX6_writeDay_31 rfl rfl ?_
      refine g_iload (pc' := 35) 3 O dX6_writeDay_33 rfl rfl ?_
      replace h := ob h; obtain ⟨r1, er1, h⟩ := h
      refine g_callS (y := yX0_lengthOf) (ν := mX0_lengthOf) (n := 2) (As := [.int x6, .int x4]) (b := 0) (st := [.int x5]) (M2 := r1.2) (r1 := (some (.int r1.1))) (pc' := 38) O dX6_writeDay_35 tw_361 tw_60 tw_360 tw_460 hyX0_lengthOf rfl (okX0_lengthOf er1) (Nat.le_of_ble_eq_true rfl) ⟨Nat.le_of_ble_eq_true rfl, Nat.le_of_ble_eq_true rfl⟩ ⟨Nat.le_of_ble_eq_true rfl, Nat.le_of_ble_eq_true rfl⟩ rfl ?_
      show G κ mX6_writeDay 0 0 38 [(0, .ref x0), (1, .ref x1), (3, .int x3), (4, .int x4), (5, .int x5), (6, .int x6)] [.int r1.1, .int x5] r1.2
      refine g_icmp_lt (tgt := 59) (pc' := 41) O dX6_writeDay_38 (by decide) rfl (fun hc => ?_) (fun hc => ?_)
      · replace h := ip hc h
        refine g_sub (lv' := [(0, .ref x0), (1, .ref x1), (3, .int x3), (5, .int x5), (6, .int x6)]) [0, 1, 2, 4, 5] rfl ?_
        exact tX6_writeDay_59 O hf h
      · replace h := ine hc h
        refine g_iload (pc' := 43) 4 O dX6_writeDay_41 rfl rfl ?_
        refine g_iload (pc' := 45) 5 O dX6_writeDay_43 rfl rfl ?_
        refine g_iload (pc' := 47) 3 O dX6_writeDay_45 rfl rfl ?_
        replace h := ob h; obtain ⟨r2, er2, h⟩ := h
        refine g_callS (y := yX0_lengthOf) (ν := mX0_lengthOf) (n := 2) (As := [.int x6, .int x4]) (b := 0) (st := [.int x5]) (M2 := r2.2) (r1 := (some (.int r2.1))) (pc' := 50) O dX6_writeDay_47 tw_361 tw_60 tw_360 tw_460 hyX0_lengthOf rfl (okX0_lengthOf er2) (Nat.le_of_ble_eq_true rfl) ⟨Nat.le_of_ble_eq_true rfl, Nat.le_of_ble_eq_true rfl⟩ ⟨Nat.le_of_ble_eq_true rfl, Nat.le_of_ble_eq_true rfl⟩ rfl ?_
        show G κ mX6_writeDay 0 0 50 [(0, .ref x0), (1, .ref x1), (3, .int x3), (4, .int x4), (5, .int x5), (6, .int x6)] [.int r2.1, .int x5] r2.2
        refine g_isub (pc' := 51) O dX6_writeDay_50 rfl ?_
        refine g_istore (lv' := [(5, .int (x5 - r2.1)), (0, .ref x0), (1, .ref x1), (3, .int x3), (4, .int x4), (6, .int x6)]) (pc' := 53) O dX6_writeDay_51 (by decide) rfl rfl ?_
        refine g_iinc (q := 5) (v := x6 + (1 : Int32)) (lv' := [(6, .int (x6 + (1 : Int32))), (5, .int (x5 - r2.1)), (0, .ref x0), (1, .ref x1), (3, .int x3), (4, .int x4)]) (pc' := 56) O dX6_writeDay_53 rfl rfl (by decide) rfl rfl ?_
        refine g_goto (pc' := 22) O dX6_writeDay_56 (by decide) ?_
        refine g_sub (lv' := [(0, .ref x0), (1, .ref x1), (3, .int x3), (4, .int x4), (5, .int (x5 - r2.1)), (6, .int (x6 + (1 : Int32)))]) [2, 3, 4, 5, 1, 0] rfl ?_
        exact ih x0 x1 x3 x4 (x5 - r2.1) (x6 + (1 : Int32)) r2.2 h
def fX6_writeDay  (p0 : Nat) (p1 : Nat) (p2 : Int32) (M : Mem) : Option (Mem) :=
  (fX0_yearOf p2 M).bind fun r1 =>
  (fX0_isLeap r1.1 r1.2).bind fun r2 =>
  (fX0_beforeYear r1.1 r2.2).bind fun r3 =>
  fX6_writeDay_22 FU p0 p1 r1.1 r2.1 (p2 - r3.1) (1 : Int32) r3.2
set_option maxHeartbeats 4000000 in
set_option maxRecDepth 100000 in
theorem okX6_writeDay {l : Launch} {p : Mem} {p0 : Nat} {p1 : Nat} {p2 : Int32} {M : Mem} (h : fX6_writeDay p0 p1 p2 M = some p) : Cn l yX6_writeDay mX6_writeDay [.ref p0, .ref p1, .int p2] M none p := by
  refine Cn.of [(0, .ref p0), (1, .ref p1), (2, .int p2)] (by decide) rfl rfl (Nat.le_of_ble_eq_true rfl) rfl (fun κ _ hf O => ?_)
  unfold fX6_writeDay at h
  refine g_iload_n (pc' := 1) 2 O dX6_writeDay_0 rfl rfl rfl ?_
  replace h := ob h; obtain ⟨r1, er1, h⟩ := h
  refine g_callS (y := yX0_yearOf) (ν := mX0_yearOf) (n := 1) (As := [.int p2]) (b := 0) (st := []) (M2 := r1.2) (r1 := (some (.int r1.1))) (pc' := 4) O dX6_writeDay_1 tw_454 tw_60 tw_453 tw_452 hyX0_yearOf rfl (okX0_yearOf er1) (Nat.le_of_ble_eq_true rfl) ⟨Nat.le_of_ble_eq_true rfl, Nat.le_of_ble_eq_true rfl⟩ ⟨Nat.le_of_ble_eq_true rfl, Nat.le_of_ble_eq_true rfl⟩ rfl ?_
  show G κ mX6_writeDay 0 0 4 [(0, .ref p0), (1, .ref p1), (2, .int p2)] [.int r1.1] r1.2
  refine g_istore_n (lv' := [(3, .int r1.1), (0, .ref p0), (1, .ref p1), (2, .int p2)]) (pc' := 5) O dX6_writeDay_4 rfl (by decide) rfl rfl ?_
  refine g_iload_n (pc' := 6) 0 O dX6_writeDay_5 rfl rfl rfl ?_
  replace h := ob h; obtain ⟨r2, er2, h⟩ := h
  refine g_callS (y := yX0_isLeap) (ν := mX0_isLeap) (n := 1) (As := [.int r1.1]) (b := 0) (st := []) (M2 := r2.2) (r1 := (some (.int r2.1))) (pc' := 9) O dX6_writeDay_6 tw_358 tw_60 tw_357 tw_458 hyX0_isLeap rfl (okX0_isLeap er2) (Nat.le_of_ble_eq_true rfl) ⟨Nat.le_of_ble_eq_true rfl, Nat.le_of_ble_eq_true rfl⟩ ⟨Nat.le_of_ble_eq_true rfl, Nat.le_of_ble_eq_true rfl⟩ rfl ?_
  show G κ mX6_writeDay 0 0 9 [(3, .int r1.1), (0, .ref p0), (1, .ref p1), (2, .int p2)] [.int r2.1] r2.2
  refine g_istore (lv' := [(4, .int r2.1), (3, .int r1.1), (0, .ref p0), (1, .ref p1), (2, .int p2)]) (pc' := 11) O dX6_writeDay_9 (by decide) rfl rfl ?_
  refine g_iload_n (pc' := 12) 4 O dX6_writeDay_11 rfl rfl rfl ?_
  refine g_iload_n (pc' := 13) 1 O dX6_writeDay_12 rfl rfl rfl ?_
  replace h := ob h; obtain ⟨r3, er3, h⟩ := h
  refine g_callS (y := yX0_beforeYear) (ν := mX0_beforeYear) (n := 1) (As := [.int r1.1]) (b := 0) (st := [.int p2]) (M2 := r3.2) (r1 := (some (.int r3.1))) (pc' := 16) O dX6_writeDay_13 tw_369 tw_60 tw_368 tw_459 hyX0_beforeYear rfl (okX0_beforeYear er3) (Nat.le_of_ble_eq_true rfl) ⟨Nat.le_of_ble_eq_true rfl, Nat.le_of_ble_eq_true rfl⟩ ⟨Nat.le_of_ble_eq_true rfl, Nat.le_of_ble_eq_true rfl⟩ rfl ?_
  show G κ mX6_writeDay 0 0 16 [(4, .int r2.1), (3, .int r1.1), (0, .ref p0), (1, .ref p1), (2, .int p2)] [.int r3.1, .int p2] r3.2
  refine g_isub (pc' := 17) O dX6_writeDay_16 rfl ?_
  refine g_istore (lv' := [(5, .int (p2 - r3.1)), (4, .int r2.1), (3, .int r1.1), (0, .ref p0), (1, .ref p1), (2, .int p2)]) (pc' := 19) O dX6_writeDay_17 (by decide) rfl rfl ?_
  refine g_iconst (v := 1) (pc' := 20) O dX6_writeDay_19 (by decide) rfl ?_
  refine g_istore (lv' := [(6, .int (1 : Int32)), (5, .int (p2 - r3.1)), (4, .int r2.1), (3, .int r1.1), (0, .ref p0), (1, .ref p1), (2, .int p2)]) (pc' := 22) O dX6_writeDay_20 (by decide) rfl rfl ?_
  refine g_sub (lv' := [(0, .ref p0), (1, .ref p1), (3, .int r1.1), (4, .int r2.1), (5, .int (p2 - r3.1)), (6, .int (1 : Int32))]) [4, 5, 3, 2, 1, 0] rfl ?_
  exact tX6_writeDay_22 O hf FU p0 p1 r1.1 r2.1 (p2 - r3.1) (1 : Int32) r3.2 h
abbrev mX7_init : MD := (cX7_init, 1, RX7, none, { frames := 3, cells := 17, slots := 2175, locals := 63 }, "<init>")
theorem hyX7_init : yX7_init.cls ≠ "java/lang/invoke/MethodHandle" ∧ yX7_init.cls ≠ "java/lang/invoke/VarHandle" ∧ (parseMethodDescriptor yX7_init.desc).map (fun d => d.parameters.length) = some 0 := by decide +kernel
def fX7_init  (this : Nat) (M : Mem) : Option (Mem) :=
  (fX3_init M.1 (nO M 2 [.null, .null, .null, .int 0, .null, .null, .int 0, .null, .null])).bind fun r1 =>
  (pF r1 4 this 0 (.ref M.1)).bind fun M2 =>
  (nA M2 (.object RX3) (3 : Int32) 3).bind fun M3 =>
  (pF M3 4 this 1 (.ref M2.1)).bind fun M4 =>
  (fX2_init M4.1 (nO M4 1 [.null, .int 0, .int 0, .int 0, .long 0, .long 0, .null, .null, .int 0])).bind fun r5 =>
  (pF r5 4 this 2 (.ref M4.1)).bind fun M6 =>
  (fX4_init M6.1 (100 : Int32) (nO M6 3 [.null, .int 0])).bind fun r7 =>
  (pF r7 4 this 3 (.ref M6.1)).bind fun M8 =>
  some M8
set_option maxHeartbeats 4000000 in
set_option maxRecDepth 100000 in
theorem okX7_init {l : Launch} {p : Mem} {this : Nat} {M : Mem} (h : fX7_init this M = some p) : Cn l yX7_init mX7_init [.ref this] M none p := by
  refine Cn.of [(0, .ref this)] (by decide) rfl rfl (Nat.le_of_ble_eq_true rfl) rfl (fun κ _ hf O => ?_)
  unfold fX7_init at h
  refine g_aload_n (pc' := 1) 0 O dX7_init_0 rfl rfl rfl ?_
  refine g_objInit (pc' := 4) O dX7_init_1 tw_73 tw_74 tw_75 (by decide) (by decide) rfl ?_
  refine g_aload_n (pc' := 5) 0 O dX7_init_4 rfl rfl rfl ?_
  refine g_newO (C := RX3) (T := TX3) (N := 9) (ci := 2) (fs := [.null, .null, .null, .int 0, .null, .null, .int 0, .null, .null]) (pc' := 8) O dX7_init_5 rfl inX3 tyX3 tyX3_ok (by decide) tw_76 tw_77 tw_54 (by decide) (by decide) rfl ?_
  show G κ mX7_init 1 9 8 [(0, .ref this)] [.ref M.1, .ref this] (nO M 2 [.null, .null, .null, .int 0, .null, .null, .int 0, .null, .null])
  refine g_dup (pc' := 9) O dX7_init_8 rfl rfl ?_
  replace h := ob h; obtain ⟨r1, er1, h⟩ := h
  refine g_callI (y := yX3_init) (ν := mX3_init) (n := 0) (As := []) (b := M.1) (st := [.ref M.1, .ref this]) (M2 := r1) (r1 := none) (pc' := 12) O dX7_init_9 tw_80 tw_54 tw_79 tw_78 hyX3_init rfl rfl rfl (okX3_init er1) (Nat.le_of_ble_eq_true rfl) ⟨Nat.le_of_ble_eq_true rfl, Nat.le_of_ble_eq_true rfl⟩ ⟨Nat.le_of_ble_eq_true rfl, Nat.le_of_ble_eq_true rfl⟩ rfl ?_
  show G κ mX7_init 10 2055 12 [(0, .ref this)] [.ref M.1, .ref this] r1
  replace h := ob h; obtain ⟨M2, eM2, h⟩ := h
  refine g_putFF (C := RX7) (T := TX7) (N := 4) (ci := 4) (k := 0) (pc' := 15) O dX7_init_12 rfl inX7 (by decide) tw_177 tyX7 tyX7_ok nmX7 rfl rfl rfl rfl rfl rfl eM2 rfl ?_
  refine g_aload_n (pc' := 16) 0 O dX7_init_15 rfl rfl rfl ?_
  refine g_iconst (v := 3) (pc' := 17) O dX7_init_16 (by decide) rfl ?_
  replace h := ob h; obtain ⟨M3, eM3, h⟩ := h
  refine g_newQSheet (M2 := M3) (pc' := 20) 3 O dX7_init_17 tw_76 eM3 (by decide) (by decide) (by decide) rfl ?_
  show G κ mX7_init 11 2058 20 [(0, .ref this)] [.ref M2.1, .ref this] M3
  replace h := ob h; obtain ⟨M4, eM4, h⟩ := h
  refine g_putFF (C := RX7) (T := TX7) (N := 4) (ci := 4) (k := 1) (pc' := 23) O dX7_init_20 rfl inX7 (by decide) tw_178 tyX7 tyX7_ok nmX7 rfl rfl rfl rfl rfl rfl eM4 rfl ?_
  refine g_aload_n (pc' := 24) 0 O dX7_init_23 rfl rfl rfl ?_
  refine g_newO (C := RX2) (T := TX2) (N := 9) (ci := 1) (fs := [.null, .int 0, .int 0, .int 0, .long 0, .long 0, .null, .null, .int 0]) (pc' := 27) O dX7_init_24 rfl inX2 tyX2 tyX2_ok (by decide) tw_140 tw_141 tw_57 (by decide) (by decide) rfl ?_
  show G κ mX7_init 12 2067 27 [(0, .ref this)] [.ref M4.1, .ref this] (nO M4 1 [.null, .int 0, .int 0, .int 0, .long 0, .long 0, .null, .null, .int 0])
  refine g_dup (pc' := 28) O dX7_init_27 rfl rfl ?_
  replace h := ob h; obtain ⟨r5, er5, h⟩ := h
  refine g_callI (y := yX2_init) (ν := mX2_init) (n := 0) (As := []) (b := M4.1) (st := [.ref M4.1, .ref this]) (M2 := r5) (r1 := none) (pc' := 31) O dX7_init_28 tw_144 tw_57 tw_143 tw_142 hyX2_init rfl rfl rfl (okX2_init er5) (Nat.le_of_ble_eq_true rfl) ⟨Nat.le_of_ble_eq_true rfl, Nat.le_of_ble_eq_true rfl⟩ ⟨Nat.le_of_ble_eq_true rfl, Nat.le_of_ble_eq_true rfl⟩ rfl ?_
  show G κ mX7_init 15 2073 31 [(0, .ref this)] [.ref M4.1, .ref this] r5
  replace h := ob h; obtain ⟨M6, eM6, h⟩ := h
  refine g_putFF (C := RX7) (T := TX7) (N := 4) (ci := 4) (k := 2) (pc' := 34) O dX7_init_31 rfl inX7 (by decide) tw_179 tyX7 tyX7_ok nmX7 rfl rfl rfl rfl rfl rfl eM6 rfl ?_
  refine g_aload_n (pc' := 35) 0 O dX7_init_34 rfl rfl rfl ?_
  refine g_newO (C := RX4) (T := TX4) (N := 2) (ci := 3) (fs := [.null, .int 0]) (pc' := 38) O dX7_init_35 rfl inX4 tyX4 tyX4_ok (by decide) tw_175 tw_83 tw_55 (by decide) (by decide) rfl ?_
  show G κ mX7_init 16 2075 38 [(0, .ref this)] [.ref M6.1, .ref this] (nO M6 3 [.null, .int 0])
  refine g_dup (pc' := 39) O dX7_init_38 rfl rfl ?_
  refine g_bipush (v := 100) (pc' := 41) O dX7_init_39 (by decide) rfl ?_
  replace h := ob h; obtain ⟨r7, er7, h⟩ := h
  refine g_callI (y := yX4_init) (ν := mX4_init) (n := 1) (As := [.int (100 : Int32)]) (b := M6.1) (st := [.ref M6.1, .ref this]) (M2 := r7) (r1 := none) (pc' := 44) O dX7_init_41 tw_86 tw_55 tw_85 tw_176 hyX4_init rfl rfl rfl (okX4_init er7) (Nat.le_of_ble_eq_true rfl) ⟨Nat.le_of_ble_eq_true rfl, Nat.le_of_ble_eq_true rfl⟩ ⟨Nat.le_of_ble_eq_true rfl, Nat.le_of_ble_eq_true rfl⟩ rfl ?_
  show G κ mX7_init 17 2175 44 [(0, .ref this)] [.ref M6.1, .ref this] r7
  replace h := ob h; obtain ⟨M8, eM8, h⟩ := h
  refine g_putFF (C := RX7) (T := TX7) (N := 4) (ci := 4) (k := 3) (pc' := 47) O dX7_init_44 rfl inX7 (by decide) tw_180 tyX7 tyX7_ok nmX7 rfl rfl rfl rfl rfl rfl eM8 rfl ?_
  cases h
  exact g_vreturn O dX7_init_47 rfl hf (by decide) (by decide)
abbrev mX7_land : MD := (cX7_land, 10, RX7, (some .int), { frames := 2, cells := 1, slots := 8, locals := 46 }, "land")
theorem hyX7_land : yX7_land.cls ≠ "java/lang/invoke/MethodHandle" ∧ yX7_land.cls ≠ "java/lang/invoke/VarHandle" ∧ (parseMethodDescriptor yX7_land.desc).map (fun d => d.parameters.length) = some 8 := by decide +kernel
def fX7_land_41  (M : Mem) : Option (Int32 × Mem) :=
  some ((-1 : Int32), M)
set_option maxHeartbeats 4000000 in
set_option maxRecDepth 100000 in
theorem tX7_land_41 {κ : KT} {p : Int32 × Mem} (O : OkK κ mX7_land) (hf : κ.2.2.2.2.2.2.2.2.2.2.2.2.2 = (some (.int p.1), p.2))  {M : Mem} (h : fX7_land_41  M = some p) : G κ mX7_land 0 0 41 [] [] M := by
  unfold fX7_land_41 at h
  refine g_iconst (v := -1) (pc' := 42) O dX7_land_41 (by decide) rfl ?_
  cases h
  exact g_ireturn O dX7_land_42 rfl rfl hf (by decide) (by decide)
def fX7_land  (this : Nat) (p0 : Int32) (p1 : Int32) (p2 : Int32) (p3 : Int32) (p4 : Int32) (p5 : Int32) (p6 : Int32) (p7 : Int32) (M : Mem) : Option (Int32 × Mem) :=
  (gN M 4 this 0).bind fun v1 =>
  (gI M 2 v1 3).bind fun v2 =>
  if (6 : Int32) ≤ v2 then (fX7_land_41 M)
  else ((fX1_canWriteNumbers p0 p1 p2 p3 M).bind fun r3 =>
  if r3.1 = 0 then (fX7_land_41 r3.2)
  else ((fX1_canWriteMoney p4 r3.2).bind fun r4 =>
  if r4.1 = 0 then (fX7_land_41 r4.2)
  else ((fX1_canWriteDays p6 p7 r4.2).bind fun r5 =>
  if r5.1 = 0 then (fX7_land_41 r5.2)
  else ((fX1_init r5.2.1 p0 p1 p2 p3 p4 p5 (nO r5.2 0 [.int 0, .int 0, .int 0, .int 0, .int 0, .int 0, .int 0, .int 0])).bind fun r6 =>
  (ck r6 0 r5.2.1).bind fun u7 =>
  (fX1_setDays r5.2.1 p6 p7 r6).bind fun r8 =>
  (gN r8 4 this 0).bind fun v9 =>
  (ck r8 2 v9).bind fun u10 =>
  (fX3_addLand v9 r5.2.1 r8).bind fun r11 =>
  some (r11.1, r11.2)))))
set_option maxHeartbeats 4000000 in
set_option maxRecDepth 100000 in
theorem okX7_land {l : Launch} {p : Int32 × Mem} {this : Nat} {p0 : Int32} {p1 : Int32} {p2 : Int32} {p3 : Int32} {p4 : Int32} {p5 : Int32} {p6 : Int32} {p7 : Int32} {M : Mem} (h : fX7_land this p0 p1 p2 p3 p4 p5 p6 p7 M = some p) : Cn l yX7_land mX7_land [.ref this, .int p0, .int p1, .int p2, .int p3, .int p4, .int p5, .int p6, .int p7] M (some (.int p.1)) p.2 := by
  refine Cn.of [(0, .ref this), (1, .int p0), (2, .int p1), (3, .int p2), (4, .int p3), (5, .int p4), (6, .int p5), (7, .int p6), (8, .int p7)] (by decide) rfl rfl (Nat.le_of_ble_eq_true rfl) rfl (fun κ _ hf O => ?_)
  unfold fX7_land at h
  refine g_aload_n (pc' := 1) 0 O dX7_land_0 rfl rfl rfl ?_
  replace h := ob h; obtain ⟨v1, ev1, h⟩ := h
  refine g_getF (C := RX7) (T := TX7) (N := 4) (ci := 4) (k := 0) (pc' := 4) O dX7_land_1 rfl inX7 (by decide) tw_177 (gN_F ev1) rfl ?_
  replace h := ob h; obtain ⟨v2, ev2, h⟩ := h
  refine g_getF (C := RX3) (T := TX3) (N := 9) (ci := 2) (k := 3) (pc' := 7) O dX7_land_4 rfl inX3 (by decide) tw_110 (gI_F ev2) rfl ?_
  refine g_bipush (v := 6) (pc' := 9) O dX7_land_7 (by decide) rfl ?_
  refine g_icmp_ge (tgt := 41) (pc' := 12) O dX7_land_9 (by decide) rfl (fun hc => ?_) (fun hc => ?_)
  · replace h := ip hc h
    refine g_sub (lv' := []) [] rfl ?_
    exact tX7_land_41 O hf h
  · replace h := ine hc h
    refine g_iload_n (pc' := 13) 1 O dX7_land_12 rfl rfl rfl ?_
    refine g_iload_n (pc' := 14) 2 O dX7_land_13 rfl rfl rfl ?_
    refine g_iload_n (pc' := 15) 3 O dX7_land_14 rfl rfl rfl ?_
    refine g_iload (pc' := 17) 4 O dX7_land_15 rfl rfl ?_
    replace h := ob h; obtain ⟨r3, er3, h⟩ := h
    refine g_callS (y := yX1_canWriteNumbers) (ν := mX1_canWriteNumbers) (n := 4) (As := [.int p0, .int p1, .int p2, .int p3]) (b := 0) (st := []) (M2 := r3.2) (r1 := (some (.int r3.1))) (pc' := 20) O dX7_land_17 tw_196 tw_59 tw_195 tw_194 hyX1_canWriteNumbers rfl (okX1_canWriteNumbers er3) (Nat.le_of_ble_eq_true rfl) ⟨Nat.le_of_ble_eq_true rfl, Nat.le_of_ble_eq_true rfl⟩ ⟨Nat.le_of_ble_eq_true rfl, Nat.le_of_ble_eq_true rfl⟩ rfl ?_
    show G κ mX7_land 0 0 20 [(0, .ref this), (1, .int p0), (2, .int p1), (3, .int p2), (4, .int p3), (5, .int p4), (6, .int p5), (7, .int p6), (8, .int p7)] [.int r3.1] r3.2
    refine g_if_eq (tgt := 41) (pc' := 23) O dX7_land_20 (by decide) rfl (fun hc => ?_) (fun hc => ?_)
    · replace h := ip hc h
      refine g_sub (lv' := []) [] rfl ?_
      exact tX7_land_41 O hf h
    · replace h := ine hc h
      refine g_iload (pc' := 25) 5 O dX7_land_23 rfl rfl ?_
      replace h := ob h; obtain ⟨r4, er4, h⟩ := h
      refine g_callS (y := yX1_canWriteMoney) (ν := mX1_canWriteMoney) (n := 1) (As := [.int p4]) (b := 0) (st := []) (M2 := r4.2) (r1 := (some (.int r4.1))) (pc' := 28) O dX7_land_25 tw_199 tw_59 tw_198 tw_197 hyX1_canWriteMoney rfl (okX1_canWriteMoney er4) (Nat.le_of_ble_eq_true rfl) ⟨Nat.le_of_ble_eq_true rfl, Nat.le_of_ble_eq_true rfl⟩ ⟨Nat.le_of_ble_eq_true rfl, Nat.le_of_ble_eq_true rfl⟩ rfl ?_
      show G κ mX7_land 0 0 28 [(0, .ref this), (1, .int p0), (2, .int p1), (3, .int p2), (4, .int p3), (5, .int p4), (6, .int p5), (7, .int p6), (8, .int p7)] [.int r4.1] r4.2
      refine g_if_eq (tgt := 41) (pc' := 31) O dX7_land_28 (by decide) rfl (fun hc => ?_) (fun hc => ?_)
      · replace h := ip hc h
        refine g_sub (lv' := []) [] rfl ?_
        exact tX7_land_41 O hf h
      · replace h := ine hc h
        refine g_iload (pc' := 33) 7 O dX7_land_31 rfl rfl ?_
        refine g_iload (pc' := 35) 8 O dX7_land_33 rfl rfl ?_
        replace h := ob h; obtain ⟨r5, er5, h⟩ := h
        refine g_callS (y := yX1_canWriteDays) (ν := mX1_canWriteDays) (n := 2) (As := [.int p6, .int p7]) (b := 0) (st := []) (M2 := r5.2) (r1 := (some (.int r5.1))) (pc' := 38) O dX7_land_35 tw_205 tw_59 tw_204 tw_203 hyX1_canWriteDays rfl (okX1_canWriteDays er5) (Nat.le_of_ble_eq_true rfl) ⟨Nat.le_of_ble_eq_true rfl, Nat.le_of_ble_eq_true rfl⟩ ⟨Nat.le_of_ble_eq_true rfl, Nat.le_of_ble_eq_true rfl⟩ rfl ?_
        show G κ mX7_land 0 0 38 [(0, .ref this), (1, .int p0), (2, .int p1), (3, .int p2), (4, .int p3), (5, .int p4), (6, .int p5), (7, .int p6), (8, .int p7)] [.int r5.1] r5.2
        refine g_if_ne (tgt := 43) (pc' := 41) O dX7_land_38 (by decide) rfl (fun hc => ?_) (fun hc => ?_)
        · replace h := ine hc h
          refine g_newO (C := RX1) (T := TX1) (N := 8) (ci := 0) (fs := [.int 0, .int 0, .int 0, .int 0, .int 0, .int 0, .int 0, .int 0]) (pc' := 46) O dX7_land_43 rfl inX1 tyX1 tyX1_ok (by decide) tw_206 tw_207 tw_59 (by decide) (by decide) rfl ?_
          show G κ mX7_land 1 8 46 [(0, .ref this), (1, .int p0), (2, .int p1), (3, .int p2), (4, .int p3), (5, .int p4), (6, .int p5), (7, .int p6), (8, .int p7)] [.ref r5.2.1] (nO r5.2 0 [.int 0, .int 0, .int 0, .int 0, .int 0, .int 0, .int 0, .int 0])
          refine g_dup (pc' := 47) O dX7_land_46 rfl rfl ?_
          refine g_iload_n (pc' := 48) 1 O dX7_land_47 rfl rfl rfl ?_
          refine g_iload_n (pc' := 49) 2 O dX7_land_48 rfl rfl rfl ?_
          refine g_iload_n (pc' := 50) 3 O dX7_land_49 rfl rfl rfl ?_
          refine g_iload (pc' := 52) 4 O dX7_land_50 rfl rfl ?_
          refine g_iload (pc' := 54) 5 O dX7_land_52 rfl rfl ?_
          refine g_iload (pc' := 56) 6 O dX7_land_54 rfl rfl ?_
          replace h := ob h; obtain ⟨r6, er6, h⟩ := h
          refine g_callI (y := yX1_init) (ν := mX1_init) (n := 6) (As := [.int p0, .int p1, .int p2, .int p3, .int p4, .int p5]) (b := r5.2.1) (st := [.ref r5.2.1]) (M2 := r6) (r1 := none) (pc' := 59) O dX7_land_56 tw_210 tw_59 tw_209 tw_208 hyX1_init rfl rfl rfl (okX1_init er6) (Nat.le_of_ble_eq_true rfl) ⟨Nat.le_of_ble_eq_true rfl, Nat.le_of_ble_eq_true rfl⟩ ⟨Nat.le_of_ble_eq_true rfl, Nat.le_of_ble_eq_true rfl⟩ rfl ?_
          show G κ mX7_land 1 8 59 [(0, .ref this), (1, .int p0), (2, .int p1), (3, .int p2), (4, .int p3), (5, .int p4), (6, .int p5), (7, .int p6), (8, .int p7)] [.ref r5.2.1] r6
          refine g_astore (lv' := [(9, .ref r5.2.1), (0, .ref this), (1, .int p0), (2, .int p1), (3, .int p2), (4, .int p3), (5, .int p4), (6, .int p5), (7, .int p6), (8, .int p7)]) (pc' := 61) O dX7_land_59 (by decide) rfl rfl ?_
          refine g_aload (pc' := 63) 0 O dX7_land_61 rfl rfl ?_
          refine g_iload (pc' := 65) 8 O dX7_land_63 rfl rfl ?_
          refine g_iload (pc' := 67) 9 O dX7_land_65 rfl rfl ?_
          replace h := ob h; obtain ⟨u7, eu7, h⟩ := h
          replace h := ob h; obtain ⟨r8, er8, h⟩ := h
          refine g_callV (y := yX1_setDays) (ν := mX1_setDays) (n := 2) (As := [.int p6, .int p7]) (b := r5.2.1) (st := []) (M2 := r8) (r1 := none) (pc' := 70) O dX7_land_67 tw_248 tw_59 tw_246 tw_247 tw_245 hyX1_setDays rfl rfl eu7 (okX1_setDays er8) (Nat.le_of_ble_eq_true rfl) ⟨Nat.le_of_ble_eq_true rfl, Nat.le_of_ble_eq_true rfl⟩ ⟨Nat.le_of_ble_eq_true rfl, Nat.le_of_ble_eq_true rfl⟩ rfl ?_
          show G κ mX7_land 1 8 70 [(9, .ref r5.2.1), (0, .ref this), (1, .int p0), (2, .int p1), (3, .int p2), (4, .int p3), (5, .int p4), (6, .int p5), (7, .int p6), (8, .int p7)] [] r8
          refine g_aload_n (pc' := 71) 1 O dX7_land_70 rfl rfl rfl ?_
          replace h := ob h; obtain ⟨v9, ev9, h⟩ := h
          refine g_getF (C := RX7) (T := TX7) (N := 4) (ci := 4) (k := 0) (pc' := 74) O dX7_land_71 rfl inX7 (by decide) tw_177 (gN_F ev9) rfl ?_
          refine g_aload (pc' := 76) 0 O dX7_land_74 rfl rfl ?_
          replace h := ob h; obtain ⟨u10, eu10, h⟩ := h
          replace h := ob h; obtain ⟨r11, er11, h⟩ := h
          refine g_callV (y := yX3_addLand) (ν := mX3_addLand) (n := 1) (As := [.ref r5.2.1]) (b := v9) (st := []) (M2 := r11.2) (r1 := (some (.int r11.1))) (pc' := 79) O dX7_land_76 tw_252 tw_54 tw_250 tw_251 tw_249 hyX3_addLand rfl rfl eu10 (okX3_addLand er11) (Nat.le_of_ble_eq_true rfl) ⟨Nat.le_of_ble_eq_true rfl, Nat.le_of_ble_eq_true rfl⟩ ⟨Nat.le_of_ble_eq_true rfl, Nat.le_of_ble_eq_true rfl⟩ rfl ?_
          show G κ mX7_land 1 8 79 [(9, .ref r5.2.1), (0, .ref this), (1, .int p0), (2, .int p1), (3, .int p2), (4, .int p3), (5, .int p4), (6, .int p5), (7, .int p6), (8, .int p7)] [.int r11.1] r11.2
          cases h
          exact g_ireturn O dX7_land_79 rfl rfl hf (by decide) (by decide)
        · replace h := ip hc h
          refine g_sub (lv' := []) [] rfl ?_
          exact tX7_land_41 O hf h
abbrev mX7_key : MD := (cX7_key, 2, RX7, (some .int), { frames := 1, cells := 0, slots := 0, locals := 21 }, "key")
theorem hyX7_key : yX7_key.cls ≠ "java/lang/invoke/MethodHandle" ∧ yX7_key.cls ≠ "java/lang/invoke/VarHandle" ∧ (parseMethodDescriptor yX7_key.desc).map (fun d => d.parameters.length) = some 1 := by decide +kernel
def fX7_key_26  (M : Mem) : Option (Int32 × Mem) :=
  some ((-1 : Int32), M)
set_option maxHeartbeats 4000000 in
set_option maxRecDepth 100000 in
theorem tX7_key_26 {κ : KT} {p : Int32 × Mem} (O : OkK κ mX7_key) (hf : κ.2.2.2.2.2.2.2.2.2.2.2.2.2 = (some (.int p.1), p.2))  {M : Mem} (h : fX7_key_26  M = some p) : G κ mX7_key 0 0 26 [] [] M := by
  unfold fX7_key_26 at h
  refine g_iconst (v := -1) (pc' := 27) O dX7_key_26 (by decide) rfl ?_
  cases h
  exact g_ireturn O dX7_key_27 rfl rfl hf (by decide) (by decide)
def fX7_key  (this : Nat) (p0 : Int32) (M : Mem) : Option (Int32 × Mem) :=
  if p0 < 0 then (fX7_key_26 M)
  else (if (255 : Int32) < p0 then (fX7_key_26 M)
  else ((gN M 4 this 0).bind fun v1 =>
  (gN M 2 v1 0).bind fun v2 =>
  (ck M 3 v2).bind fun u3 =>
  (fX4_length v2 M).bind fun r4 =>
  if r4.1 < (60 : Int32) then ((gN r4.2 4 this 0).bind fun v5 =>
  (gN r4.2 2 v5 0).bind fun v6 =>
  (ck r4.2 3 v6).bind fun u7 =>
  (fX4_add v6 p0 r4.2).bind fun r8 =>
  (gN r8 4 this 0).bind fun v9 =>
  (gN r8 2 v9 0).bind fun v10 =>
  (ck r8 3 v10).bind fun u11 =>
  (fX4_length v10 r8).bind fun r12 =>
  some (r12.1, r12.2))
  else (fX7_key_26 r4.2)))
set_option maxHeartbeats 4000000 in
set_option maxRecDepth 100000 in
theorem okX7_key {l : Launch} {p : Int32 × Mem} {this : Nat} {p0 : Int32} {M : Mem} (h : fX7_key this p0 M = some p) : Cn l yX7_key mX7_key [.ref this, .int p0] M (some (.int p.1)) p.2 := by
  refine Cn.of [(0, .ref this), (1, .int p0)] (by decide) rfl rfl (Nat.le_of_ble_eq_true rfl) rfl (fun κ _ hf O => ?_)
  unfold fX7_key at h
  refine g_iload_n (pc' := 1) 1 O dX7_key_0 rfl rfl rfl ?_
  refine g_if_lt (tgt := 26) (pc' := 4) O dX7_key_1 (by decide) rfl (fun hc => ?_) (fun hc => ?_)
  · replace h := ip hc h
    refine g_sub (lv' := []) [] rfl ?_
    exact tX7_key_26 O hf h
  · replace h := ine hc h
    refine g_iload_n (pc' := 5) 1 O dX7_key_4 rfl rfl rfl ?_
    refine g_sipush (v := 255) (pc' := 8) O dX7_key_5 (by decide) rfl ?_
    refine g_icmp_gt (tgt := 26) (pc' := 11) O dX7_key_8 (by decide) rfl (fun hc => ?_) (fun hc => ?_)
    · replace h := ip hc h
      refine g_sub (lv' := []) [] rfl ?_
      exact tX7_key_26 O hf h
    · replace h := ine hc h
      refine g_aload_n (pc' := 12) 0 O dX7_key_11 rfl rfl rfl ?_
      replace h := ob h; obtain ⟨v1, ev1, h⟩ := h
      refine g_getF (C := RX7) (T := TX7) (N := 4) (ci := 4) (k := 0) (pc' := 15) O dX7_key_12 rfl inX7 (by decide) tw_177 (gN_F ev1) rfl ?_
      replace h := ob h; obtain ⟨v2, ev2, h⟩ := h
      refine g_getF (C := RX3) (T := TX3) (N := 9) (ci := 2) (k := 0) (pc' := 18) O dX7_key_15 rfl inX3 (by decide) tw_106 (gN_F ev2) rfl ?_
      replace h := ob h; obtain ⟨u3, eu3, h⟩ := h
      replace h := ob h; obtain ⟨r4, er4, h⟩ := h
      refine g_callV (y := yX4_length) (ν := mX4_length) (n := 0) (As := []) (b := v2) (st := []) (M2 := r4.2) (r1 := (some (.int r4.1))) (pc' := 21) O dX7_key_18 tw_260 tw_55 tw_258 tw_259 tw_257 hyX4_length rfl rfl eu3 (okX4_length er4) (Nat.le_of_ble_eq_true rfl) ⟨Nat.le_of_ble_eq_true rfl, Nat.le_of_ble_eq_true rfl⟩ ⟨Nat.le_of_ble_eq_true rfl, Nat.le_of_ble_eq_true rfl⟩ rfl ?_
      show G κ mX7_key 0 0 21 [(0, .ref this), (1, .int p0)] [.int r4.1] r4.2
      refine g_bipush (v := 60) (pc' := 23) O dX7_key_21 (by decide) rfl ?_
      refine g_icmp_lt (tgt := 28) (pc' := 26) O dX7_key_23 (by decide) rfl (fun hc => ?_) (fun hc => ?_)
      · replace h := ip hc h
        refine g_aload_n (pc' := 29) 0 O dX7_key_28 rfl rfl rfl ?_
        replace h := ob h; obtain ⟨v5, ev5, h⟩ := h
        refine g_getF (C := RX7) (T := TX7) (N := 4) (ci := 4) (k := 0) (pc' := 32) O dX7_key_29 rfl inX7 (by decide) tw_177 (gN_F ev5) rfl ?_
        replace h := ob h; obtain ⟨v6, ev6, h⟩ := h
        refine g_getF (C := RX3) (T := TX3) (N := 9) (ci := 2) (k := 0) (pc' := 35) O dX7_key_32 rfl inX3 (by decide) tw_106 (gN_F ev6) rfl ?_
        refine g_iload_n (pc' := 36) 1 O dX7_key_35 rfl rfl rfl ?_
        replace h := ob h; obtain ⟨u7, eu7, h⟩ := h
        replace h := ob h; obtain ⟨r8, er8, h⟩ := h
        refine g_callV (y := yX4_add) (ν := mX4_add) (n := 1) (As := [.int p0]) (b := v6) (st := []) (M2 := r8) (r1 := none) (pc' := 39) O dX7_key_36 tw_264 tw_55 tw_262 tw_263 tw_261 hyX4_add rfl rfl eu7 (okX4_add er8) (Nat.le_of_ble_eq_true rfl) ⟨Nat.le_of_ble_eq_true rfl, Nat.le_of_ble_eq_true rfl⟩ ⟨Nat.le_of_ble_eq_true rfl, Nat.le_of_ble_eq_true rfl⟩ rfl ?_
        show G κ mX7_key 0 0 39 [(0, .ref this), (1, .int p0)] [] r8
        refine g_aload_n (pc' := 40) 0 O dX7_key_39 rfl rfl rfl ?_
        replace h := ob h; obtain ⟨v9, ev9, h⟩ := h
        refine g_getF (C := RX7) (T := TX7) (N := 4) (ci := 4) (k := 0) (pc' := 43) O dX7_key_40 rfl inX7 (by decide) tw_177 (gN_F ev9) rfl ?_
        replace h := ob h; obtain ⟨v10, ev10, h⟩ := h
        refine g_getF (C := RX3) (T := TX3) (N := 9) (ci := 2) (k := 0) (pc' := 46) O dX7_key_43 rfl inX3 (by decide) tw_106 (gN_F ev10) rfl ?_
        replace h := ob h; obtain ⟨u11, eu11, h⟩ := h
        replace h := ob h; obtain ⟨r12, er12, h⟩ := h
        refine g_callV (y := yX4_length) (ν := mX4_length) (n := 0) (As := []) (b := v10) (st := []) (M2 := r12.2) (r1 := (some (.int r12.1))) (pc' := 49) O dX7_key_46 tw_260 tw_55 tw_258 tw_259 tw_257 hyX4_length rfl rfl eu11 (okX4_length er12) (Nat.le_of_ble_eq_true rfl) ⟨Nat.le_of_ble_eq_true rfl, Nat.le_of_ble_eq_true rfl⟩ ⟨Nat.le_of_ble_eq_true rfl, Nat.le_of_ble_eq_true rfl⟩ rfl ?_
        show G κ mX7_key 0 0 49 [(0, .ref this), (1, .int p0)] [.int r12.1] r12.2
        cases h
        exact g_ireturn O dX7_key_49 rfl rfl hf (by decide) (by decide)
      · replace h := ine hc h
        refine g_sub (lv' := []) [] rfl ?_
        exact tX7_key_26 O hf h
abbrev mX7_keys : MD := (cX7_keys, 4, RX7, (some .int), { frames := 1, cells := 0, slots := 0, locals := 21 }, "keys")
theorem hyX7_keys : yX7_keys.cls ≠ "java/lang/invoke/MethodHandle" ∧ yX7_keys.cls ≠ "java/lang/invoke/VarHandle" ∧ (parseMethodDescriptor yX7_keys.desc).map (fun d => d.parameters.length) = some 1 := by decide +kernel
def fX7_keys_42  : Nat → Nat → Int32 → Int32 → Int32 → Mem → Option (Int32 × Mem)
  | 0, _, _, _, _, _ => none
  | n + 1, x0, x1, x2, x3, M =>
    if x2 ≤ x3 then ((gN M 4 x0 0).bind fun v1 =>
    (gN M 2 v1 0).bind fun v2 =>
    (ck M 3 v2).bind fun u3 =>
    (fX4_length v2 M).bind fun r4 =>
    some (r4.1, r4.2))
    else ((gN M 4 x0 0).bind fun v5 =>
    (gN M 2 v5 0).bind fun v6 =>
    (fX7_byteOf x1 x3 M).bind fun r7 =>
    (ck r7.2 3 v6).bind fun u8 =>
    (fX4_add v6 r7.1 r7.2).bind fun r9 =>
    fX7_keys_42 n x0 x1 x2 (x3 + (1 : Int32)) r9)
set_option maxHeartbeats 4000000 in
set_option maxRecDepth 100000 in
theorem tX7_keys_42 {κ : KT} {p : Int32 × Mem} (O : OkK κ mX7_keys) (hf : κ.2.2.2.2.2.2.2.2.2.2.2.2.2 = (some (.int p.1), p.2))  : ∀ (n : Nat) (x0 : Nat) (x1 : Int32) (x2 : Int32) (x3 : Int32) (M : Mem), fX7_keys_42  n x0 x1 x2 x3 M = some p → G κ mX7_keys 0 0 42 [(0, .ref x0), (1, .int x1), (2, .int x2), (3, .int x3)] [] M := by
  intro n
  induction n with
  | zero => intro x0 x1 x2 x3 M h; cases h
  | succ n ih =>
    intro x0 x1 x2 x3 M h
    rw [fX7_keys_42] at h
    refine g_iload_n (pc' := 43) 3 O dX7_keys_42 rfl rfl rfl ?_
    refine g_iload_n (pc' := 44) 2 O dX7_keys_43 rfl rfl rfl ?_
    refine g_icmp_ge (tgt := 68) (pc' := 47) O dX7_keys_44 (by decide) rfl (fun hc => ?_) (fun hc => ?_)
    · replace h := ip hc h
      refine g_aload_n (pc' := 69) 0 O dX7_keys_68 rfl rfl rfl ?_
      replace h := ob h; obtain ⟨v1, ev1, h⟩ := h
      refine g_getF (C := RX7) (T := TX7) (N := 4) (ci := 4) (k := 0) (pc' := 72) O dX7_keys_69 rfl inX7 (by decide) tw_177 (gN_F ev1) rfl ?_
      replace h := ob h; obtain ⟨v2, ev2, h⟩ := h
      refine g_getF (C := RX3) (T := TX3) (N := 9) (ci := 2) (k := 0) (pc' := 75) O dX7_keys_72 rfl inX3 (by decide) tw_106 (gN_F ev2) rfl ?_
      replace h := ob h; obtain ⟨u3, eu3, h⟩ := h
      replace h := ob h; obtain ⟨r4, er4, h⟩ := h
      refine g_callV (y := yX4_length) (ν := mX4_length) (n := 0) (As := []) (b := v2) (st := []) (M2 := r4.2) (r1 := (some (.int r4.1))) (pc' := 78) O dX7_keys_75 tw_260 tw_55 tw_258 tw_259 tw_257 hyX4_length rfl rfl eu3 (okX4_length er4) (Nat.le_of_ble_eq_true rfl) ⟨Nat.le_of_ble_eq_true rfl, Nat.le_of_ble_eq_true rfl⟩ ⟨Nat.le_of_ble_eq_true rfl, Nat.le_of_ble_eq_true rfl⟩ rfl ?_
      show G κ mX7_keys 0 0 78 [(0, .ref x0), (1, .int x1), (2, .int x2), (3, .int x3)] [.int r4.1] r4.2
      cases h
      exact g_ireturn O dX7_keys_78 rfl rfl hf (by decide) (by decide)
    · replace h := ine hc h
      refine g_aload_n (pc' := 48) 0 O dX7_keys_47 rfl rfl rfl ?_
      replace h := ob h; obtain ⟨v5, ev5, h⟩ := h
      refine g_getF (C := RX7) (T := TX7) (N := 4) (ci := 4) (k := 0) (pc' := 51) O dX7_keys_48 rfl inX7 (by decide) tw_177 (gN_F ev5) rfl ?_
      replace h := ob h; obtain ⟨v6, ev6, h⟩ := h
      refine g_getF (C := RX3) (T := TX3) (N := 9) (ci := 2) (k := 0) (pc' := 54) O dX7_keys_51 rfl inX3 (by decide) tw_106 (gN_F ev6) rfl ?_
      refine g_iload_n (pc' := 55) 1 O dX7_keys_54 rfl rfl rfl ?_
      refine g_iload_n (pc' := 56) 3 O dX7_keys_55 rfl rfl rfl ?_
      replace h := ob h; obtain ⟨r7, er7, h⟩ := h
      refine g_callS (y := yX7_byteOf) (ν := mX7_byteOf) (n := 2) (As := [.int x1, .int x3]) (b := 0) (st := [.ref v6]) (M2 := r7.2) (r1 := (some (.int r7.1))) (pc' := 59) O dX7_keys_56 tw_271 tw_53 tw_270 tw_269 hyX7_byteOf rfl (okX7_byteOf er7) (Nat.le_of_ble_eq_true rfl) ⟨Nat.le_of_ble_eq_true rfl, Nat.le_of_ble_eq_true rfl⟩ ⟨Nat.le_of_ble_eq_true rfl, Nat.le_of_ble_eq_true rfl⟩ rfl ?_
      show G κ mX7_keys 0 0 59 [(0, .ref x0), (1, .int x1), (2, .int x2), (3, .int x3)] [.int r7.1, .ref v6] r7.2
      replace h := ob h; obtain ⟨u8, eu8, h⟩ := h
      replace h := ob h; obtain ⟨r9, er9, h⟩ := h
      refine g_callV (y := yX4_add) (ν := mX4_add) (n := 1) (As := [.int r7.1]) (b := v6) (st := []) (M2 := r9) (r1 := none) (pc' := 62) O dX7_keys_59 tw_264 tw_55 tw_262 tw_263 tw_261 hyX4_add rfl rfl eu8 (okX4_add er9) (Nat.le_of_ble_eq_true rfl) ⟨Nat.le_of_ble_eq_true rfl, Nat.le_of_ble_eq_true rfl⟩ ⟨Nat.le_of_ble_eq_true rfl, Nat.le_of_ble_eq_true rfl⟩ rfl ?_
      show G κ mX7_keys 0 0 62 [(0, .ref x0), (1, .int x1), (2, .int x2), (3, .int x3)] [] r9
      refine g_iinc (q := 3) (v := x3 + (1 : Int32)) (lv' := [(3, .int (x3 + (1 : Int32))), (0, .ref x0), (1, .int x1), (2, .int x2)]) (pc' := 65) O dX7_keys_62 rfl rfl (by decide) rfl rfl ?_
      refine g_goto (pc' := 42) O dX7_keys_65 (by decide) ?_
      refine g_sub (lv' := [(0, .ref x0), (1, .int x1), (2, .int x2), (3, .int (x3 + (1 : Int32)))]) [1, 2, 3, 0] rfl ?_
      exact ih x0 x1 x2 (x3 + (1 : Int32)) r9 h
def fX7_keys_21  (x0 : Nat) (x1 : Int32) (x2 : Int32) (M : Mem) : Option (Int32 × Mem) :=
  (gN M 4 x0 0).bind fun v1 =>
  (gN M 2 v1 0).bind fun v2 =>
  (ck M 3 v2).bind fun u3 =>
  (fX4_length v2 M).bind fun r4 =>
  if (r4.1 + x2) ≤ (60 : Int32) then (fX7_keys_42 FU x0 x1 x2 (0 : Int32) r4.2)
  else (some ((-1 : Int32), r4.2))
set_option maxHeartbeats 4000000 in
set_option maxRecDepth 100000 in
theorem tX7_keys_21 {κ : KT} {p : Int32 × Mem} (O : OkK κ mX7_keys) (hf : κ.2.2.2.2.2.2.2.2.2.2.2.2.2 = (some (.int p.1), p.2))  {x0 : Nat} {x1 : Int32} {x2 : Int32} {M : Mem} (h : fX7_keys_21  x0 x1 x2 M = some p) : G κ mX7_keys 0 0 21 [(0, .ref x0), (1, .int x1), (2, .int x2)] [] M := by
  unfold fX7_keys_21 at h
  refine g_aload_n (pc' := 22) 0 O dX7_keys_21 rfl rfl rfl ?_
  replace h := ob h; obtain ⟨v1, ev1, h⟩ := h
  refine g_getF (C := RX7) (T := TX7) (N := 4) (ci := 4) (k := 0) (pc' := 25) O dX7_keys_22 rfl inX7 (by decide) tw_177 (gN_F ev1) rfl ?_
  replace h := ob h; obtain ⟨v2, ev2, h⟩ := h
  refine g_getF (C := RX3) (T := TX3) (N := 9) (ci := 2) (k := 0) (pc' := 28) O dX7_keys_25 rfl inX3 (by decide) tw_106 (gN_F ev2) rfl ?_
  replace h := ob h; obtain ⟨u3, eu3, h⟩ := h
  replace h := ob h; obtain ⟨r4, er4, h⟩ := h
  refine g_callV (y := yX4_length) (ν := mX4_length) (n := 0) (As := []) (b := v2) (st := []) (M2 := r4.2) (r1 := (some (.int r4.1))) (pc' := 31) O dX7_keys_28 tw_260 tw_55 tw_258 tw_259 tw_257 hyX4_length rfl rfl eu3 (okX4_length er4) (Nat.le_of_ble_eq_true rfl) ⟨Nat.le_of_ble_eq_true rfl, Nat.le_of_ble_eq_true rfl⟩ ⟨Nat.le_of_ble_eq_true rfl, Nat.le_of_ble_eq_true rfl⟩ rfl ?_
  show G κ mX7_keys 0 0 31 [(0, .ref x0), (1, .int x1), (2, .int x2)] [.int r4.1] r4.2
  refine g_iload_n (pc' := 32) 2 O dX7_keys_31 rfl rfl rfl ?_
  refine g_iadd (pc' := 33) O dX7_keys_32 rfl ?_
  refine g_bipush (v := 60) (pc' := 35) O dX7_keys_33 (by decide) rfl ?_
  refine g_icmp_le (tgt := 40) (pc' := 38) O dX7_keys_35 (by decide) rfl (fun hc => ?_) (fun hc => ?_)
  · replace h := ip hc h
    refine g_iconst (v := 0) (pc' := 41) O dX7_keys_40 (by decide) rfl ?_
    refine g_istore_n (lv' := [(3, .int (0 : Int32)), (0, .ref x0), (1, .int x1), (2, .int x2)]) (pc' := 42) O dX7_keys_41 rfl (by decide) rfl rfl ?_
    refine g_sub (lv' := [(0, .ref x0), (1, .int x1), (2, .int x2), (3, .int (0 : Int32))]) [1, 2, 3, 0] rfl ?_
    exact tX7_keys_42 O hf FU x0 x1 x2 (0 : Int32) r4.2 h
  · replace h := ine hc h
    refine g_iconst (v := -1) (pc' := 39) O dX7_keys_38 (by decide) rfl ?_
    cases h
    exact g_ireturn O dX7_keys_39 rfl rfl hf (by decide) (by decide)
def fX7_keys_2  : Nat → Nat → Int32 → Int32 → Mem → Option (Int32 × Mem)
  | 0, _, _, _, _ => none
  | n + 1, x0, x1, x2, M =>
    if (4 : Int32) ≤ x2 then (fX7_keys_21 x0 x1 x2 M)
    else ((fX7_byteOf x1 x2 M).bind fun r1 =>
    if r1.1 = 0 then (fX7_keys_21 x0 x1 x2 r1.2)
    else (fX7_keys_2 n x0 x1 (x2 + (1 : Int32)) r1.2))
set_option maxHeartbeats 4000000 in
set_option maxRecDepth 100000 in
theorem tX7_keys_2 {κ : KT} {p : Int32 × Mem} (O : OkK κ mX7_keys) (hf : κ.2.2.2.2.2.2.2.2.2.2.2.2.2 = (some (.int p.1), p.2))  : ∀ (n : Nat) (x0 : Nat) (x1 : Int32) (x2 : Int32) (M : Mem), fX7_keys_2  n x0 x1 x2 M = some p → G κ mX7_keys 0 0 2 [(0, .ref x0), (1, .int x1), (2, .int x2)] [] M := by
  intro n
  induction n with
  | zero => intro x0 x1 x2 M h; cases h
  | succ n ih =>
    intro x0 x1 x2 M h
    rw [fX7_keys_2] at h
    refine g_iload_n (pc' := 3) 2 O dX7_keys_2 rfl rfl rfl ?_
    refine g_iconst (v := 4) (pc' := 4) O dX7_keys_3 (by decide) rfl ?_
    refine g_icmp_ge (tgt := 21) (pc' := 7) O dX7_keys_4 (by decide) rfl (fun hc => ?_) (fun hc => ?_)
    · replace h := ip hc h
      exact tX7_keys_21 O hf h
    · replace h := ine hc h
      refine g_iload_n (pc' := 8) 1 O dX7_keys_7 rfl rfl rfl ?_
      refine g_iload_n (pc' := 9) 2 O dX7_keys_8 rfl rfl rfl ?_
      replace h := ob h; obtain ⟨r1, er1, h⟩ := h
      refine g_callS (y := yX7_byteOf) (ν := mX7_byteOf) (n := 2) (As := [.int x1, .int x2]) (b := 0) (st := []) (M2 := r1.2) (r1 := (some (.int r1.1))) (pc' := 12) O dX7_keys_9 tw_271 tw_53 tw_270 tw_269 hyX7_byteOf rfl (okX7_byteOf er1) (Nat.le_of_ble_eq_true rfl) ⟨Nat.le_of_ble_eq_true rfl, Nat.le_of_ble_eq_true rfl⟩ ⟨Nat.le_of_ble_eq_true rfl, Nat.le_of_ble_eq_true rfl⟩ rfl ?_
      show G κ mX7_keys 0 0 12 [(0, .ref x0), (1, .int x1), (2, .int x2)] [.int r1.1] r1.2
      refine g_if_eq (tgt := 21) (pc' := 15) O dX7_keys_12 (by decide) rfl (fun hc => ?_) (fun hc => ?_)
      · replace h := ip hc h
        exact tX7_keys_21 O hf h
      · replace h := ine hc h
        refine g_iinc (q := 2) (v := x2 + (1 : Int32)) (lv' := [(2, .int (x2 + (1 : Int32))), (0, .ref x0), (1, .int x1)]) (pc' := 18) O dX7_keys_15 rfl rfl (by decide) rfl rfl ?_
        refine g_goto (pc' := 2) O dX7_keys_18 (by decide) ?_
        refine g_sub (lv' := [(0, .ref x0), (1, .int x1), (2, .int (x2 + (1 : Int32)))]) [1, 2, 0] rfl ?_
        exact ih x0 x1 (x2 + (1 : Int32)) r1.2 h
def fX7_keys  (this : Nat) (p0 : Int32) (M : Mem) : Option (Int32 × Mem) :=
  fX7_keys_2 FU this p0 (0 : Int32) M
set_option maxHeartbeats 4000000 in
set_option maxRecDepth 100000 in
theorem okX7_keys {l : Launch} {p : Int32 × Mem} {this : Nat} {p0 : Int32} {M : Mem} (h : fX7_keys this p0 M = some p) : Cn l yX7_keys mX7_keys [.ref this, .int p0] M (some (.int p.1)) p.2 := by
  refine Cn.of [(0, .ref this), (1, .int p0)] (by decide) rfl rfl (Nat.le_of_ble_eq_true rfl) rfl (fun κ _ hf O => ?_)
  unfold fX7_keys at h
  refine g_iconst (v := 0) (pc' := 1) O dX7_keys_0 (by decide) rfl ?_
  refine g_istore_n (lv' := [(2, .int (0 : Int32)), (0, .ref this), (1, .int p0)]) (pc' := 2) O dX7_keys_1 rfl (by decide) rfl rfl ?_
  refine g_sub (lv' := [(0, .ref this), (1, .int p0), (2, .int (0 : Int32))]) [1, 2, 0] rfl ?_
  exact tX7_keys_2 O hf FU this p0 (0 : Int32) M h
abbrev mX7_undo : MD := (cX7_undo, 2, RX7, (some .int), { frames := 2, cells := 0, slots := 0, locals := 42 }, "undo")
theorem hyX7_undo : yX7_undo.cls ≠ "java/lang/invoke/MethodHandle" ∧ yX7_undo.cls ≠ "java/lang/invoke/VarHandle" ∧ (parseMethodDescriptor yX7_undo.desc).map (fun d => d.parameters.length) = some 1 := by decide +kernel
def fX7_undo_18  (M : Mem) : Option (Int32 × Mem) :=
  some ((-1 : Int32), M)
set_option maxHeartbeats 4000000 in
set_option maxRecDepth 100000 in
theorem tX7_undo_18 {κ : KT} {p : Int32 × Mem} (O : OkK κ mX7_undo) (hf : κ.2.2.2.2.2.2.2.2.2.2.2.2.2 = (some (.int p.1), p.2))  {M : Mem} (h : fX7_undo_18  M = some p) : G κ mX7_undo 0 0 18 [] [] M := by
  unfold fX7_undo_18 at h
  refine g_iconst (v := -1) (pc' := 19) O dX7_undo_18 (by decide) rfl ?_
  cases h
  exact g_ireturn O dX7_undo_19 rfl rfl hf (by decide) (by decide)
def fX7_undo  (this : Nat) (p0 : Int32) (M : Mem) : Option (Int32 × Mem) :=
  if p0 < 0 then (fX7_undo_18 M)
  else ((gN M 4 this 0).bind fun v1 =>
  (gN M 2 v1 0).bind fun v2 =>
  (ck M 3 v2).bind fun u3 =>
  (fX4_length v2 M).bind fun r4 =>
  if p0 ≤ r4.1 then ((gN r4.2 4 this 0).bind fun v5 =>
  (gN r4.2 2 v5 0).bind fun v6 =>
  (ck r4.2 3 v6).bind fun u7 =>
  (fX4_shorten v6 p0 r4.2).bind fun r8 =>
  (gN r8 4 this 0).bind fun v9 =>
  (gN r8 2 v9 0).bind fun v10 =>
  (ck r8 3 v10).bind fun u11 =>
  (fX4_length v10 r8).bind fun r12 =>
  some (r12.1, r12.2))
  else (fX7_undo_18 r4.2))
set_option maxHeartbeats 4000000 in
set_option maxRecDepth 100000 in
theorem okX7_undo {l : Launch} {p : Int32 × Mem} {this : Nat} {p0 : Int32} {M : Mem} (h : fX7_undo this p0 M = some p) : Cn l yX7_undo mX7_undo [.ref this, .int p0] M (some (.int p.1)) p.2 := by
  refine Cn.of [(0, .ref this), (1, .int p0)] (by decide) rfl rfl (Nat.le_of_ble_eq_true rfl) rfl (fun κ _ hf O => ?_)
  unfold fX7_undo at h
  refine g_iload_n (pc' := 1) 1 O dX7_undo_0 rfl rfl rfl ?_
  refine g_if_lt (tgt := 18) (pc' := 4) O dX7_undo_1 (by decide) rfl (fun hc => ?_) (fun hc => ?_)
  · replace h := ip hc h
    refine g_sub (lv' := []) [] rfl ?_
    exact tX7_undo_18 O hf h
  · replace h := ine hc h
    refine g_iload_n (pc' := 5) 1 O dX7_undo_4 rfl rfl rfl ?_
    refine g_aload_n (pc' := 6) 0 O dX7_undo_5 rfl rfl rfl ?_
    replace h := ob h; obtain ⟨v1, ev1, h⟩ := h
    refine g_getF (C := RX7) (T := TX7) (N := 4) (ci := 4) (k := 0) (pc' := 9) O dX7_undo_6 rfl inX7 (by decide) tw_177 (gN_F ev1) rfl ?_
    replace h := ob h; obtain ⟨v2, ev2, h⟩ := h
    refine g_getF (C := RX3) (T := TX3) (N := 9) (ci := 2) (k := 0) (pc' := 12) O dX7_undo_9 rfl inX3 (by decide) tw_106 (gN_F ev2) rfl ?_
    replace h := ob h; obtain ⟨u3, eu3, h⟩ := h
    replace h := ob h; obtain ⟨r4, er4, h⟩ := h
    refine g_callV (y := yX4_length) (ν := mX4_length) (n := 0) (As := []) (b := v2) (st := [.int p0]) (M2 := r4.2) (r1 := (some (.int r4.1))) (pc' := 15) O dX7_undo_12 tw_260 tw_55 tw_258 tw_259 tw_257 hyX4_length rfl rfl eu3 (okX4_length er4) (Nat.le_of_ble_eq_true rfl) ⟨Nat.le_of_ble_eq_true rfl, Nat.le_of_ble_eq_true rfl⟩ ⟨Nat.le_of_ble_eq_true rfl, Nat.le_of_ble_eq_true rfl⟩ rfl ?_
    show G κ mX7_undo 0 0 15 [(0, .ref this), (1, .int p0)] [.int r4.1, .int p0] r4.2
    refine g_icmp_le (tgt := 20) (pc' := 18) O dX7_undo_15 (by decide) rfl (fun hc => ?_) (fun hc => ?_)
    · replace h := ip hc h
      refine g_aload_n (pc' := 21) 0 O dX7_undo_20 rfl rfl rfl ?_
      replace h := ob h; obtain ⟨v5, ev5, h⟩ := h
      refine g_getF (C := RX7) (T := TX7) (N := 4) (ci := 4) (k := 0) (pc' := 24) O dX7_undo_21 rfl inX7 (by decide) tw_177 (gN_F ev5) rfl ?_
      replace h := ob h; obtain ⟨v6, ev6, h⟩ := h
      refine g_getF (C := RX3) (T := TX3) (N := 9) (ci := 2) (k := 0) (pc' := 27) O dX7_undo_24 rfl inX3 (by decide) tw_106 (gN_F ev6) rfl ?_
      refine g_iload_n (pc' := 28) 1 O dX7_undo_27 rfl rfl rfl ?_
      replace h := ob h; obtain ⟨u7, eu7, h⟩ := h
      replace h := ob h; obtain ⟨r8, er8, h⟩ := h
      refine g_callV (y := yX4_shorten) (ν := mX4_shorten) (n := 1) (As := [.int p0]) (b := v6) (st := []) (M2 := r8) (r1 := none) (pc' := 31) O dX7_undo_28 tw_279 tw_55 tw_277 tw_278 tw_276 hyX4_shorten rfl rfl eu7 (okX4_shorten er8) (Nat.le_of_ble_eq_true rfl) ⟨Nat.le_of_ble_eq_true rfl, Nat.le_of_ble_eq_true rfl⟩ ⟨Nat.le_of_ble_eq_true rfl, Nat.le_of_ble_eq_true rfl⟩ rfl ?_
      show G κ mX7_undo 0 0 31 [(0, .ref this), (1, .int p0)] [] r8
      refine g_aload_n (pc' := 32) 0 O dX7_undo_31 rfl rfl rfl ?_
      replace h := ob h; obtain ⟨v9, ev9, h⟩ := h
      refine g_getF (C := RX7) (T := TX7) (N := 4) (ci := 4) (k := 0) (pc' := 35) O dX7_undo_32 rfl inX7 (by decide) tw_177 (gN_F ev9) rfl ?_
      replace h := ob h; obtain ⟨v10, ev10, h⟩ := h
      refine g_getF (C := RX3) (T := TX3) (N := 9) (ci := 2) (k := 0) (pc' := 38) O dX7_undo_35 rfl inX3 (by decide) tw_106 (gN_F ev10) rfl ?_
      replace h := ob h; obtain ⟨u11, eu11, h⟩ := h
      replace h := ob h; obtain ⟨r12, er12, h⟩ := h
      refine g_callV (y := yX4_length) (ν := mX4_length) (n := 0) (As := []) (b := v10) (st := []) (M2 := r12.2) (r1 := (some (.int r12.1))) (pc' := 41) O dX7_undo_38 tw_260 tw_55 tw_258 tw_259 tw_257 hyX4_length rfl rfl eu11 (okX4_length er12) (Nat.le_of_ble_eq_true rfl) ⟨Nat.le_of_ble_eq_true rfl, Nat.le_of_ble_eq_true rfl⟩ ⟨Nat.le_of_ble_eq_true rfl, Nat.le_of_ble_eq_true rfl⟩ rfl ?_
      show G κ mX7_undo 0 0 41 [(0, .ref this), (1, .int p0)] [.int r12.1] r12.2
      cases h
      exact g_ireturn O dX7_undo_41 rfl rfl hf (by decide) (by decide)
    · replace h := ine hc h
      refine g_sub (lv' := []) [] rfl ?_
      exact tX7_undo_18 O hf h
abbrev mX7_bounds : MD := (cX7_bounds, 6, RX7, (some .boolean), { frames := 2, cells := 0, slots := 0, locals := 45 }, "bounds")
theorem hyX7_bounds : yX7_bounds.cls ≠ "java/lang/invoke/MethodHandle" ∧ yX7_bounds.cls ≠ "java/lang/invoke/VarHandle" ∧ (parseMethodDescriptor yX7_bounds.desc).map (fun d => d.parameters.length) = some 3 := by decide +kernel
def fX7_bounds_14  (M : Mem) : Option (Int32 × Mem) :=
  (nz (0 : Int32)).bind fun z1 =>
  some (z1, M)
set_option maxHeartbeats 4000000 in
set_option maxRecDepth 100000 in
theorem tX7_bounds_14 {κ : KT} {p : Int32 × Mem} (O : OkK κ mX7_bounds) (hf : κ.2.2.2.2.2.2.2.2.2.2.2.2.2 = (some (.int p.1), p.2))  {M : Mem} (h : fX7_bounds_14  M = some p) : G κ mX7_bounds 0 0 14 [] [] M := by
  unfold fX7_bounds_14 at h
  refine g_iconst (v := 0) (pc' := 15) O dX7_bounds_14 (by decide) rfl ?_
  replace h := ob h; obtain ⟨z1, ez1, h⟩ := h
  obtain ⟨hz1, ez1b⟩ := nz_spec ez1
  rw [ez1b] at h
  cases h
  exact g_ireturn O dX7_bounds_15 rfl (nz_nar hz1) hf (by decide) (by decide)
def fX7_bounds  (this : Nat) (p0 : Int32) (p1 : Int64) (p2 : Int64) (M : Mem) : Option (Int32 × Mem) :=
  (fX7_isKind p0 M).bind fun r1 =>
  if r1.1 = 0 then (fX7_bounds_14 r1.2)
  else (if (lg_cmp p1 p2) ≤ 0 then ((gN r1.2 4 this 0).bind fun v2 =>
  (ck r1.2 2 v2).bind fun u3 =>
  (fX3_setBounds v2 p0 p1 p2 r1.2).bind fun r4 =>
  (nz (1 : Int32)).bind fun z5 =>
  some (z5, r4))
  else (fX7_bounds_14 r1.2))
set_option maxHeartbeats 4000000 in
set_option maxRecDepth 100000 in
theorem okX7_bounds {l : Launch} {p : Int32 × Mem} {this : Nat} {p0 : Int32} {p1 : Int64} {p2 : Int64} {M : Mem} (h : fX7_bounds this p0 p1 p2 M = some p) : Cn l yX7_bounds mX7_bounds [.ref this, .int p0, .long p1, .long p2] M (some (.int p.1)) p.2 := by
  refine Cn.of [(0, .ref this), (1, .int p0), (2, .long p1), (4, .long p2)] (by decide) rfl rfl (Nat.le_of_ble_eq_true rfl) rfl (fun κ _ hf O => ?_)
  unfold fX7_bounds at h
  refine g_iload_n (pc' := 1) 1 O dX7_bounds_0 rfl rfl rfl ?_
  replace h := ob h; obtain ⟨r1, er1, h⟩ := h
  refine g_callS (y := yX7_isKind) (ν := mX7_isKind) (n := 1) (As := [.int p0]) (b := 0) (st := []) (M2 := r1.2) (r1 := (some (.int r1.1))) (pc' := 4) O dX7_bounds_1 tw_286 tw_53 tw_285 tw_284 hyX7_isKind rfl (okX7_isKind er1) (Nat.le_of_ble_eq_true rfl) ⟨Nat.le_of_ble_eq_true rfl, Nat.le_of_ble_eq_true rfl⟩ ⟨Nat.le_of_ble_eq_true rfl, Nat.le_of_ble_eq_true rfl⟩ rfl ?_
  show G κ mX7_bounds 0 0 4 [(0, .ref this), (1, .int p0), (2, .long p1), (4, .long p2)] [.int r1.1] r1.2
  refine g_if_eq (tgt := 14) (pc' := 7) O dX7_bounds_4 (by decide) rfl (fun hc => ?_) (fun hc => ?_)
  · replace h := ip hc h
    refine g_sub (lv' := []) [] rfl ?_
    exact tX7_bounds_14 O hf h
  · replace h := ine hc h
    refine g_lload_n (pc' := 8) 2 O dX7_bounds_7 rfl rfl rfl ?_
    refine g_lload (pc' := 10) 3 O dX7_bounds_8 rfl rfl ?_
    refine g_lcmp (pc' := 11) O dX7_bounds_10 rfl ?_
    refine g_if_le (tgt := 16) (pc' := 14) O dX7_bounds_11 (by decide) rfl (fun hc => ?_) (fun hc => ?_)
    · replace h := ip hc h
      refine g_aload_n (pc' := 17) 0 O dX7_bounds_16 rfl rfl rfl ?_
      replace h := ob h; obtain ⟨v2, ev2, h⟩ := h
      refine g_getF (C := RX7) (T := TX7) (N := 4) (ci := 4) (k := 0) (pc' := 20) O dX7_bounds_17 rfl inX7 (by decide) tw_177 (gN_F ev2) rfl ?_
      refine g_iload_n (pc' := 21) 1 O dX7_bounds_20 rfl rfl rfl ?_
      refine g_lload_n (pc' := 22) 2 O dX7_bounds_21 rfl rfl rfl ?_
      refine g_lload (pc' := 24) 3 O dX7_bounds_22 rfl rfl ?_
      replace h := ob h; obtain ⟨u3, eu3, h⟩ := h
      replace h := ob h; obtain ⟨r4, er4, h⟩ := h
      refine g_callV (y := yX3_setBounds) (ν := mX3_setBounds) (n := 3) (As := [.int p0, .long p1, .long p2]) (b := v2) (st := []) (M2 := r4) (r1 := none) (pc' := 27) O dX7_bounds_24 tw_290 tw_54 tw_288 tw_289 tw_287 hyX3_setBounds rfl rfl eu3 (okX3_setBounds er4) (Nat.le_of_ble_eq_true rfl) ⟨Nat.le_of_ble_eq_true rfl, Nat.le_of_ble_eq_true rfl⟩ ⟨Nat.le_of_ble_eq_true rfl, Nat.le_of_ble_eq_true rfl⟩ rfl ?_
      show G κ mX7_bounds 0 0 27 [(0, .ref this), (1, .int p0), (2, .long p1), (4, .long p2)] [] r4
      refine g_iconst (v := 1) (pc' := 28) O dX7_bounds_27 (by decide) rfl ?_
      replace h := ob h; obtain ⟨z5, ez5, h⟩ := h
      obtain ⟨hz5, ez5b⟩ := nz_spec ez5
      rw [ez5b] at h
      cases h
      exact g_ireturn O dX7_bounds_28 rfl (nz_nar hz5) hf (by decide) (by decide)
    · replace h := ine hc h
      refine g_sub (lv' := []) [] rfl ?_
      exact tX7_bounds_14 O hf h
abbrev mX7_readLine : MD := (cX7_readLine, 4, RX7, (some .int), { frames := 5, cells := 0, slots := 0, locals := 118 }, "readLine")
theorem hyX7_readLine : yX7_readLine.cls ≠ "java/lang/invoke/MethodHandle" ∧ yX7_readLine.cls ≠ "java/lang/invoke/VarHandle" ∧ (parseMethodDescriptor yX7_readLine.desc).map (fun d => d.parameters.length) = some 3 := by decide +kernel
def fX7_readLine  (this : Nat) (p0 : Int32) (p1 : Nat) (p2 : Int32) (M : Mem) : Option (Int32 × Mem) :=
  (gN M 4 this 2).bind fun v1 =>
  (gN M 4 this 0).bind fun v2 =>
  (gN M 2 v2 0).bind fun v3 =>
  (gN M 3 v3 0).bind fun v4 =>
  (ck M 1 v1).bind fun u5 =>
  (fX2_read v1 v4 (0 : Int32) p0 p1 p2 M).bind fun r6 =>
  some (r6.1, r6.2)
set_option maxHeartbeats 4000000 in
set_option maxRecDepth 100000 in
theorem okX7_readLine {l : Launch} {p : Int32 × Mem} {this : Nat} {p0 : Int32} {p1 : Nat} {p2 : Int32} {M : Mem} (h : fX7_readLine this p0 p1 p2 M = some p) : Cn l yX7_readLine mX7_readLine [.ref this, .int p0, .ref p1, .int p2] M (some (.int p.1)) p.2 := by
  refine Cn.of [(0, .ref this), (1, .int p0), (2, .ref p1), (3, .int p2)] (by decide) rfl rfl (Nat.le_of_ble_eq_true rfl) rfl (fun κ _ hf O => ?_)
  unfold fX7_readLine at h
  refine g_aload_n (pc' := 1) 0 O dX7_readLine_0 rfl rfl rfl ?_
  replace h := ob h; obtain ⟨v1, ev1, h⟩ := h
  refine g_getF (C := RX7) (T := TX7) (N := 4) (ci := 4) (k := 2) (pc' := 4) O dX7_readLine_1 rfl inX7 (by decide) tw_179 (gN_F ev1) rfl ?_
  refine g_aload_n (pc' := 5) 0 O dX7_readLine_4 rfl rfl rfl ?_
  replace h := ob h; obtain ⟨v2, ev2, h⟩ := h
  refine g_getF (C := RX7) (T := TX7) (N := 4) (ci := 4) (k := 0) (pc' := 8) O dX7_readLine_5 rfl inX7 (by decide) tw_177 (gN_F ev2) rfl ?_
  replace h := ob h; obtain ⟨v3, ev3, h⟩ := h
  refine g_getF (C := RX3) (T := TX3) (N := 9) (ci := 2) (k := 0) (pc' := 11) O dX7_readLine_8 rfl inX3 (by decide) tw_106 (gN_F ev3) rfl ?_
  replace h := ob h; obtain ⟨v4, ev4, h⟩ := h
  refine g_getF (C := RX4) (T := TX4) (N := 2) (ci := 3) (k := 0) (pc' := 14) O dX7_readLine_11 rfl inX4 (by decide) tw_93 (gN_F ev4) rfl ?_
  refine g_iconst (v := 0) (pc' := 15) O dX7_readLine_14 (by decide) rfl ?_
  refine g_iload_n (pc' := 16) 1 O dX7_readLine_15 rfl rfl rfl ?_
  refine g_aload_n (pc' := 17) 2 O dX7_readLine_16 rfl rfl rfl ?_
  refine g_iload_n (pc' := 18) 3 O dX7_readLine_17 rfl rfl rfl ?_
  replace h := ob h; obtain ⟨u5, eu5, h⟩ := h
  replace h := ob h; obtain ⟨r6, er6, h⟩ := h
  refine g_callV (y := yX2_read) (ν := mX2_read) (n := 5) (As := [.ref v4, .int (0 : Int32), .int p0, .ref p1, .int p2]) (b := v1) (st := []) (M2 := r6.2) (r1 := (some (.int r6.1))) (pc' := 21) O dX7_readLine_18 tw_308 tw_57 tw_306 tw_307 tw_305 hyX2_read rfl rfl eu5 (okX2_read er6) (Nat.le_of_ble_eq_true rfl) ⟨Nat.le_of_ble_eq_true rfl, Nat.le_of_ble_eq_true rfl⟩ ⟨Nat.le_of_ble_eq_true rfl, Nat.le_of_ble_eq_true rfl⟩ rfl ?_
  show G κ mX7_readLine 0 0 21 [(0, .ref this), (1, .int p0), (2, .ref p1), (3, .int p2)] [.int r6.1] r6.2
  cases h
  exact g_ireturn O dX7_readLine_21 rfl rfl hf (by decide) (by decide)
abbrev mX7_countedValue : MD := (cX7_countedValue, 3, RX7, (some .long), { frames := 2, cells := 0, slots := 0, locals := 43 }, "countedValue")
theorem hyX7_countedValue : yX7_countedValue.cls ≠ "java/lang/invoke/MethodHandle" ∧ yX7_countedValue.cls ≠ "java/lang/invoke/VarHandle" ∧ (parseMethodDescriptor yX7_countedValue.desc).map (fun d => d.parameters.length) = some 2 := by decide +kernel
def fX7_countedValue_35  (s0 : Int64) (M : Mem) : Option (Int64 × Mem) :=
  some (s0, M)
set_option maxHeartbeats 4000000 in
set_option maxRecDepth 100000 in
theorem tX7_countedValue_35 {κ : KT} {p : Int64 × Mem} (O : OkK κ mX7_countedValue) (hf : κ.2.2.2.2.2.2.2.2.2.2.2.2.2 = (some (.long p.1), p.2))  {s0 : Int64} {M : Mem} (h : fX7_countedValue_35  s0 M = some p) : G κ mX7_countedValue 0 0 35 [] [.long s0] M := by
  unfold fX7_countedValue_35 at h
  cases h
  exact g_lreturn O dX7_countedValue_35 rfl hf (by decide) (by decide)
def fX7_countedValue_32  (M : Mem) : Option (Int64 × Mem) :=
  fX7_countedValue_35 (-9223372036854775808 : Int64) M
set_option maxHeartbeats 4000000 in
set_option maxRecDepth 100000 in
theorem tX7_countedValue_32 {κ : KT} {p : Int64 × Mem} (O : OkK κ mX7_countedValue) (hf : κ.2.2.2.2.2.2.2.2.2.2.2.2.2 = (some (.long p.1), p.2))  {M : Mem} (h : fX7_countedValue_32  M = some p) : G κ mX7_countedValue 0 0 32 [] [] M := by
  unfold fX7_countedValue_32 at h
  refine g_ldc2 (v := -9223372036854775808) (pc' := 35) O dX7_countedValue_32 tw_300 rfl ?_
  exact tX7_countedValue_35 O hf h
def fX7_countedValue  (this : Nat) (p0 : Int32) (p1 : Int32) (M : Mem) : Option (Int64 × Mem) :=
  if p0 = 0 then ((gN M 4 this 0).bind fun v1 =>
  (gN M 4 this 2).bind fun v2 =>
  (gL M 1 v2 5).bind fun v3 =>
  (ck M 2 v1).bind fun u4 =>
  (fX3_isWithin v1 p1 v3 M).bind fun r5 =>
  if r5.1 = 0 then (fX7_countedValue_32 r5.2)
  else ((gN r5.2 4 this 2).bind fun v6 =>
  (gL r5.2 1 v6 5).bind fun v7 =>
  fX7_countedValue_35 v7 r5.2))
  else (fX7_countedValue_32 M)
set_option maxHeartbeats 4000000 in
set_option maxRecDepth 100000 in
theorem okX7_countedValue {l : Launch} {p : Int64 × Mem} {this : Nat} {p0 : Int32} {p1 : Int32} {M : Mem} (h : fX7_countedValue this p0 p1 M = some p) : Cn l yX7_countedValue mX7_countedValue [.ref this, .int p0, .int p1] M (some (.long p.1)) p.2 := by
  refine Cn.of [(0, .ref this), (1, .int p0), (2, .int p1)] (by decide) rfl rfl (Nat.le_of_ble_eq_true rfl) rfl (fun κ _ hf O => ?_)
  unfold fX7_countedValue at h
  refine g_iload_n (pc' := 1) 1 O dX7_countedValue_0 rfl rfl rfl ?_
  refine g_if_ne (tgt := 32) (pc' := 4) O dX7_countedValue_1 (by decide) rfl (fun hc => ?_) (fun hc => ?_)
  · replace h := ine hc h
    refine g_sub (lv' := []) [] rfl ?_
    exact tX7_countedValue_32 O hf h
  · replace h := ip hc h
    refine g_aload_n (pc' := 5) 0 O dX7_countedValue_4 rfl rfl rfl ?_
    replace h := ob h; obtain ⟨v1, ev1, h⟩ := h
    refine g_getF (C := RX7) (T := TX7) (N := 4) (ci := 4) (k := 0) (pc' := 8) O dX7_countedValue_5 rfl inX7 (by decide) tw_177 (gN_F ev1) rfl ?_
    refine g_iload_n (pc' := 9) 2 O dX7_countedValue_8 rfl rfl rfl ?_
    refine g_aload_n (pc' := 10) 0 O dX7_countedValue_9 rfl rfl rfl ?_
    replace h := ob h; obtain ⟨v2, ev2, h⟩ := h
    refine g_getF (C := RX7) (T := TX7) (N := 4) (ci := 4) (k := 2) (pc' := 13) O dX7_countedValue_10 rfl inX7 (by decide) tw_179 (gN_F ev2) rfl ?_
    replace h := ob h; obtain ⟨v3, ev3, h⟩ := h
    refine g_getF (C := RX2) (T := TX2) (N := 9) (ci := 1) (k := 5) (pc' := 16) O dX7_countedValue_13 rfl inX2 (by decide) tw_152 (gL_F ev3) rfl ?_
    replace h := ob h; obtain ⟨u4, eu4, h⟩ := h
    replace h := ob h; obtain ⟨r5, er5, h⟩ := h
    refine g_callV (y := yX3_isWithin) (ν := mX3_isWithin) (n := 2) (As := [.int p1, .long v3]) (b := v1) (st := []) (M2 := r5.2) (r1 := (some (.int r5.1))) (pc' := 19) O dX7_countedValue_16 tw_428 tw_54 tw_426 tw_427 tw_425 hyX3_isWithin rfl rfl eu4 (okX3_isWithin er5) (Nat.le_of_ble_eq_true rfl) ⟨Nat.le_of_ble_eq_true rfl, Nat.le_of_ble_eq_true rfl⟩ ⟨Nat.le_of_ble_eq_true rfl, Nat.le_of_ble_eq_true rfl⟩ rfl ?_
    show G κ mX7_countedValue 0 0 19 [(0, .ref this), (1, .int p0), (2, .int p1)] [.int r5.1] r5.2
    refine g_if_eq (tgt := 32) (pc' := 22) O dX7_countedValue_19 (by decide) rfl (fun hc => ?_) (fun hc => ?_)
    · replace h := ip hc h
      refine g_sub (lv' := []) [] rfl ?_
      exact tX7_countedValue_32 O hf h
    · replace h := ine hc h
      refine g_aload_n (pc' := 23) 0 O dX7_countedValue_22 rfl rfl rfl ?_
      replace h := ob h; obtain ⟨v6, ev6, h⟩ := h
      refine g_getF (C := RX7) (T := TX7) (N := 4) (ci := 4) (k := 2) (pc' := 26) O dX7_countedValue_23 rfl inX7 (by decide) tw_179 (gN_F ev6) rfl ?_
      replace h := ob h; obtain ⟨v7, ev7, h⟩ := h
      refine g_getF (C := RX2) (T := TX2) (N := 9) (ci := 1) (k := 5) (pc' := 29) O dX7_countedValue_26 rfl inX2 (by decide) tw_152 (gL_F ev7) rfl ?_
      refine g_goto (pc' := 35) O dX7_countedValue_29 (by decide) ?_
      refine g_sub (lv' := []) [] rfl ?_
      exact tX7_countedValue_35 O hf h
abbrev mX7_value : MD := (cX7_value, 5, RX7, (some .long), { frames := 6, cells := 0, slots := 0, locals := 141 }, "value")
theorem hyX7_value : yX7_value.cls ≠ "java/lang/invoke/MethodHandle" ∧ yX7_value.cls ≠ "java/lang/invoke/VarHandle" ∧ (parseMethodDescriptor yX7_value.desc).map (fun d => d.parameters.length) = some 2 := by decide +kernel
def fX7_value_20  (M : Mem) : Option (Int64 × Mem) :=
  some ((-9223372036854775808 : Int64), M)
set_option maxHeartbeats 4000000 in
set_option maxRecDepth 100000 in
theorem tX7_value_20 {κ : KT} {p : Int64 × Mem} (O : OkK κ mX7_value) (hf : κ.2.2.2.2.2.2.2.2.2.2.2.2.2 = (some (.long p.1), p.2))  {M : Mem} (h : fX7_value_20  M = some p) : G κ mX7_value 0 0 20 [] [] M := by
  unfold fX7_value_20 at h
  refine g_ldc2 (v := -9223372036854775808) (pc' := 23) O dX7_value_20 tw_300 rfl ?_
  cases h
  exact g_lreturn O dX7_value_23 rfl hf (by decide) (by decide)
def fX7_value  (this : Nat) (p0 : Int32) (p1 : Int32) (M : Mem) : Option (Int64 × Mem) :=
  (gN M 4 this 0).bind fun v1 =>
  (ck M 2 v1).bind fun u2 =>
  (fX3_landAt v1 p0 M).bind fun r3 =>
  Option.elim r3.1 (fX7_value_20 r3.2)
  (fun a4 => (fX7_isKind p1 r3.2).bind fun r5 =>
  if r5.1 = 0 then (fX7_value_20 r5.2)
  else ((gN r5.2 4 this 0).bind fun v6 =>
  (gN r5.2 2 v6 0).bind fun v7 =>
  (ck r5.2 3 v7).bind fun u8 =>
  (fX4_length v7 r5.2).bind fun r9 =>
  (ck r9.2 4 this).bind fun u10 =>
  (fX7_readLine this r9.1 a4 p1 r9.2).bind fun r11 =>
  (ck r11.2 4 this).bind fun u12 =>
  (fX7_countedValue this r11.1 p1 r11.2).bind fun r13 =>
  some (r13.1, r13.2)))
set_option maxHeartbeats 4000000 in
set_option maxRecDepth 100000 in
theorem okX7_value {l : Launch} {p : Int64 × Mem} {this : Nat} {p0 : Int32} {p1 : Int32} {M : Mem} (h : fX7_value this p0 p1 M = some p) : Cn l yX7_value mX7_value [.ref this, .int p0, .int p1] M (some (.long p.1)) p.2 := by
  refine Cn.of [(0, .ref this), (1, .int p0), (2, .int p1)] (by decide) rfl rfl (Nat.le_of_ble_eq_true rfl) rfl (fun κ _ hf O => ?_)
  unfold fX7_value at h
  refine g_aload_n (pc' := 1) 0 O dX7_value_0 rfl rfl rfl ?_
  replace h := ob h; obtain ⟨v1, ev1, h⟩ := h
  refine g_getF (C := RX7) (T := TX7) (N := 4) (ci := 4) (k := 0) (pc' := 4) O dX7_value_1 rfl inX7 (by decide) tw_177 (gN_F ev1) rfl ?_
  refine g_iload_n (pc' := 5) 1 O dX7_value_4 rfl rfl rfl ?_
  replace h := ob h; obtain ⟨u2, eu2, h⟩ := h
  replace h := ob h; obtain ⟨r3, er3, h⟩ := h
  refine g_callV (y := yX3_landAt) (ν := mX3_landAt) (n := 1) (As := [.int p0]) (b := v1) (st := []) (M2 := r3.2) (r1 := (some (va_rf r3.1))) (pc' := 8) O dX7_value_5 tw_299 tw_54 tw_297 tw_298 tw_296 hyX3_landAt rfl rfl eu2 (okX3_landAt er3) (Nat.le_of_ble_eq_true rfl) ⟨Nat.le_of_ble_eq_true rfl, Nat.le_of_ble_eq_true rfl⟩ ⟨Nat.le_of_ble_eq_true rfl, Nat.le_of_ble_eq_true rfl⟩ rfl ?_
  show G κ mX7_value 0 0 8 [(0, .ref this), (1, .int p0), (2, .int p1)] [va_rf r3.1] r3.2
  refine g_astoreO_n (lv' := [(3, va_rf r3.1), (0, .ref this), (1, .int p0), (2, .int p1)]) (pc' := 9) O dX7_value_8 rfl (by decide) rfl rfl ?_
  refine g_aloadO_n (pc' := 10) 0 O dX7_value_9 rfl rfl rfl ?_
  refine g_ifnull (tgt := 20) (pc' := 13) O dX7_value_10 (by decide) rfl (fun ho => ?_) (fun a4 ho => ?_)
  · replace h := oe_none ho h
    try rw [ho]
    show G κ mX7_value 0 0 20 [(3, va_rf none), (0, .ref this), (1, .int p0), (2, .int p1)] [] r3.2
    refine g_sub (lv' := []) [] rfl ?_
    exact tX7_value_20 O hf h
  · replace h := oe_some ho h
    try rw [ho]
    show G κ mX7_value 0 0 13 [(3, .ref a4), (0, .ref this), (1, .int p0), (2, .int p1)] [] r3.2
    refine g_iload_n (pc' := 14) 3 O dX7_value_13 rfl rfl rfl ?_
    replace h := ob h; obtain ⟨r5, er5, h⟩ := h
    refine g_callS (y := yX7_isKind) (ν := mX7_isKind) (n := 1) (As := [.int p1]) (b := 0) (st := []) (M2 := r5.2) (r1 := (some (.int r5.1))) (pc' := 17) O dX7_value_14 tw_286 tw_53 tw_285 tw_284 hyX7_isKind rfl (okX7_isKind er5) (Nat.le_of_ble_eq_true rfl) ⟨Nat.le_of_ble_eq_true rfl, Nat.le_of_ble_eq_true rfl⟩ ⟨Nat.le_of_ble_eq_true rfl, Nat.le_of_ble_eq_true rfl⟩ rfl ?_
    show G κ mX7_value 0 0 17 [(3, .ref a4), (0, .ref this), (1, .int p0), (2, .int p1)] [.int r5.1] r5.2
    refine g_if_ne (tgt := 24) (pc' := 20) O dX7_value_17 (by decide) rfl (fun hc => ?_) (fun hc => ?_)
    · replace h := ine hc h
      refine g_aload_n (pc' := 25) 1 O dX7_value_24 rfl rfl rfl ?_
      refine g_aload_n (pc' := 26) 1 O dX7_value_25 rfl rfl rfl ?_
      replace h := ob h; obtain ⟨v6, ev6, h⟩ := h
      refine g_getF (C := RX7) (T := TX7) (N := 4) (ci := 4) (k := 0) (pc' := 29) O dX7_value_26 rfl inX7 (by decide) tw_177 (gN_F ev6) rfl ?_
      replace h := ob h; obtain ⟨v7, ev7, h⟩ := h
      refine g_getF (C := RX3) (T := TX3) (N := 9) (ci := 2) (k := 0) (pc' := 32) O dX7_value_29 rfl inX3 (by decide) tw_106 (gN_F ev7) rfl ?_
      replace h := ob h; obtain ⟨u8, eu8, h⟩ := h
      replace h := ob h; obtain ⟨r9, er9, h⟩ := h
      refine g_callV (y := yX4_length) (ν := mX4_length) (n := 0) (As := []) (b := v7) (st := [.ref this]) (M2 := r9.2) (r1 := (some (.int r9.1))) (pc' := 35) O dX7_value_32 tw_260 tw_55 tw_258 tw_259 tw_257 hyX4_length rfl rfl eu8 (okX4_length er9) (Nat.le_of_ble_eq_true rfl) ⟨Nat.le_of_ble_eq_true rfl, Nat.le_of_ble_eq_true rfl⟩ ⟨Nat.le_of_ble_eq_true rfl, Nat.le_of_ble_eq_true rfl⟩ rfl ?_
      show G κ mX7_value 0 0 35 [(3, .ref a4), (0, .ref this), (1, .int p0), (2, .int p1)] [.int r9.1, .ref this] r9.2
      refine g_aload_n (pc' := 36) 0 O dX7_value_35 rfl rfl rfl ?_
      refine g_iload_n (pc' := 37) 3 O dX7_value_36 rfl rfl rfl ?_
      replace h := ob h; obtain ⟨u10, eu10, h⟩ := h
      replace h := ob h; obtain ⟨r11, er11, h⟩ := h
      refine g_callV (y := yX7_readLine) (ν := mX7_readLine) (n := 3) (As := [.int r9.1, .ref a4, .int p1]) (b := this) (st := []) (M2 := r11.2) (r1 := (some (.int r11.1))) (pc' := 40) O dX7_value_37 tw_304 tw_53 tw_303 tw_0 tw_301 hyX7_readLine rfl rfl eu10 (okX7_readLine er11) (Nat.le_of_ble_eq_true rfl) ⟨Nat.le_of_ble_eq_true rfl, Nat.le_of_ble_eq_true rfl⟩ ⟨Nat.le_of_ble_eq_true rfl, Nat.le_of_ble_eq_true rfl⟩ rfl ?_
      show G κ mX7_value 0 0 40 [(3, .ref a4), (0, .ref this), (1, .int p0), (2, .int p1)] [.int r11.1] r11.2
      refine g_istore (lv' := [(4, .int r11.1), (3, .ref a4), (0, .ref this), (1, .int p0), (2, .int p1)]) (pc' := 42) O dX7_value_40 (by decide) rfl rfl ?_
      refine g_aload_n (pc' := 43) 2 O dX7_value_42 rfl rfl rfl ?_
      refine g_iload (pc' := 45) 0 O dX7_value_43 rfl rfl ?_
      refine g_iload_n (pc' := 46) 4 O dX7_value_45 rfl rfl rfl ?_
      replace h := ob h; obtain ⟨u12, eu12, h⟩ := h
      replace h := ob h; obtain ⟨r13, er13, h⟩ := h
      refine g_callV (y := yX7_countedValue) (ν := mX7_countedValue) (n := 2) (As := [.int r11.1, .int p1]) (b := this) (st := []) (M2 := r13.2) (r1 := (some (.long r13.1))) (pc' := 49) O dX7_value_46 tw_424 tw_53 tw_423 tw_17 tw_421 hyX7_countedValue rfl rfl eu12 (okX7_countedValue er13) (Nat.le_of_ble_eq_true rfl) ⟨Nat.le_of_ble_eq_true rfl, Nat.le_of_ble_eq_true rfl⟩ ⟨Nat.le_of_ble_eq_true rfl, Nat.le_of_ble_eq_true rfl⟩ rfl ?_
      show G κ mX7_value 0 0 49 [(4, .int r11.1), (3, .ref a4), (0, .ref this), (1, .int p0), (2, .int p1)] [.long r13.1] r13.2
      cases h
      exact g_lreturn O dX7_value_49 rfl hf (by decide) (by decide)
    · replace h := ip hc h
      refine g_sub (lv' := []) [] rfl ?_
      exact tX7_value_20 O hf h
abbrev mX7_open : MD := (cX7_open, 4, RX7, (some .boolean), { frames := 6, cells := 0, slots := 0, locals := 141 }, "open")
theorem hyX7_open : yX7_open.cls ≠ "java/lang/invoke/MethodHandle" ∧ yX7_open.cls ≠ "java/lang/invoke/VarHandle" ∧ (parseMethodDescriptor yX7_open.desc).map (fun d => d.parameters.length) = some 2 := by decide +kernel
def fX7_open_45  (s0 : Int32) (M : Mem) : Option (Int32 × Mem) :=
  (nz s0).bind fun z1 =>
  some (z1, M)
set_option maxHeartbeats 4000000 in
set_option maxRecDepth 100000 in
theorem tX7_open_45 {κ : KT} {p : Int32 × Mem} (O : OkK κ mX7_open) (hf : κ.2.2.2.2.2.2.2.2.2.2.2.2.2 = (some (.int p.1), p.2))  {s0 : Int32} {M : Mem} (h : fX7_open_45  s0 M = some p) : G κ mX7_open 0 0 45 [] [.int s0] M := by
  unfold fX7_open_45 at h
  replace h := ob h; obtain ⟨z1, ez1, h⟩ := h
  obtain ⟨hz1, ez1b⟩ := nz_spec ez1
  rw [ez1b] at h
  cases h
  exact g_ireturn O dX7_open_45 rfl (nz_nar hz1) hf (by decide) (by decide)
def fX7_open_44  (M : Mem) : Option (Int32 × Mem) :=
  fX7_open_45 (0 : Int32) M
set_option maxHeartbeats 4000000 in
set_option maxRecDepth 100000 in
theorem tX7_open_44 {κ : KT} {p : Int32 × Mem} (O : OkK κ mX7_open) (hf : κ.2.2.2.2.2.2.2.2.2.2.2.2.2 = (some (.int p.1), p.2))  {M : Mem} (h : fX7_open_44  M = some p) : G κ mX7_open 0 0 44 [] [] M := by
  unfold fX7_open_44 at h
  refine g_iconst (v := 0) (pc' := 45) O dX7_open_44 (by decide) rfl ?_
  exact tX7_open_45 O hf h
def fX7_open  (this : Nat) (p0 : Int32) (p1 : Int32) (M : Mem) : Option (Int32 × Mem) :=
  (gN M 4 this 0).bind fun v1 =>
  (ck M 2 v1).bind fun u2 =>
  (fX3_landAt v1 p0 M).bind fun r3 =>
  Option.elim r3.1 (fX7_open_44 r3.2)
  (fun a4 => (fX7_isKind p1 r3.2).bind fun r5 =>
  if r5.1 = 0 then (fX7_open_44 r5.2)
  else ((gN r5.2 4 this 0).bind fun v6 =>
  (gN r5.2 2 v6 0).bind fun v7 =>
  (ck r5.2 3 v7).bind fun u8 =>
  (fX4_length v7 r5.2).bind fun r9 =>
  (ck r9.2 4 this).bind fun u10 =>
  (fX7_readLine this r9.1 a4 p1 r9.2).bind fun r11 =>
  if r11.1 = (1 : Int32) then (fX7_open_45 (1 : Int32) r11.2)
  else (fX7_open_44 r11.2)))
set_option maxHeartbeats 4000000 in
set_option maxRecDepth 100000 in
theorem okX7_open {l : Launch} {p : Int32 × Mem} {this : Nat} {p0 : Int32} {p1 : Int32} {M : Mem} (h : fX7_open this p0 p1 M = some p) : Cn l yX7_open mX7_open [.ref this, .int p0, .int p1] M (some (.int p.1)) p.2 := by
  refine Cn.of [(0, .ref this), (1, .int p0), (2, .int p1)] (by decide) rfl rfl (Nat.le_of_ble_eq_true rfl) rfl (fun κ _ hf O => ?_)
  unfold fX7_open at h
  refine g_aload_n (pc' := 1) 0 O dX7_open_0 rfl rfl rfl ?_
  replace h := ob h; obtain ⟨v1, ev1, h⟩ := h
  refine g_getF (C := RX7) (T := TX7) (N := 4) (ci := 4) (k := 0) (pc' := 4) O dX7_open_1 rfl inX7 (by decide) tw_177 (gN_F ev1) rfl ?_
  refine g_iload_n (pc' := 5) 1 O dX7_open_4 rfl rfl rfl ?_
  replace h := ob h; obtain ⟨u2, eu2, h⟩ := h
  replace h := ob h; obtain ⟨r3, er3, h⟩ := h
  refine g_callV (y := yX3_landAt) (ν := mX3_landAt) (n := 1) (As := [.int p0]) (b := v1) (st := []) (M2 := r3.2) (r1 := (some (va_rf r3.1))) (pc' := 8) O dX7_open_5 tw_299 tw_54 tw_297 tw_298 tw_296 hyX3_landAt rfl rfl eu2 (okX3_landAt er3) (Nat.le_of_ble_eq_true rfl) ⟨Nat.le_of_ble_eq_true rfl, Nat.le_of_ble_eq_true rfl⟩ ⟨Nat.le_of_ble_eq_true rfl, Nat.le_of_ble_eq_true rfl⟩ rfl ?_
  show G κ mX7_open 0 0 8 [(0, .ref this), (1, .int p0), (2, .int p1)] [va_rf r3.1] r3.2
  refine g_astoreO_n (lv' := [(3, va_rf r3.1), (0, .ref this), (1, .int p0), (2, .int p1)]) (pc' := 9) O dX7_open_8 rfl (by decide) rfl rfl ?_
  refine g_aloadO_n (pc' := 10) 0 O dX7_open_9 rfl rfl rfl ?_
  refine g_ifnull (tgt := 44) (pc' := 13) O dX7_open_10 (by decide) rfl (fun ho => ?_) (fun a4 ho => ?_)
  · replace h := oe_none ho h
    try rw [ho]
    show G κ mX7_open 0 0 44 [(3, va_rf none), (0, .ref this), (1, .int p0), (2, .int p1)] [] r3.2
    refine g_sub (lv' := []) [] rfl ?_
    exact tX7_open_44 O hf h
  · replace h := oe_some ho h
    try rw [ho]
    show G κ mX7_open 0 0 13 [(3, .ref a4), (0, .ref this), (1, .int p0), (2, .int p1)] [] r3.2
    refine g_iload_n (pc' := 14) 3 O dX7_open_13 rfl rfl rfl ?_
    replace h := ob h; obtain ⟨r5, er5, h⟩ := h
    refine g_callS (y := yX7_isKind) (ν := mX7_isKind) (n := 1) (As := [.int p1]) (b := 0) (st := []) (M2 := r5.2) (r1 := (some (.int r5.1))) (pc' := 17) O dX7_open_14 tw_286 tw_53 tw_285 tw_284 hyX7_isKind rfl (okX7_isKind er5) (Nat.le_of_ble_eq_true rfl) ⟨Nat.le_of_ble_eq_true rfl, Nat.le_of_ble_eq_true rfl⟩ ⟨Nat.le_of_ble_eq_true rfl, Nat.le_of_ble_eq_true rfl⟩ rfl ?_
    show G κ mX7_open 0 0 17 [(3, .ref a4), (0, .ref this), (1, .int p0), (2, .int p1)] [.int r5.1] r5.2
    refine g_if_eq (tgt := 44) (pc' := 20) O dX7_open_17 (by decide) rfl (fun hc => ?_) (fun hc => ?_)
    · replace h := ip hc h
      refine g_sub (lv' := []) [] rfl ?_
      exact tX7_open_44 O hf h
    · replace h := ine hc h
      refine g_aload_n (pc' := 21) 1 O dX7_open_20 rfl rfl rfl ?_
      refine g_aload_n (pc' := 22) 1 O dX7_open_21 rfl rfl rfl ?_
      replace h := ob h; obtain ⟨v6, ev6, h⟩ := h
      refine g_getF (C := RX7) (T := TX7) (N := 4) (ci := 4) (k := 0) (pc' := 25) O dX7_open_22 rfl inX7 (by decide) tw_177 (gN_F ev6) rfl ?_
      replace h := ob h; obtain ⟨v7, ev7, h⟩ := h
      refine g_getF (C := RX3) (T := TX3) (N := 9) (ci := 2) (k := 0) (pc' := 28) O dX7_open_25 rfl inX3 (by decide) tw_106 (gN_F ev7) rfl ?_
      replace h := ob h; obtain ⟨u8, eu8, h⟩ := h
      replace h := ob h; obtain ⟨r9, er9, h⟩ := h
      refine g_callV (y := yX4_length) (ν := mX4_length) (n := 0) (As := []) (b := v7) (st := [.ref this]) (M2 := r9.2) (r1 := (some (.int r9.1))) (pc' := 31) O dX7_open_28 tw_260 tw_55 tw_258 tw_259 tw_257 hyX4_length rfl rfl eu8 (okX4_length er9) (Nat.le_of_ble_eq_true rfl) ⟨Nat.le_of_ble_eq_true rfl, Nat.le_of_ble_eq_true rfl⟩ ⟨Nat.le_of_ble_eq_true rfl, Nat.le_of_ble_eq_true rfl⟩ rfl ?_
      show G κ mX7_open 0 0 31 [(3, .ref a4), (0, .ref this), (1, .int p0), (2, .int p1)] [.int r9.1, .ref this] r9.2
      refine g_aload_n (pc' := 32) 0 O dX7_open_31 rfl rfl rfl ?_
      refine g_iload_n (pc' := 33) 3 O dX7_open_32 rfl rfl rfl ?_
      replace h := ob h; obtain ⟨u10, eu10, h⟩ := h
      replace h := ob h; obtain ⟨r11, er11, h⟩ := h
      refine g_callV (y := yX7_readLine) (ν := mX7_readLine) (n := 3) (As := [.int r9.1, .ref a4, .int p1]) (b := this) (st := []) (M2 := r11.2) (r1 := (some (.int r11.1))) (pc' := 36) O dX7_open_33 tw_304 tw_53 tw_303 tw_0 tw_301 hyX7_readLine rfl rfl eu10 (okX7_readLine er11) (Nat.le_of_ble_eq_true rfl) ⟨Nat.le_of_ble_eq_true rfl, Nat.le_of_ble_eq_true rfl⟩ ⟨Nat.le_of_ble_eq_true rfl, Nat.le_of_ble_eq_true rfl⟩ rfl ?_
      show G κ mX7_open 0 0 36 [(3, .ref a4), (0, .ref this), (1, .int p0), (2, .int p1)] [.int r11.1] r11.2
      refine g_iconst (v := 1) (pc' := 37) O dX7_open_36 (by decide) rfl ?_
      refine g_icmp_ne (tgt := 44) (pc' := 40) O dX7_open_37 (by decide) rfl (fun hc => ?_) (fun hc => ?_)
      · replace h := ine hc h
        refine g_sub (lv' := []) [] rfl ?_
        exact tX7_open_44 O hf h
      · replace h := ip hc h
        refine g_iconst (v := 1) (pc' := 41) O dX7_open_40 (by decide) rfl ?_
        refine g_goto (pc' := 45) O dX7_open_41 (by decide) ?_
        refine g_sub (lv' := []) [] rfl ?_
        exact tX7_open_45 O hf h
