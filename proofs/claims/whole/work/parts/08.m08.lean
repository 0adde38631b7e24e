abbrev mX7_row : MD := (cX7_row, 1, RX7, (some .int), { frames := 2, cells := 0, slots := 0, locals := 58 }, "row")
theorem hyX7_row : yX7_row.cls ≠ "java/lang/invoke/MethodHandle" ∧ yX7_row.cls ≠ "java/lang/invoke/VarHandle" ∧ (parseMethodDescriptor yX7_row.desc).map (fun d => d.parameters.length) = some 0 := by decide +kernel
def fX7_row  (this : Nat) (M : Mem) : Option (Int32 × Mem) :=
  (gN M 4 this 0).bind fun v1 =>
  (ck M 2 v1).bind fun u2 =>
  (fX3_moveLineToRows v1 M).bind fun r3 =>
  some (r3.1, r3.2)
set_option maxHeartbeats 4000000 in
set_option maxRecDepth 100000 in
theorem okX7_row {l : Launch} {p : Int32 × Mem} {this : Nat} {M : Mem} (h : fX7_row this M = some p) : Cn l yX7_row mX7_row [.ref this] M (some (.int p.1)) p.2 := by
  refine Cn.of [(0, .ref this)] (by decide) rfl rfl (Nat.le_of_ble_eq_true rfl) rfl (fun κ _ hf O => ?_)
  unfold fX7_row at h
  refine g_aload_n (pc' := 1) 0 O dX7_row_0 rfl rfl rfl ?_
  replace h := ob h; obtain ⟨v1, ev1, h⟩ := h
  refine g_getF (C := RX7) (T := TX7) (N := 4) (ci := 4) (k := 0) (pc' := 4) O dX7_row_1 rfl inX7 (by decide) tw_177 (gN_F ev1) rfl ?_
  replace h := ob h; obtain ⟨u2, eu2, h⟩ := h
  replace h := ob h; obtain ⟨r3, er3, h⟩ := h
  refine g_callV (y := yX3_moveLineToRows) (ν := mX3_moveLineToRows) (n := 0) (As := []) (b := v1) (st := []) (M2 := r3.2) (r1 := (some (.int r3.1))) (pc' := 7) O dX7_row_4 tw_658 tw_54 tw_656 tw_657 tw_655 hyX3_moveLineToRows rfl rfl eu2 (okX3_moveLineToRows er3) (Nat.le_of_ble_eq_true rfl) ⟨Nat.le_of_ble_eq_true rfl, Nat.le_of_ble_eq_true rfl⟩ ⟨Nat.le_of_ble_eq_true rfl, Nat.le_of_ble_eq_true rfl⟩ rfl ?_
  show G κ mX7_row 0 0 7 [(0, .ref this)] [.int r3.1] r3.2
  cases h
  exact g_ireturn O dX7_row_7 rfl rfl hf (by decide) (by decide)
abbrev mX7_clear : MD := (cX7_clear, 1, RX7, none, { frames := 0, cells := 0, slots := 0, locals := 0 }, "clear")
theorem hyX7_clear : yX7_clear.cls ≠ "java/lang/invoke/MethodHandle" ∧ yX7_clear.cls ≠ "java/lang/invoke/VarHandle" ∧ (parseMethodDescriptor yX7_clear.desc).map (fun d => d.parameters.length) = some 0 := by decide +kernel
def fX7_clear  (this : Nat) (M : Mem) : Option (Mem) :=
  (gN M 4 this 0).bind fun v1 =>
  (pF M 2 v1 6 (.int (0 : Int32))).bind fun M2 =>
  some M2
set_option maxHeartbeats 4000000 in
set_option maxRecDepth 100000 in
theorem okX7_clear {l : Launch} {p : Mem} {this : Nat} {M : Mem} (h : fX7_clear this M = some p) : Cn l yX7_clear mX7_clear [.ref this] M none p := by
  refine Cn.of [(0, .ref this)] (by decide) rfl rfl (Nat.le_of_ble_eq_true rfl) rfl (fun κ _ hf O => ?_)
  unfold fX7_clear at h
  refine g_aload_n (pc' := 1) 0 O dX7_clear_0 rfl rfl rfl ?_
  replace h := ob h; obtain ⟨v1, ev1, h⟩ := h
  refine g_getF (C := RX7) (T := TX7) (N := 4) (ci := 4) (k := 0) (pc' := 4) O dX7_clear_1 rfl inX7 (by decide) tw_177 (gN_F ev1) rfl ?_
  refine g_iconst (v := 0) (pc' := 5) O dX7_clear_4 (by decide) rfl ?_
  replace h := ob h; obtain ⟨M2, eM2, h⟩ := h
  refine g_putF (C := RX3) (T := TX3) (N := 9) (ci := 2) (k := 6) (pc' := 8) O dX7_clear_5 rfl inX3 (by decide) tw_116 tyX3 tyX3_ok nmX3 rfl rfl rfl rfl eM2 rfl ?_
  cases h
  exact g_vreturn O dX7_clear_8 rfl hf (by decide) (by decide)
abbrev mX7_rowValue : MD := (cX7_rowValue, 6, RX7, (some .long), { frames := 5, cells := 0, slots := 0, locals := 118 }, "rowValue")
theorem hyX7_rowValue : yX7_rowValue.cls ≠ "java/lang/invoke/MethodHandle" ∧ yX7_rowValue.cls ≠ "java/lang/invoke/VarHandle" ∧ (parseMethodDescriptor yX7_rowValue.desc).map (fun d => d.parameters.length) = some 3 := by decide +kernel
def fX7_rowValue  (this : Nat) (p0 : Int32) (p1 : Nat) (p2 : Int32) (M : Mem) : Option (Int64 × Mem) :=
  (gN M 4 this 0).bind fun v1 =>
  (ck M 2 v1).bind fun u2 =>
  (fX3_rowStart v1 p0 M).bind fun r3 =>
  (gN r3.2 4 this 2).bind fun v4 =>
  (gN r3.2 4 this 0).bind fun v5 =>
  (gN r3.2 2 v5 4).bind fun v6 =>
  (gN r3.2 4 this 0).bind fun v7 =>
  (ck r3.2 2 v7).bind fun u8 =>
  (fX3_rowLength v7 p0 r3.2).bind fun r9 =>
  (ck r9.2 1 v4).bind fun u10 =>
  (fX2_read v4 v6 r3.1 (r3.1 + r9.1) p1 p2 r9.2).bind fun r11 =>
  (ck r11.2 4 this).bind fun u12 =>
  (fX7_countedValue this r11.1 p2 r11.2).bind fun r13 =>
  some (r13.1, r13.2)
set_option maxHeartbeats 4000000 in
set_option maxRecDepth 100000 in
theorem okX7_rowValue {l : Launch} {p : Int64 × Mem} {this : Nat} {p0 : Int32} {p1 : Nat} {p2 : Int32} {M : Mem} (h : fX7_rowValue this p0 p1 p2 M = some p) : Cn l yX7_rowValue mX7_rowValue [.ref this, .int p0, .ref p1, .int p2] M (some (.long p.1)) p.2 := by
  refine Cn.of [(0, .ref this), (1, .int p0), (2, .ref p1), (3, .int p2)] (by decide) rfl rfl (Nat.le_of_ble_eq_true rfl) rfl (fun κ _ hf O => ?_)
  unfold fX7_rowValue at h
  refine g_aload_n (pc' := 1) 0 O dX7_rowValue_0 rfl rfl rfl ?_
  replace h := ob h; obtain ⟨v1, ev1, h⟩ := h
  refine g_getF (C := RX7) (T := TX7) (N := 4) (ci := 4) (k := 0) (pc' := 4) O dX7_rowValue_1 rfl inX7 (by decide) tw_177 (gN_F ev1) rfl ?_
  refine g_iload_n (pc' := 5) 1 O dX7_rowValue_4 rfl rfl rfl ?_
  replace h := ob h; obtain ⟨u2, eu2, h⟩ := h
  replace h := ob h; obtain ⟨r3, er3, h⟩ := h
  refine g_callV (y := yX3_rowStart) (ν := mX3_rowStart) (n := 1) (As := [.int p0]) (b := v1) (st := []) (M2 := r3.2) (r1 := (some (.int r3.1))) (pc' := 8) O dX7_rowValue_5 tw_663 tw_54 tw_661 tw_662 tw_678 hyX3_rowStart rfl rfl eu2 (okX3_rowStart er3) (Nat.le_of_ble_eq_true rfl) ⟨Nat.le_of_ble_eq_true rfl, Nat.le_of_ble_eq_true rfl⟩ ⟨Nat.le_of_ble_eq_true rfl, Nat.le_of_ble_eq_true rfl⟩ rfl ?_
  show G κ mX7_rowValue 0 0 8 [(0, .ref this), (1, .int p0), (2, .ref p1), (3, .int p2)] [.int r3.1] r3.2
  refine g_istore (lv' := [(4, .int r3.1), (0, .ref this), (1, .int p0), (2, .ref p1), (3, .int p2)]) (pc' := 10) O dX7_rowValue_8 (by decide) rfl rfl ?_
  refine g_aload_n (pc' := 11) 1 O dX7_rowValue_10 rfl rfl rfl ?_
  replace h := ob h; obtain ⟨v4, ev4, h⟩ := h
  refine g_getF (C := RX7) (T := TX7) (N := 4) (ci := 4) (k := 2) (pc' := 14) O dX7_rowValue_11 rfl inX7 (by decide) tw_179 (gN_F ev4) rfl ?_
  refine g_aload_n (pc' := 15) 1 O dX7_rowValue_14 rfl rfl rfl ?_
  replace h := ob h; obtain ⟨v5, ev5, h⟩ := h
  refine g_getF (C := RX7) (T := TX7) (N := 4) (ci := 4) (k := 0) (pc' := 18) O dX7_rowValue_15 rfl inX7 (by decide) tw_177 (gN_F ev5) rfl ?_
  replace h := ob h; obtain ⟨v6, ev6, h⟩ := h
  refine g_getF (C := RX3) (T := TX3) (N := 9) (ci := 2) (k := 4) (pc' := 21) O dX7_rowValue_18 rfl inX3 (by decide) tw_113 (gN_F ev6) rfl ?_
  refine g_iload (pc' := 23) 0 O dX7_rowValue_21 rfl rfl ?_
  refine g_iload (pc' := 25) 0 O dX7_rowValue_23 rfl rfl ?_
  refine g_aload_n (pc' := 26) 1 O dX7_rowValue_25 rfl rfl rfl ?_
  replace h := ob h; obtain ⟨v7, ev7, h⟩ := h
  refine g_getF (C := RX7) (T := TX7) (N := 4) (ci := 4) (k := 0) (pc' := 29) O dX7_rowValue_26 rfl inX7 (by decide) tw_177 (gN_F ev7) rfl ?_
  refine g_iload_n (pc' := 30) 2 O dX7_rowValue_29 rfl rfl rfl ?_
  replace h := ob h; obtain ⟨u8, eu8, h⟩ := h
  replace h := ob h; obtain ⟨r9, er9, h⟩ := h
  refine g_callV (y := yX3_rowLength) (ν := mX3_rowLength) (n := 1) (As := [.int p0]) (b := v7) (st := [.int r3.1, .int r3.1, .ref v6, .ref v4]) (M2 := r9.2) (r1 := (some (.int r9.1))) (pc' := 33) O dX7_rowValue_30 tw_682 tw_54 tw_680 tw_681 tw_679 hyX3_rowLength rfl rfl eu8 (okX3_rowLength er9) (Nat.le_of_ble_eq_true rfl) ⟨Nat.le_of_ble_eq_true rfl, Nat.le_of_ble_eq_true rfl⟩ ⟨Nat.le_of_ble_eq_true rfl, Nat.le_of_ble_eq_true rfl⟩ rfl ?_
  show G κ mX7_rowValue 0 0 33 [(4, .int r3.1), (0, .ref this), (1, .int p0), (2, .ref p1), (3, .int p2)] [.int r9.1, .int r3.1, .int r3.1, .ref v6, .ref v4] r9.2
  refine g_iadd (pc' := 34) O dX7_rowValue_33 rfl ?_
  refine g_aload_n (pc' := 35) 3 O dX7_rowValue_34 rfl rfl rfl ?_
  refine g_iload_n (pc' := 36) 4 O dX7_rowValue_35 rfl rfl rfl ?_
  replace h := ob h; obtain ⟨u10, eu10, h⟩ := h
  replace h := ob h; obtain ⟨r11, er11, h⟩ := h
  refine g_callV (y := yX2_read) (ν := mX2_read) (n := 5) (As := [.ref v6, .int r3.1, .int (r3.1 + r9.1), .ref p1, .int p2]) (b := v4) (st := []) (M2 := r11.2) (r1 := (some (.int r11.1))) (pc' := 39) O dX7_rowValue_36 tw_308 tw_57 tw_306 tw_307 tw_305 hyX2_read rfl rfl eu10 (okX2_read er11) (Nat.le_of_ble_eq_true rfl) ⟨Nat.le_of_ble_eq_true rfl, Nat.le_of_ble_eq_true rfl⟩ ⟨Nat.le_of_ble_eq_true rfl, Nat.le_of_ble_eq_true rfl⟩ rfl ?_
  show G κ mX7_rowValue 0 0 39 [(4, .int r3.1), (0, .ref this), (1, .int p0), (2, .ref p1), (3, .int p2)] [.int r11.1] r11.2
  refine g_istore (lv' := [(5, .int r11.1), (4, .int r3.1), (0, .ref this), (1, .int p0), (2, .ref p1), (3, .int p2)]) (pc' := 41) O dX7_rowValue_39 (by decide) rfl rfl ?_
  refine g_aload_n (pc' := 42) 2 O dX7_rowValue_41 rfl rfl rfl ?_
  refine g_iload (pc' := 44) 0 O dX7_rowValue_42 rfl rfl ?_
  refine g_iload_n (pc' := 45) 5 O dX7_rowValue_44 rfl rfl rfl ?_
  replace h := ob h; obtain ⟨u12, eu12, h⟩ := h
  replace h := ob h; obtain ⟨r13, er13, h⟩ := h
  refine g_callV (y := yX7_countedValue) (ν := mX7_countedValue) (n := 2) (As := [.int r11.1, .int p2]) (b := this) (st := []) (M2 := r13.2) (r1 := (some (.long r13.1))) (pc' := 48) O dX7_rowValue_45 tw_424 tw_53 tw_423 tw_17 tw_421 hyX7_countedValue rfl rfl eu12 (okX7_countedValue er13) (Nat.le_of_ble_eq_true rfl) ⟨Nat.le_of_ble_eq_true rfl, Nat.le_of_ble_eq_true rfl⟩ ⟨Nat.le_of_ble_eq_true rfl, Nat.le_of_ble_eq_true rfl⟩ rfl ?_
  show G κ mX7_rowValue 0 0 48 [(5, .int r11.1), (4, .int r3.1), (0, .ref this), (1, .int p0), (2, .ref p1), (3, .int p2)] [.long r13.1] r13.2
  cases h
  exact g_lreturn O dX7_rowValue_48 rfl hf (by decide) (by decide)
abbrev mX7_fit : MD := (cX7_fit, 7, RX7, (some .int), { frames := 6, cells := 0, slots := 0, locals := 143 }, "fit")
theorem hyX7_fit : yX7_fit.cls ≠ "java/lang/invoke/MethodHandle" ∧ yX7_fit.cls ≠ "java/lang/invoke/VarHandle" ∧ (parseMethodDescriptor yX7_fit.desc).map (fun d => d.parameters.length) = some 1 := by decide +kernel
def fX7_fit_103 (k23 : Nat → Int32 → Int32 → Int32 → Mem → Option (Int32 × Mem)) (x0 : Nat) (x1 : Int32) (x2 : Int32) (x3 : Int32) (M : Mem) : Option (Int32 × Mem) :=
  k23 x0 x1 x2 (x3 + (1 : Int32)) M
set_option maxHeartbeats 4000000 in
set_option maxRecDepth 100000 in
theorem tX7_fit_103 {κ : KT} {p : Int32 × Mem} (O : OkK κ mX7_fit) (hf : κ.2.2.2.2.2.2.2.2.2.2.2.2.2 = (some (.int p.1), p.2)) {k23 : Nat → Int32 → Int32 → Int32 → Mem → Option (Int32 × Mem)} (hk23 : ∀ (x0 : Nat) (x1 : Int32) (x2 : Int32) (x3 : Int32) (M : Mem), k23 x0 x1 x2 x3 M = some p → G κ mX7_fit 0 0 23 [(0, .ref x0), (1, .int x1), (2, .int x2), (3, .int x3)] [] M) {x0 : Nat} {x1 : Int32} {x2 : Int32} {x3 : Int32} {M : Mem} (h : fX7_fit_103 k23 x0 x1 x2 x3 M = some p) : G κ mX7_fit 0 0 103 [(0, .ref x0), (1, .int x1), (2, .int x2), (3, .int x3)] [] M := by
  unfold fX7_fit_103 at h
  refine g_iinc (q := 3) (v := x3 + (1 : Int32)) (lv' := [(3, .int (x3 + (1 : Int32))), (0, .ref x0), (1, .int x1), (2, .int x2)]) (pc' := 106) O dX7_fit_103 rfl rfl (by decide) rfl rfl ?_
  refine g_goto (pc' := 23) O dX7_fit_106 (by decide) ?_
  refine g_sub (lv' := [(0, .ref x0), (1, .int x1), (2, .int x2), (3, .int (x3 + (1 : Int32)))]) [1, 2, 3, 0] rfl ?_
  exact hk23 x0 x1 x2 (x3 + (1 : Int32)) M h
def fX7_fit_97 (k23 : Nat → Int32 → Int32 → Int32 → Mem → Option (Int32 × Mem)) (k52 : Nat → Int32 → Int32 → Int32 → (Option Nat) → Int32 → Int32 → Mem → Option (Int32 × Mem)) (x0 : Nat) (x1 : Int32) (x2 : Int32) (x3 : Int32) (x4 : Nat) (x5 : Int32) (x6 : Int32) (M : Mem) : Option (Int32 × Mem) :=
  k52 x0 x1 x2 x3 (some x4) x5 (x6 + (1 : Int32)) M
set_option maxHeartbeats 4000000 in
set_option maxRecDepth 100000 in
theorem tX7_fit_97 {κ : KT} {p : Int32 × Mem} (O : OkK κ mX7_fit) (hf : κ.2.2.2.2.2.2.2.2.2.2.2.2.2 = (some (.int p.1), p.2)) {k23 : Nat → Int32 → Int32 → Int32 → Mem → Option (Int32 × Mem)} (hk23 : ∀ (x0 : Nat) (x1 : Int32) (x2 : Int32) (x3 : Int32) (M : Mem), k23 x0 x1 x2 x3 M = some p → G κ mX7_fit 0 0 23 [(0, .ref x0), (1, .int x1), (2, .int x2), (3, .int x3)] [] M) {k52 : Nat → Int32 → Int32 → Int32 → (Option Nat) → Int32 → Int32 → Mem → Option (Int32 × Mem)} (hk52 : ∀ (x0 : Nat) (x1 : Int32) (x2 : Int32) (x3 : Int32) (x4 : Option Nat) (x5 : Int32) (x6 : Int32) (M : Mem), k52 x0 x1 x2 x3 x4 x5 x6 M = some p → G κ mX7_fit 0 0 52 [(0, .ref x0), (1, .int x1), (2, .int x2), (3, .int x3), (4, va_rf x4), (5, .int x5), (6, .int x6)] [] M) {x0 : Nat} {x1 : Int32} {x2 : Int32} {x3 : Int32} {x4 : Nat} {x5 : Int32} {x6 : Int32} {M : Mem} (h : fX7_fit_97 k23 k52 x0 x1 x2 x3 x4 x5 x6 M = some p) : G κ mX7_fit 0 0 97 [(0, .ref x0), (1, .int x1), (2, .int x2), (3, .int x3), (4, .ref x4), (5, .int x5), (6, .int x6)] [] M := by
  unfold fX7_fit_97 at h
  refine g_iinc (q := 6) (v := x6 + (1 : Int32)) (lv' := [(6, .int (x6 + (1 : Int32))), (0, .ref x0), (1, .int x1), (2, .int x2), (3, .int x3), (4, .ref x4), (5, .int x5)]) (pc' := 100) O dX7_fit_97 rfl rfl (by decide) rfl rfl ?_
  refine g_goto (pc' := 52) O dX7_fit_100 (by decide) ?_
  refine g_sub (lv' := [(0, .ref x0), (1, .int x1), (2, .int x2), (3, .int x3), (4, .ref x4), (5, .int x5), (6, .int (x6 + (1 : Int32)))]) [1, 2, 3, 4, 5, 6, 0] rfl ?_
  exact hk52 x0 x1 x2 x3 (some x4) x5 (x6 + (1 : Int32)) M h
def fX7_fit_52 (k23 : Nat → Int32 → Int32 → Int32 → Mem → Option (Int32 × Mem)) : Nat → Nat → Int32 → Int32 → Int32 → (Option Nat) → Int32 → Int32 → Mem → Option (Int32 × Mem)
  | 0, _, _, _, _, _, _, _, _ => none
  | n + 1, x0, x1, x2, x3, x4, x5, x6, M =>
    (gN M 4 x0 0).bind fun v1 =>
    (gI M 2 v1 6).bind fun v2 =>
    if v2 ≤ x6 then (fX7_fit_103 k23 x0 x1 x2 x3 M)
    else (Option.elim x4 (fX7_fit_103 k23 x0 x1 x2 x3 M)
    (fun a3 => if (x2 &&& x5) = 0 then (fX7_fit_103 k23 x0 x1 x2 x3 M)
    else ((ck M 4 x0).bind fun u4 =>
    (fX7_rowValue x0 x6 a3 x1 M).bind fun r5 =>
    if (lg_cmp r5.1 (-9223372036854775808 : Int64)) = 0 then (fX7_fit_97 k23 (fX7_fit_52 k23 n) x0 x1 (x2 - x5) x3 a3 x5 x6 r5.2)
    else (fX7_fit_97 k23 (fX7_fit_52 k23 n) x0 x1 x2 x3 a3 x5 x6 r5.2))))
set_option maxHeartbeats 4000000 in
set_option maxRecDepth 100000 in
theorem tX7_fit_52 {κ : KT} {p : Int32 × Mem} (O : OkK κ mX7_fit) (hf : κ.2.2.2.2.2.2.2.2.2.2.2.2.2 = (some (.int p.1), p.2)) {k23 : Nat → Int32 → Int32 → Int32 → Mem → Option (Int32 × Mem)} (hk23 : ∀ (x0 : Nat) (x1 : Int32) (x2 : Int32) (x3 : Int32) (M : Mem), k23 x0 x1 x2 x3 M = some p → G κ mX7_fit 0 0 23 [(0, .ref x0), (1, .int x1), (2, .int x2), (3, .int x3)] [] M) : ∀ (n : Nat) (x0 : Nat) (x1 : Int32) (x2 : Int32) (x3 : Int32) (x4 : Option Nat) (x5 : Int32) (x6 : Int32) (M : Mem), fX7_fit_52 k23 n x0 x1 x2 x3 x4 x5 x6 M = some p → G κ mX7_fit 0 0 52 [(0, .ref x0), (1, .int x1), (2, .int x2), (3, .int x3), (4, va_rf x4), (5, .int x5), (6, .int x6)] [] M := by
  intro n
  induction n with
  | zero => intro x0 x1 x2 x3 x4 x5 x6 M h; cases h
  | succ n ih =>
    intro x0 x1 x2 x3 x4 x5 x6 M h
    rw [fX7_fit_52] at h
    refine g_iload (pc' := 54) 6 O dX7_fit_52 rfl rfl ?_
    refine g_aload_n (pc' := 55) 0 O dX7_fit_54 rfl rfl rfl ?_
    replace h := ob h; obtain ⟨v1, ev1, h⟩ := h
    refine g_getF (C := RX7) (T := TX7) (N := 4) (ci := 4) (k := 0) (pc' := 58) O dX7_fit_55 rfl inX7 (by decide) tw_177 (gN_F ev1) rfl ?_
    replace h := ob h; obtain ⟨v2, ev2, h⟩ := h
    refine g_getF (C := RX3) (T := TX3) (N := 9) (ci := 2) (k := 6) (pc' := 61) O dX7_fit_58 rfl inX3 (by decide) tw_116 (gI_F ev2) rfl ?_
    refine g_icmp_ge (tgt := 103) (pc' := 64) O dX7_fit_61 (by decide) rfl (fun hc => ?_) (fun hc => ?_)
    · replace h := ip hc h
      refine g_sub (lv' := [(0, .ref x0), (1, .int x1), (2, .int x2), (3, .int x3)]) [0, 1, 2, 3] rfl ?_
      exact tX7_fit_103 O hf hk23 h
    · replace h := ine hc h
      refine g_aloadO (pc' := 66) 4 O dX7_fit_64 rfl rfl ?_
      refine g_ifnull (tgt := 103) (pc' := 69) O dX7_fit_66 (by decide) rfl (fun ho => ?_) (fun a3 ho => ?_)
      · replace h := oe_none ho h
        try rw [ho]
        show G κ mX7_fit 0 0 103 [(0, .ref x0), (1, .int x1), (2, .int x2), (3, .int x3), (4, va_rf none), (5, .int x5), (6, .int x6)] [] M
        refine g_sub (lv' := [(0, .ref x0), (1, .int x1), (2, .int x2), (3, .int x3)]) [0, 1, 2, 3] rfl ?_
        exact tX7_fit_103 O hf hk23 h
      · replace h := oe_some ho h
        try rw [ho]
        show G κ mX7_fit 0 0 69 [(0, .ref x0), (1, .int x1), (2, .int x2), (3, .int x3), (4, .ref a3), (5, .int x5), (6, .int x6)] [] M
        refine g_iload_n (pc' := 70) 2 O dX7_fit_69 rfl rfl rfl ?_
        refine g_iload (pc' := 72) 5 O dX7_fit_70 rfl rfl ?_
        refine g_iand (pc' := 73) O dX7_fit_72 rfl ?_
        refine g_if_eq (tgt := 103) (pc' := 76) O dX7_fit_73 (by decide) rfl (fun hc => ?_) (fun hc => ?_)
        · replace h := ip hc h
          refine g_sub (lv' := [(0, .ref x0), (1, .int x1), (2, .int x2), (3, .int x3)]) [0, 1, 2, 3] rfl ?_
          exact tX7_fit_103 O hf hk23 h
        · replace h := ine hc h
          refine g_aload_n (pc' := 77) 0 O dX7_fit_76 rfl rfl rfl ?_
          refine g_iload (pc' := 79) 6 O dX7_fit_77 rfl rfl ?_
          refine g_aload (pc' := 81) 4 O dX7_fit_79 rfl rfl ?_
          refine g_iload_n (pc' := 82) 1 O dX7_fit_81 rfl rfl rfl ?_
          replace h := ob h; obtain ⟨u4, eu4, h⟩ := h
          replace h := ob h; obtain ⟨r5, er5, h⟩ := h
          refine g_callV (y := yX7_rowValue) (ν := mX7_rowValue) (n := 3) (As := [.int x6, .ref a3, .int x1]) (b := x0) (st := []) (M2 := r5.2) (r1 := (some (.long r5.1))) (pc' := 85) O dX7_fit_82 tw_677 tw_53 tw_676 tw_18 tw_674 hyX7_rowValue rfl rfl eu4 (okX7_rowValue er5) (Nat.le_of_ble_eq_true rfl) ⟨Nat.le_of_ble_eq_true rfl, Nat.le_of_ble_eq_true rfl⟩ ⟨Nat.le_of_ble_eq_true rfl, Nat.le_of_ble_eq_true rfl⟩ rfl ?_
          show G κ mX7_fit 0 0 85 [(0, .ref x0), (1, .int x1), (2, .int x2), (3, .int x3), (4, .ref a3), (5, .int x5), (6, .int x6)] [.long r5.1] r5.2
          refine g_ldc2 (v := -9223372036854775808) (pc' := 88) O dX7_fit_85 tw_300 rfl ?_
          refine g_lcmp (pc' := 89) O dX7_fit_88 rfl ?_
          refine g_if_ne (tgt := 97) (pc' := 92) O dX7_fit_89 (by decide) rfl (fun hc => ?_) (fun hc => ?_)
          · replace h := ine hc h
            exact tX7_fit_97 O hf hk23 ih h
          · replace h := ip hc h
            refine g_iload_n (pc' := 93) 2 O dX7_fit_92 rfl rfl rfl ?_
            refine g_iload (pc' := 95) 5 O dX7_fit_93 rfl rfl ?_
            refine g_isub (pc' := 96) O dX7_fit_95 rfl ?_
            refine g_istore_n (lv' := [(2, .int (x2 - x5)), (0, .ref x0), (1, .int x1), (3, .int x3), (4, .ref a3), (5, .int x5), (6, .int x6)]) (pc' := 97) O dX7_fit_96 rfl (by decide) rfl rfl ?_
            refine g_sub (lv' := [(0, .ref x0), (1, .int x1), (2, .int (x2 - x5)), (3, .int x3), (4, .ref a3), (5, .int x5), (6, .int x6)]) [1, 2, 0, 3, 4, 5, 6] rfl ?_
            exact tX7_fit_97 O hf hk23 ih h
def fX7_fit_23  : Nat → Nat → Int32 → Int32 → Int32 → Mem → Option (Int32 × Mem)
  | 0, _, _, _, _, _ => none
  | n + 1, x0, x1, x2, x3, M =>
    (gN M 4 x0 0).bind fun v1 =>
    (gI M 2 v1 3).bind fun v2 =>
    if v2 ≤ x3 then (some (x2, M))
    else ((gN M 4 x0 0).bind fun v3 =>
    (ck M 2 v3).bind fun u4 =>
    (fX3_landAt v3 x3 M).bind fun r5 =>
    fX7_fit_52 (fX7_fit_23 n) FU x0 x1 x2 x3 r5.1 ((1 : Int32) <<< (x3 &&& 31)) (0 : Int32) r5.2)
set_option maxHeartbeats 4000000 in
set_option maxRecDepth 100000 in
theorem tX7_fit_23 {κ : KT} {p : Int32 × Mem} (O : OkK κ mX7_fit) (hf : κ.2.2.2.2.2.2.2.2.2.2.2.2.2 = (some (.int p.1), p.2))  : ∀ (n : Nat) (x0 : Nat) (x1 : Int32) (x2 : Int32) (x3 : Int32) (M : Mem), fX7_fit_23  n x0 x1 x2 x3 M = some p → G κ mX7_fit 0 0 23 [(0, .ref x0), (1, .int x1), (2, .int x2), (3, .int x3)] [] M := by
  intro n
  induction n with
  | zero => intro x0 x1 x2 x3 M h; cases h
  | succ n ih =>
    intro x0 x1 x2 x3 M h
    rw [fX7_fit_23] at h
    refine g_iload_n (pc' := 24) 3 O dX7_fit_23 rfl rfl rfl ?_
    refine g_aload_n (pc' := 25) 0 O dX7_fit_24 rfl rfl rfl ?_
    replace h := ob h; obtain ⟨v1, ev1, h⟩ := h
    refine g_getF (C := RX7) (T := TX7) (N := 4) (ci := 4) (k := 0) (pc' := 28) O dX7_fit_25 rfl inX7 (by decide) tw_177 (gN_F ev1) rfl ?_
    replace h := ob h; obtain ⟨v2, ev2, h⟩ := h
    refine g_getF (C := RX3) (T := TX3) (N := 9) (ci := 2) (k := 3) (pc' := 31) O dX7_fit_28 rfl inX3 (by decide) tw_110 (gI_F ev2) rfl ?_
    refine g_icmp_ge (tgt := 109) (pc' := 34) O dX7_fit_31 (by decide) rfl (fun hc => ?_) (fun hc => ?_)
    · replace h := ip hc h
      refine g_iload_n (pc' := 110) 2 O dX7_fit_109 rfl rfl rfl ?_
      cases h
      exact g_ireturn O dX7_fit_110 rfl rfl hf (by decide) (by decide)
    · replace h := ine hc h
      refine g_aload_n (pc' := 35) 0 O dX7_fit_34 rfl rfl rfl ?_
      replace h := ob h; obtain ⟨v3, ev3, h⟩ := h
      refine g_getF (C := RX7) (T := TX7) (N := 4) (ci := 4) (k := 0) (pc' := 38) O dX7_fit_35 rfl inX7 (by decide) tw_177 (gN_F ev3) rfl ?_
      refine g_iload_n (pc' := 39) 3 O dX7_fit_38 rfl rfl rfl ?_
      replace h := ob h; obtain ⟨u4, eu4, h⟩ := h
      replace h := ob h; obtain ⟨r5, er5, h⟩ := h
      refine g_callV (y := yX3_landAt) (ν := mX3_landAt) (n := 1) (As := [.int x3]) (b := v3) (st := []) (M2 := r5.2) (r1 := (some (va_rf r5.1))) (pc' := 42) O dX7_fit_39 tw_299 tw_54 tw_297 tw_298 tw_296 hyX3_landAt rfl rfl eu4 (okX3_landAt er5) (Nat.le_of_ble_eq_true rfl) ⟨Nat.le_of_ble_eq_true rfl, Nat.le_of_ble_eq_true rfl⟩ ⟨Nat.le_of_ble_eq_true rfl, Nat.le_of_ble_eq_true rfl⟩ rfl ?_
      show G κ mX7_fit 0 0 42 [(0, .ref x0), (1, .int x1), (2, .int x2), (3, .int x3)] [va_rf r5.1] r5.2
      refine g_astoreO (lv' := [(4, va_rf r5.1), (0, .ref x0), (1, .int x1), (2, .int x2), (3, .int x3)]) (pc' := 44) O dX7_fit_42 (by decide) rfl rfl ?_
      refine g_iconst (v := 1) (pc' := 45) O dX7_fit_44 (by decide) rfl ?_
      refine g_iload_n (pc' := 46) 4 O dX7_fit_45 rfl rfl rfl ?_
      refine g_ishl (pc' := 47) O dX7_fit_46 rfl ?_
      refine g_istore (lv' := [(5, .int ((1 : Int32) <<< (x3 &&& 31))), (4, va_rf r5.1), (0, .ref x0), (1, .int x1), (2, .int x2), (3, .int x3)]) (pc' := 49) O dX7_fit_47 (by decide) (by simp [cat_rf]) rfl ?_
      refine g_iconst (v := 0) (pc' := 50) O dX7_fit_49 (by decide) rfl ?_
      refine g_istore (lv' := [(6, .int (0 : Int32)), (5, .int ((1 : Int32) <<< (x3 &&& 31))), (4, va_rf r5.1), (0, .ref x0), (1, .int x1), (2, .int x2), (3, .int x3)]) (pc' := 52) O dX7_fit_50 (by decide) rfl rfl ?_
      refine g_sub (lv' := [(0, .ref x0), (1, .int x1), (2, .int x2), (3, .int x3), (4, va_rf r5.1), (5, .int ((1 : Int32) <<< (x3 &&& 31))), (6, .int (0 : Int32))]) [3, 4, 5, 6, 2, 1, 0] rfl ?_
      exact tX7_fit_52 O hf ih FU x0 x1 x2 x3 r5.1 ((1 : Int32) <<< (x3 &&& 31)) (0 : Int32) r5.2 h
def fX7_fit  (this : Nat) (p0 : Int32) (M : Mem) : Option (Int32 × Mem) :=
  (fX7_isKind p0 M).bind fun r1 =>
  if r1.1 = 0 then (some ((-1 : Int32), r1.2))
  else ((gN r1.2 4 this 0).bind fun v2 =>
  (gI r1.2 2 v2 3).bind fun v3 =>
  fX7_fit_23 FU this p0 (((1 : Int32) <<< (v3 &&& 31)) - (1 : Int32)) (0 : Int32) r1.2)
set_option maxHeartbeats 4000000 in
set_option maxRecDepth 100000 in
theorem okX7_fit {l : Launch} {p : Int32 × Mem} {this : Nat} {p0 : Int32} {M : Mem} (h : fX7_fit this p0 M = some p) : Cn l yX7_fit mX7_fit [.ref this, .int p0] M (some (.int p.1)) p.2 := by
  refine Cn.of [(0, .ref this), (1, .int p0)] (by decide) rfl rfl (Nat.le_of_ble_eq_true rfl) rfl (fun κ _ hf O => ?_)
  unfold fX7_fit at h
  refine g_iload_n (pc' := 1) 1 O dX7_fit_0 rfl rfl rfl ?_
  replace h := ob h; obtain ⟨r1, er1, h⟩ := h
  refine g_callS (y := yX7_isKind) (ν := mX7_isKind) (n := 1) (As := [.int p0]) (b := 0) (st := []) (M2 := r1.2) (r1 := (some (.int r1.1))) (pc' := 4) O dX7_fit_1 tw_286 tw_53 tw_285 tw_284 hyX7_isKind rfl (okX7_isKind er1) (Nat.le_of_ble_eq_true rfl) ⟨Nat.le_of_ble_eq_true rfl, Nat.le_of_ble_eq_true rfl⟩ ⟨Nat.le_of_ble_eq_true rfl, Nat.le_of_ble_eq_true rfl⟩ rfl ?_
  show G κ mX7_fit 0 0 4 [(0, .ref this), (1, .int p0)] [.int r1.1] r1.2
  refine g_if_ne (tgt := 9) (pc' := 7) O dX7_fit_4 (by decide) rfl (fun hc => ?_) (fun hc => ?_)
  · replace h := ine hc h
    refine g_iconst (v := 1) (pc' := 10) O dX7_fit_9 (by decide) rfl ?_
    refine g_aload_n (pc' := 11) 0 O dX7_fit_10 rfl rfl rfl ?_
    replace h := ob h; obtain ⟨v2, ev2, h⟩ := h
    refine g_getF (C := RX7) (T := TX7) (N := 4) (ci := 4) (k := 0) (pc' := 14) O dX7_fit_11 rfl inX7 (by decide) tw_177 (gN_F ev2) rfl ?_
    replace h := ob h; obtain ⟨v3, ev3, h⟩ := h
    refine g_getF (C := RX3) (T := TX3) (N := 9) (ci := 2) (k := 3) (pc' := 17) O dX7_fit_14 rfl inX3 (by decide) tw_110 (gI_F ev3) rfl ?_
    refine g_ishl (pc' := 18) O dX7_fit_17 rfl ?_
    refine g_iconst (v := 1) (pc' := 19) O dX7_fit_18 (by decide) rfl ?_
    refine g_isub (pc' := 20) O dX7_fit_19 rfl ?_
    refine g_istore_n (lv' := [(2, .int (((1 : Int32) <<< (v3 &&& 31)) - (1 : Int32))), (0, .ref this), (1, .int p0)]) (pc' := 21) O dX7_fit_20 rfl (by decide) rfl rfl ?_
    refine g_iconst (v := 0) (pc' := 22) O dX7_fit_21 (by decide) rfl ?_
    refine g_istore_n (lv' := [(3, .int (0 : Int32)), (2, .int (((1 : Int32) <<< (v3 &&& 31)) - (1 : Int32))), (0, .ref this), (1, .int p0)]) (pc' := 23) O dX7_fit_22 rfl (by decide) rfl rfl ?_
    refine g_sub (lv' := [(0, .ref this), (1, .int p0), (2, .int (((1 : Int32) <<< (v3 &&& 31)) - (1 : Int32))), (3, .int (0 : Int32))]) [2, 3, 1, 0] rfl ?_
    exact tX7_fit_23 O hf FU this p0 (((1 : Int32) <<< (v3 &&& 31)) - (1 : Int32)) (0 : Int32) r1.2 h
  · replace h := ip hc h
    refine g_iconst (v := -1) (pc' := 8) O dX7_fit_7 (by decide) rfl ?_
    cases h
    exact g_ireturn O dX7_fit_8 rfl rfl hf (by decide) (by decide)
abbrev mX7_misfit : MD := (cX7_misfit, 5, RX7, (some .int), { frames := 6, cells := 0, slots := 0, locals := 143 }, "misfit")
theorem hyX7_misfit : yX7_misfit.cls ≠ "java/lang/invoke/MethodHandle" ∧ yX7_misfit.cls ≠ "java/lang/invoke/VarHandle" ∧ (parseMethodDescriptor yX7_misfit.desc).map (fun d => d.parameters.length) = some 2 := by decide +kernel
def fX7_misfit_25  : Nat → Nat → Int32 → Nat → Int32 → Mem → Option (Int32 × Mem)
  | 0, _, _, _, _, _ => none
  | n + 1, x0, x2, x3, x4, M =>
    (gN M 4 x0 0).bind fun v1 =>
    (gI M 2 v1 6).bind fun v2 =>
    if v2 ≤ x4 then (some ((-1 : Int32), M))
    else ((ck M 4 x0).bind fun u3 =>
    (fX7_rowValue x0 x4 x3 x2 M).bind fun r4 =>
    if (lg_cmp r4.1 (-9223372036854775808 : Int64)) = 0 then (some (x4, r4.2))
    else (fX7_misfit_25 n x0 x2 x3 (x4 + (1 : Int32)) r4.2))
set_option maxHeartbeats 4000000 in
set_option maxRecDepth 100000 in
theorem tX7_misfit_25 {κ : KT} {p : Int32 × Mem} (O : OkK κ mX7_misfit) (hf : κ.2.2.2.2.2.2.2.2.2.2.2.2.2 = (some (.int p.1), p.2))  : ∀ (n : Nat) (x0 : Nat) (x2 : Int32) (x3 : Nat) (x4 : Int32) (M : Mem), fX7_misfit_25  n x0 x2 x3 x4 M = some p → G κ mX7_misfit 0 0 25 [(0, .ref x0), (2, .int x2), (3, .ref x3), (4, .int x4)] [] M := by
  intro n
  induction n with
  | zero => intro x0 x2 x3 x4 M h; cases h
  | succ n ih =>
    intro x0 x2 x3 x4 M h
    rw [fX7_misfit_25] at h
    refine g_iload (pc' := 27) 3 O dX7_misfit_25 rfl rfl ?_
    refine g_aload_n (pc' := 28) 0 O dX7_misfit_27 rfl rfl rfl ?_
    replace h := ob h; obtain ⟨v1, ev1, h⟩ := h
    refine g_getF (C := RX7) (T := TX7) (N := 4) (ci := 4) (k := 0) (pc' := 31) O dX7_misfit_28 rfl inX7 (by decide) tw_177 (gN_F ev1) rfl ?_
    replace h := ob h; obtain ⟨v2, ev2, h⟩ := h
    refine g_getF (C := RX3) (T := TX3) (N := 9) (ci := 2) (k := 6) (pc' := 34) O dX7_misfit_31 rfl inX3 (by decide) tw_116 (gI_F ev2) rfl ?_
    refine g_icmp_ge (tgt := 61) (pc' := 37) O dX7_misfit_34 (by decide) rfl (fun hc => ?_) (fun hc => ?_)
    · replace h := ip hc h
      refine g_iconst (v := -1) (pc' := 62) O dX7_misfit_61 (by decide) rfl ?_
      cases h
      exact g_ireturn O dX7_misfit_62 rfl rfl hf (by decide) (by decide)
    · replace h := ine hc h
      refine g_aload_n (pc' := 38) 0 O dX7_misfit_37 rfl rfl rfl ?_
      refine g_iload (pc' := 40) 3 O dX7_misfit_38 rfl rfl ?_
      refine g_aload_n (pc' := 41) 2 O dX7_misfit_40 rfl rfl rfl ?_
      refine g_iload_n (pc' := 42) 1 O dX7_misfit_41 rfl rfl rfl ?_
      replace h := ob h; obtain ⟨u3, eu3, h⟩ := h
      replace h := ob h; obtain ⟨r4, er4, h⟩ := h
      refine g_callV (y := yX7_rowValue) (ν := mX7_rowValue) (n := 3) (As := [.int x4, .ref x3, .int x2]) (b := x0) (st := []) (M2 := r4.2) (r1 := (some (.long r4.1))) (pc' := 45) O dX7_misfit_42 tw_677 tw_53 tw_676 tw_18 tw_674 hyX7_rowValue rfl rfl eu3 (okX7_rowValue er4) (Nat.le_of_ble_eq_true rfl) ⟨Nat.le_of_ble_eq_true rfl, Nat.le_of_ble_eq_true rfl⟩ ⟨Nat.le_of_ble_eq_true rfl, Nat.le_of_ble_eq_true rfl⟩ rfl ?_
      show G κ mX7_misfit 0 0 45 [(0, .ref x0), (2, .int x2), (3, .ref x3), (4, .int x4)] [.long r4.1] r4.2
      refine g_ldc2 (v := -9223372036854775808) (pc' := 48) O dX7_misfit_45 tw_300 rfl ?_
      refine g_lcmp (pc' := 49) O dX7_misfit_48 rfl ?_
      refine g_if_ne (tgt := 55) (pc' := 52) O dX7_misfit_49 (by decide) rfl (fun hc => ?_) (fun hc => ?_)
      · replace h := ine hc h
        refine g_iinc (q := 3) (v := x4 + (1 : Int32)) (lv' := [(4, .int (x4 + (1 : Int32))), (0, .ref x0), (2, .int x2), (3, .ref x3)]) (pc' := 58) O dX7_misfit_55 rfl rfl (by decide) rfl rfl ?_
        refine g_goto (pc' := 25) O dX7_misfit_58 (by decide) ?_
        refine g_sub (lv' := [(0, .ref x0), (2, .int x2), (3, .ref x3), (4, .int (x4 + (1 : Int32)))]) [1, 2, 3, 0] rfl ?_
        exact ih x0 x2 x3 (x4 + (1 : Int32)) r4.2 h
      · replace h := ip hc h
        refine g_iload (pc' := 54) 3 O dX7_misfit_52 rfl rfl ?_
        cases h
        exact g_ireturn O dX7_misfit_54 rfl rfl hf (by decide) (by decide)
def fX7_misfit_20  (M : Mem) : Option (Int32 × Mem) :=
  some ((-1 : Int32), M)
set_option maxHeartbeats 4000000 in
set_option maxRecDepth 100000 in
theorem tX7_misfit_20 {κ : KT} {p : Int32 × Mem} (O : OkK κ mX7_misfit) (hf : κ.2.2.2.2.2.2.2.2.2.2.2.2.2 = (some (.int p.1), p.2))  {M : Mem} (h : fX7_misfit_20  M = some p) : G κ mX7_misfit 0 0 20 [] [] M := by
  unfold fX7_misfit_20 at h
  refine g_iconst (v := -1) (pc' := 21) O dX7_misfit_20 (by decide) rfl ?_
  cases h
  exact g_ireturn O dX7_misfit_21 rfl rfl hf (by decide) (by decide)
def fX7_misfit  (this : Nat) (p0 : Int32) (p1 : Int32) (M : Mem) : Option (Int32 × Mem) :=
  (gN M 4 this 0).bind fun v1 =>
  (ck M 2 v1).bind fun u2 =>
  (fX3_landAt v1 p0 M).bind fun r3 =>
  Option.elim r3.1 (fX7_misfit_20 r3.2)
  (fun a4 => (fX7_isKind p1 r3.2).bind fun r5 =>
  if r5.1 = 0 then (fX7_misfit_20 r5.2)
  else (fX7_misfit_25 FU this p1 a4 (0 : Int32) r5.2))
set_option maxHeartbeats 4000000 in
set_option maxRecDepth 100000 in
theorem okX7_misfit {l : Launch} {p : Int32 × Mem} {this : Nat} {p0 : Int32} {p1 : Int32} {M : Mem} (h : fX7_misfit this p0 p1 M = some p) : Cn l yX7_misfit mX7_misfit [.ref this, .int p0, .int p1] M (some (.int p.1)) p.2 := by
  refine Cn.of [(0, .ref this), (1, .int p0), (2, .int p1)] (by decide) rfl rfl (Nat.le_of_ble_eq_true rfl) rfl (fun κ _ hf O => ?_)
  unfold fX7_misfit at h
  refine g_aload_n (pc' := 1) 0 O dX7_misfit_0 rfl rfl rfl ?_
  replace h := ob h; obtain ⟨v1, ev1, h⟩ := h
  refine g_getF (C := RX7) (T := TX7) (N := 4) (ci := 4) (k := 0) (pc' := 4) O dX7_misfit_1 rfl inX7 (by decide) tw_177 (gN_F ev1) rfl ?_
  refine g_iload_n (pc' := 5) 1 O dX7_misfit_4 rfl rfl rfl ?_
  replace h := ob h; obtain ⟨u2, eu2, h⟩ := h
  replace h := ob h; obtain ⟨r3, er3, h⟩ := h
  refine g_callV (y := yX3_landAt) (ν := mX3_landAt) (n := 1) (As := [.int p0]) (b := v1) (st := []) (M2 := r3.2) (r1 := (some (va_rf r3.1))) (pc' := 8) O dX7_misfit_5 tw_299 tw_54 tw_297 tw_298 tw_296 hyX3_landAt rfl rfl eu2 (okX3_landAt er3) (Nat.le_of_ble_eq_true rfl) ⟨Nat.le_of_ble_eq_true rfl, Nat.le_of_ble_eq_true rfl⟩ ⟨Nat.le_of_ble_eq_true rfl, Nat.le_of_ble_eq_true rfl⟩ rfl ?_
  show G κ mX7_misfit 0 0 8 [(0, .ref this), (1, .int p0), (2, .int p1)] [va_rf r3.1] r3.2
  refine g_astoreO_n (lv' := [(3, va_rf r3.1), (0, .ref this), (1, .int p0), (2, .int p1)]) (pc' := 9) O dX7_misfit_8 rfl (by decide) rfl rfl ?_
  refine g_aloadO_n (pc' := 10) 0 O dX7_misfit_9 rfl rfl rfl ?_
  refine g_ifnull (tgt := 20) (pc' := 13) O dX7_misfit_10 (by decide) rfl (fun ho => ?_) (fun a4 ho => ?_)
  · replace h := oe_none ho h
    try rw [ho]
    show G κ mX7_misfit 0 0 20 [(3, va_rf none), (0, .ref this), (1, .int p0), (2, .int p1)] [] r3.2
    refine g_sub (lv' := []) [] rfl ?_
    exact tX7_misfit_20 O hf h
  · replace h := oe_some ho h
    try rw [ho]
    show G κ mX7_misfit 0 0 13 [(3, .ref a4), (0, .ref this), (1, .int p0), (2, .int p1)] [] r3.2
    refine g_iload_n (pc' := 14) 3 O dX7_misfit_13 rfl rfl rfl ?_
    replace h := ob h; obtain ⟨r5, er5, h⟩ := h
    refine g_callS (y := yX7_isKind) (ν := mX7_isKind) (n := 1) (As := [.int p1]) (b := 0) (st := []) (M2 := r5.2) (r1 := (some (.int r5.1))) (pc' := 17) O dX7_misfit_14 tw_286 tw_53 tw_285 tw_284 hyX7_isKind rfl (okX7_isKind er5) (Nat.le_of_ble_eq_true rfl) ⟨Nat.le_of_ble_eq_true rfl, Nat.le_of_ble_eq_true rfl⟩ ⟨Nat.le_of_ble_eq_true rfl, Nat.le_of_ble_eq_true rfl⟩ rfl ?_
    show G κ mX7_misfit 0 0 17 [(3, .ref a4), (0, .ref this), (1, .int p0), (2, .int p1)] [.int r5.1] r5.2
    refine g_if_ne (tgt := 22) (pc' := 20) O dX7_misfit_17 (by decide) rfl (fun hc => ?_) (fun hc => ?_)
    · replace h := ine hc h
      refine g_iconst (v := 0) (pc' := 23) O dX7_misfit_22 (by decide) rfl ?_
      refine g_istore (lv' := [(4, .int (0 : Int32)), (3, .ref a4), (0, .ref this), (1, .int p0), (2, .int p1)]) (pc' := 25) O dX7_misfit_23 (by decide) rfl rfl ?_
      refine g_sub (lv' := [(0, .ref this), (2, .int p1), (3, .ref a4), (4, .int (0 : Int32))]) [2, 4, 1, 0] rfl ?_
      exact tX7_misfit_25 O hf FU this p1 a4 (0 : Int32) r5.2 h
    · replace h := ip hc h
      refine g_sub (lv' := []) [] rfl ?_
      exact tX7_misfit_20 O hf h
abbrev mX7_sum : MD := (cX7_sum, 9, RX7, (some .long), { frames := 6, cells := 0, slots := 0, locals := 143 }, "sum")
theorem hyX7_sum : yX7_sum.cls ≠ "java/lang/invoke/MethodHandle" ∧ yX7_sum.cls ≠ "java/lang/invoke/VarHandle" ∧ (parseMethodDescriptor yX7_sum.desc).map (fun d => d.parameters.length) = some 2 := by decide +kernel
def fX7_sum_32  : Nat → Nat → Int32 → Nat → Int64 → Int32 → Mem → Option (Int64 × Mem)
  | 0, _, _, _, _, _, _ => none
  | n + 1, x0, x2, x3, x4, x6, M =>
    (gN M 4 x0 0).bind fun v1 =>
    (gI M 2 v1 6).bind fun v2 =>
    if v2 ≤ x6 then (some (x4, M))
    else ((ck M 4 x0).bind fun u3 =>
    (fX7_rowValue x0 x6 x3 x2 M).bind fun r4 =>
    if (lg_cmp r4.1 (-9223372036854775808 : Int64)) = 0 then (some ((-9223372036854775808 : Int64), r4.2))
    else (fX7_sum_32 n x0 x2 x3 (x4 + r4.1) (x6 + (1 : Int32)) r4.2))
set_option maxHeartbeats 4000000 in
set_option maxRecDepth 100000 in
theorem tX7_sum_32 {κ : KT} {p : Int64 × Mem} (O : OkK κ mX7_sum) (hf : κ.2.2.2.2.2.2.2.2.2.2.2.2.2 = (some (.long p.1), p.2))  : ∀ (n : Nat) (x0 : Nat) (x2 : Int32) (x3 : Nat) (x4 : Int64) (x6 : Int32) (M : Mem), fX7_sum_32  n x0 x2 x3 x4 x6 M = some p → G κ mX7_sum 0 0 32 [(0, .ref x0), (2, .int x2), (3, .ref x3), (4, .long x4), (6, .int x6)] [] M := by
  intro n
  induction n with
  | zero => intro x0 x2 x3 x4 x6 M h; cases h
  | succ n ih =>
    intro x0 x2 x3 x4 x6 M h
    rw [fX7_sum_32] at h
    refine g_iload (pc' := 34) 4 O dX7_sum_32 rfl rfl ?_
    refine g_aload_n (pc' := 35) 0 O dX7_sum_34 rfl rfl rfl ?_
    replace h := ob h; obtain ⟨v1, ev1, h⟩ := h
    refine g_getF (C := RX7) (T := TX7) (N := 4) (ci := 4) (k := 0) (pc' := 38) O dX7_sum_35 rfl inX7 (by decide) tw_177 (gN_F ev1) rfl ?_
    replace h := ob h; obtain ⟨v2, ev2, h⟩ := h
    refine g_getF (C := RX3) (T := TX3) (N := 9) (ci := 2) (k := 6) (pc' := 41) O dX7_sum_38 rfl inX3 (by decide) tw_116 (gI_F ev2) rfl ?_
    refine g_icmp_ge (tgt := 80) (pc' := 44) O dX7_sum_41 (by decide) rfl (fun hc => ?_) (fun hc => ?_)
    · replace h := ip hc h
      refine g_lload (pc' := 82) 3 O dX7_sum_80 rfl rfl ?_
      cases h
      exact g_lreturn O dX7_sum_82 rfl hf (by decide) (by decide)
    · replace h := ine hc h
      refine g_aload_n (pc' := 45) 0 O dX7_sum_44 rfl rfl rfl ?_
      refine g_iload (pc' := 47) 4 O dX7_sum_45 rfl rfl ?_
      refine g_aload_n (pc' := 48) 2 O dX7_sum_47 rfl rfl rfl ?_
      refine g_iload_n (pc' := 49) 1 O dX7_sum_48 rfl rfl rfl ?_
      replace h := ob h; obtain ⟨u3, eu3, h⟩ := h
      replace h := ob h; obtain ⟨r4, er4, h⟩ := h
      refine g_callV (y := yX7_rowValue) (ν := mX7_rowValue) (n := 3) (As := [.int x6, .ref x3, .int x2]) (b := x0) (st := []) (M2 := r4.2) (r1 := (some (.long r4.1))) (pc' := 52) O dX7_sum_49 tw_677 tw_53 tw_676 tw_18 tw_674 hyX7_rowValue rfl rfl eu3 (okX7_rowValue er4) (Nat.le_of_ble_eq_true rfl) ⟨Nat.le_of_ble_eq_true rfl, Nat.le_of_ble_eq_true rfl⟩ ⟨Nat.le_of_ble_eq_true rfl, Nat.le_of_ble_eq_true rfl⟩ rfl ?_
      show G κ mX7_sum 0 0 52 [(0, .ref x0), (2, .int x2), (3, .ref x3), (4, .long x4), (6, .int x6)] [.long r4.1] r4.2
      refine g_lstore (lv' := [(7, .long r4.1), (0, .ref x0), (2, .int x2), (3, .ref x3), (4, .long x4), (6, .int x6)]) (pc' := 54) O dX7_sum_52 (by decide) rfl rfl ?_
      refine g_lload (pc' := 56) 0 O dX7_sum_54 rfl rfl ?_
      refine g_ldc2 (v := -9223372036854775808) (pc' := 59) O dX7_sum_56 tw_300 rfl ?_
      refine g_lcmp (pc' := 60) O dX7_sum_59 rfl ?_
      refine g_if_ne (tgt := 67) (pc' := 63) O dX7_sum_60 (by decide) rfl (fun hc => ?_) (fun hc => ?_)
      · replace h := ine hc h
        refine g_lload (pc' := 69) 4 O dX7_sum_67 rfl rfl ?_
        refine g_lload (pc' := 71) 0 O dX7_sum_69 rfl rfl ?_
        refine g_ladd (pc' := 72) O dX7_sum_71 rfl ?_
        refine g_lstore (lv' := [(4, .long (x4 + r4.1)), (7, .long r4.1), (0, .ref x0), (2, .int x2), (3, .ref x3), (6, .int x6)]) (pc' := 74) O dX7_sum_72 (by decide) rfl rfl ?_
        refine g_iinc (q := 5) (v := x6 + (1 : Int32)) (lv' := [(6, .int (x6 + (1 : Int32))), (4, .long (x4 + r4.1)), (7, .long r4.1), (0, .ref x0), (2, .int x2), (3, .ref x3)]) (pc' := 77) O dX7_sum_74 rfl rfl (by decide) rfl rfl ?_
        refine g_goto (pc' := 32) O dX7_sum_77 (by decide) ?_
        refine g_sub (lv' := [(0, .ref x0), (2, .int x2), (3, .ref x3), (4, .long (x4 + r4.1)), (6, .int (x6 + (1 : Int32)))]) [3, 4, 5, 1, 0] rfl ?_
        exact ih x0 x2 x3 (x4 + r4.1) (x6 + (1 : Int32)) r4.2 h
      · replace h := ip hc h
        refine g_ldc2 (v := -9223372036854775808) (pc' := 66) O dX7_sum_63 tw_300 rfl ?_
        cases h
        exact g_lreturn O dX7_sum_66 rfl hf (by decide) (by decide)
def fX7_sum_26  (x0 : Nat) (x2 : Int32) (x3 : Nat) (M : Mem) : Option (Int64 × Mem) :=
  fX7_sum_32 FU x0 x2 x3 (0 : Int64) (0 : Int32) M
set_option maxHeartbeats 4000000 in
set_option maxRecDepth 100000 in
theorem tX7_sum_26 {κ : KT} {p : Int64 × Mem} (O : OkK κ mX7_sum) (hf : κ.2.2.2.2.2.2.2.2.2.2.2.2.2 = (some (.long p.1), p.2))  {x0 : Nat} {x2 : Int32} {x3 : Nat} {M : Mem} (h : fX7_sum_26  x0 x2 x3 M = some p) : G κ mX7_sum 0 0 26 [(0, .ref x0), (2, .int x2), (3, .ref x3)] [] M := by
  unfold fX7_sum_26 at h
  refine g_lconst (v := 0) (pc' := 27) O dX7_sum_26 (by decide) rfl ?_
  refine g_lstore (lv' := [(4, .long (0 : Int64)), (0, .ref x0), (2, .int x2), (3, .ref x3)]) (pc' := 29) O dX7_sum_27 (by decide) rfl rfl ?_
  refine g_iconst (v := 0) (pc' := 30) O dX7_sum_29 (by decide) rfl ?_
  refine g_istore (lv' := [(6, .int (0 : Int32)), (4, .long (0 : Int64)), (0, .ref x0), (2, .int x2), (3, .ref x3)]) (pc' := 32) O dX7_sum_30 (by decide) rfl rfl ?_
  refine g_sub (lv' := [(0, .ref x0), (2, .int x2), (3, .ref x3), (4, .long (0 : Int64)), (6, .int (0 : Int32))]) [2, 3, 4, 1, 0] rfl ?_
  exact tX7_sum_32 O hf FU x0 x2 x3 (0 : Int64) (0 : Int32) M h
def fX7_sum_22  (M : Mem) : Option (Int64 × Mem) :=
  some ((-9223372036854775808 : Int64), M)
set_option maxHeartbeats 4000000 in
set_option maxRecDepth 100000 in
theorem tX7_sum_22 {κ : KT} {p : Int64 × Mem} (O : OkK κ mX7_sum) (hf : κ.2.2.2.2.2.2.2.2.2.2.2.2.2 = (some (.long p.1), p.2))  {M : Mem} (h : fX7_sum_22  M = some p) : G κ mX7_sum 0 0 22 [] [] M := by
  unfold fX7_sum_22 at h
  refine g_ldc2 (v := -9223372036854775808) (pc' := 25) O dX7_sum_22 tw_300 rfl ?_
  cases h
  exact g_lreturn O dX7_sum_25 rfl hf (by decide) (by decide)
def fX7_sum  (this : Nat) (p0 : Int32) (p1 : Int32) (M : Mem) : Option (Int64 × Mem) :=
  (gN M 4 this 0).bind fun v1 =>
  (ck M 2 v1).bind fun u2 =>
  (fX3_landAt v1 p0 M).bind fun r3 =>
  Option.elim r3.1 (fX7_sum_22 r3.2)
  (fun a4 => if p1 = 0 then (fX7_sum_26 this p1 a4 r3.2)
  else (if p1 = (1 : Int32) then (fX7_sum_26 this p1 a4 r3.2)
  else (fX7_sum_22 r3.2)))
set_option maxHeartbeats 4000000 in
set_option maxRecDepth 100000 in
theorem okX7_sum {l : Launch} {p : Int64 × Mem} {this : Nat} {p0 : Int32} {p1 : Int32} {M : Mem} (h : fX7_sum this p0 p1 M = some p) : Cn l yX7_sum mX7_sum [.ref this, .int p0, .int p1] M (some (.long p.1)) p.2 := by
  refine Cn.of [(0, .ref this), (1, .int p0), (2, .int p1)] (by decide) rfl rfl (Nat.le_of_ble_eq_true rfl) rfl (fun κ _ hf O => ?_)
  unfold fX7_sum at h
  refine g_aload_n (pc' := 1) 0 O dX7_sum_0 rfl rfl rfl ?_
  replace h := ob h; obtain ⟨v1, ev1, h⟩ := h
  refine g_getF (C := RX7) (T := TX7) (N := 4) (ci := 4) (k := 0) (pc' := 4) O dX7_sum_1 rfl inX7 (by decide) tw_177 (gN_F ev1) rfl ?_
  refine g_iload_n (pc' := 5) 1 O dX7_sum_4 rfl rfl rfl ?_
  replace h := ob h; obtain ⟨u2, eu2, h⟩ := h
  replace h := ob h; obtain ⟨r3, er3, h⟩ := h
  refine g_callV (y := yX3_landAt) (ν := mX3_landAt) (n := 1) (As := [.int p0]) (b := v1) (st := []) (M2 := r3.2) (r1 := (some (va_rf r3.1))) (pc' := 8) O dX7_sum_5 tw_299 tw_54 tw_297 tw_298 tw_296 hyX3_landAt rfl rfl eu2 (okX3_landAt er3) (Nat.le_of_ble_eq_true rfl) ⟨Nat.le_of_ble_eq_true rfl, Nat.le_of_ble_eq_true rfl⟩ ⟨Nat.le_of_ble_eq_true rfl, Nat.le_of_ble_eq_true rfl⟩ rfl ?_
  show G κ mX7_sum 0 0 8 [(0, .ref this), (1, .int p0), (2, .int p1)] [va_rf r3.1] r3.2
  refine g_astoreO_n (lv' := [(3, va_rf r3.1), (0, .ref this), (1, .int p0), (2, .int p1)]) (pc' := 9) O dX7_sum_8 rfl (by decide) rfl rfl ?_
  refine g_aloadO_n (pc' := 10) 0 O dX7_sum_9 rfl rfl rfl ?_
  refine g_ifnull (tgt := 22) (pc' := 13) O dX7_sum_10 (by decide) rfl (fun ho => ?_) (fun a4 ho => ?_)
  · replace h := oe_none ho h
    try rw [ho]
    show G κ mX7_sum 0 0 22 [(3, va_rf none), (0, .ref this), (1, .int p0), (2, .int p1)] [] r3.2
    refine g_sub (lv' := []) [] rfl ?_
    exact tX7_sum_22 O hf h
  · replace h := oe_some ho h
    try rw [ho]
    show G κ mX7_sum 0 0 13 [(3, .ref a4), (0, .ref this), (1, .int p0), (2, .int p1)] [] r3.2
    refine g_iload_n (pc' := 14) 3 O dX7_sum_13 rfl rfl rfl ?_
    refine g_if_eq (tgt := 26) (pc' := 17) O dX7_sum_14 (by decide) rfl (fun hc => ?_) (fun hc => ?_)
    · replace h := ip hc h
      refine g_sub (lv' := [(0, .ref this), (2, .int p1), (3, .ref a4)]) [1, 3, 0] rfl ?_
      exact tX7_sum_26 O hf h
    · replace h := ine hc h
      refine g_iload_n (pc' := 18) 3 O dX7_sum_17 rfl rfl rfl ?_
      refine g_iconst (v := 1) (pc' := 19) O dX7_sum_18 (by decide) rfl ?_
      refine g_icmp_eq (tgt := 26) (pc' := 22) O dX7_sum_19 (by decide) rfl (fun hc => ?_) (fun hc => ?_)
      · replace h := ip hc h
        refine g_sub (lv' := [(0, .ref this), (2, .int p1), (3, .ref a4)]) [1, 3, 0] rfl ?_
        exact tX7_sum_26 O hf h
      · replace h := ine hc h
        refine g_sub (lv' := []) [] rfl ?_
        exact tX7_sum_22 O hf h
abbrev mX7_count : MD := (cX7_count, 2, RX7, (some .int), { frames := 1, cells := 0, slots := 0, locals := 20 }, "count")
theorem hyX7_count : yX7_count.cls ≠ "java/lang/invoke/MethodHandle" ∧ yX7_count.cls ≠ "java/lang/invoke/VarHandle" ∧ (parseMethodDescriptor yX7_count.desc).map (fun d => d.parameters.length) = some 1 := by decide +kernel
def fX7_count  (this : Nat) (p0 : Int32) (M : Mem) : Option (Int32 × Mem) :=
  if p0 = (0 : Int32) then ((gN M 4 this 0).bind fun v1 =>
  (gI M 2 v1 3).bind fun v2 =>
  some (v2, M))
  else (if p0 = (1 : Int32) then ((gN M 4 this 0).bind fun v3 =>
  (gN M 2 v3 0).bind fun v4 =>
  (ck M 3 v4).bind fun u5 =>
  (fX4_length v4 M).bind fun r6 =>
  some (r6.1, r6.2))
  else (if p0 = (2 : Int32) then ((gN M 4 this 0).bind fun v7 =>
  (gI M 2 v7 6).bind fun v8 =>
  some (v8, M))
  else (if p0 = (3 : Int32) then ((gN M 4 this 0).bind fun v9 =>
  (gN M 2 v9 1).bind fun v10 =>
  (ck M 3 v10).bind fun u11 =>
  (fX4_length v10 M).bind fun r12 =>
  some (r12.1, r12.2))
  else (some ((-1 : Int32), M)))))
set_option maxHeartbeats 4000000 in
set_option maxRecDepth 100000 in
theorem okX7_count {l : Launch} {p : Int32 × Mem} {this : Nat} {p0 : Int32} {M : Mem} (h : fX7_count this p0 M = some p) : Cn l yX7_count mX7_count [.ref this, .int p0] M (some (.int p.1)) p.2 := by
  refine Cn.of [(0, .ref this), (1, .int p0)] (by decide) rfl rfl (Nat.le_of_ble_eq_true rfl) rfl (fun κ _ hf O => ?_)
  unfold fX7_count at h
  refine g_iload_n (pc' := 1) 1 O dX7_count_0 rfl rfl rfl ?_
  by_cases hs0 : p0 = (0 : Int32)
  · replace h := ip hs0 h
    refine g_tableIn (off := 31) (pc' := 32) O dX7_count_1 (by rw [hs0]; decide) (by rw [hs0]; decide) (by rw [hs0]; decide) (by decide) ?_
    refine g_aload_n (pc' := 33) 0 O dX7_count_32 rfl rfl rfl ?_
    replace h := ob h; obtain ⟨v1, ev1, h⟩ := h
    refine g_getF (C := RX7) (T := TX7) (N := 4) (ci := 4) (k := 0) (pc' := 36) O dX7_count_33 rfl inX7 (by decide) tw_177 (gN_F ev1) rfl ?_
    replace h := ob h; obtain ⟨v2, ev2, h⟩ := h
    refine g_getF (C := RX3) (T := TX3) (N := 9) (ci := 2) (k := 3) (pc' := 39) O dX7_count_36 rfl inX3 (by decide) tw_110 (gI_F ev2) rfl ?_
    cases h
    exact g_ireturn O dX7_count_39 rfl rfl hf (by decide) (by decide)
  replace h := ine hs0 h
  by_cases hs1 : p0 = (1 : Int32)
  · replace h := ip hs1 h
    refine g_tableIn (off := 39) (pc' := 40) O dX7_count_1 (by rw [hs1]; decide) (by rw [hs1]; decide) (by rw [hs1]; decide) (by decide) ?_
    refine g_aload_n (pc' := 41) 0 O dX7_count_40 rfl rfl rfl ?_
    replace h := ob h; obtain ⟨v3, ev3, h⟩ := h
    refine g_getF (C := RX7) (T := TX7) (N := 4) (ci := 4) (k := 0) (pc' := 44) O dX7_count_41 rfl inX7 (by decide) tw_177 (gN_F ev3) rfl ?_
    replace h := ob h; obtain ⟨v4, ev4, h⟩ := h
    refine g_getF (C := RX3) (T := TX3) (N := 9) (ci := 2) (k := 0) (pc' := 47) O dX7_count_44 rfl inX3 (by decide) tw_106 (gN_F ev4) rfl ?_
    replace h := ob h; obtain ⟨u5, eu5, h⟩ := h
    replace h := ob h; obtain ⟨r6, er6, h⟩ := h
    refine g_callV (y := yX4_length) (ν := mX4_length) (n := 0) (As := []) (b := v4) (st := []) (M2 := r6.2) (r1 := (some (.int r6.1))) (pc' := 50) O dX7_count_47 tw_260 tw_55 tw_258 tw_259 tw_257 hyX4_length rfl rfl eu5 (okX4_length er6) (Nat.le_of_ble_eq_true rfl) ⟨Nat.le_of_ble_eq_true rfl, Nat.le_of_ble_eq_true rfl⟩ ⟨Nat.le_of_ble_eq_true rfl, Nat.le_of_ble_eq_true rfl⟩ rfl ?_
    show G κ mX7_count 0 0 50 [(0, .ref this), (1, .int p0)] [.int r6.1] r6.2
    cases h
    exact g_ireturn O dX7_count_50 rfl rfl hf (by decide) (by decide)
  replace h := ine hs1 h
  by_cases hs2 : p0 = (2 : Int32)
  · replace h := ip hs2 h
    refine g_tableIn (off := 50) (pc' := 51) O dX7_count_1 (by rw [hs2]; decide) (by rw [hs2]; decide) (by rw [hs2]; decide) (by decide) ?_
    refine g_aload_n (pc' := 52) 0 O dX7_count_51 rfl rfl rfl ?_
    replace h := ob h; obtain ⟨v7, ev7, h⟩ := h
    refine g_getF (C := RX7) (T := TX7) (N := 4) (ci := 4) (k := 0) (pc' := 55) O dX7_count_52 rfl inX7 (by decide) tw_177 (gN_F ev7) rfl ?_
    replace h := ob h; obtain ⟨v8, ev8, h⟩ := h
    refine g_getF (C := RX3) (T := TX3) (N := 9) (ci := 2) (k := 6) (pc' := 58) O dX7_count_55 rfl inX3 (by decide) tw_116 (gI_F ev8) rfl ?_
    cases h
    exact g_ireturn O dX7_count_58 rfl rfl hf (by decide) (by decide)
  replace h := ine hs2 h
  by_cases hs3 : p0 = (3 : Int32)
  · replace h := ip hs3 h
    refine g_tableIn (off := 58) (pc' := 59) O dX7_count_1 (by rw [hs3]; decide) (by rw [hs3]; decide) (by rw [hs3]; decide) (by decide) ?_
    refine g_aload_n (pc' := 60) 0 O dX7_count_59 rfl rfl rfl ?_
    replace h := ob h; obtain ⟨v9, ev9, h⟩ := h
    refine g_getF (C := RX7) (T := TX7) (N := 4) (ci := 4) (k := 0) (pc' := 63) O dX7_count_60 rfl inX7 (by decide) tw_177 (gN_F ev9) rfl ?_
    replace h := ob h; obtain ⟨v10, ev10, h⟩ := h
    refine g_getF (C := RX3) (T := TX3) (N := 9) (ci := 2) (k := 1) (pc' := 66) O dX7_count_63 rfl inX3 (by decide) tw_108 (gN_F ev10) rfl ?_
    replace h := ob h; obtain ⟨u11, eu11, h⟩ := h
    replace h := ob h; obtain ⟨r12, er12, h⟩ := h
    refine g_callV (y := yX4_length) (ν := mX4_length) (n := 0) (As := []) (b := v10) (st := []) (M2 := r12.2) (r1 := (some (.int r12.1))) (pc' := 69) O dX7_count_66 tw_260 tw_55 tw_258 tw_259 tw_257 hyX4_length rfl rfl eu11 (okX4_length er12) (Nat.le_of_ble_eq_true rfl) ⟨Nat.le_of_ble_eq_true rfl, Nat.le_of_ble_eq_true rfl⟩ ⟨Nat.le_of_ble_eq_true rfl, Nat.le_of_ble_eq_true rfl⟩ rfl ?_
    show G κ mX7_count 0 0 69 [(0, .ref this), (1, .int p0)] [.int r12.1] r12.2
    cases h
    exact g_ireturn O dX7_count_69 rfl rfl hf (by decide) (by decide)
  replace h := ine hs3 h
  refine g_tableOut (pc' := 70) O dX7_count_1 (by have q0 := lv_neT hs0 (show (0 : Int32).toInt = 0 by decide); have q1 := lv_neT hs1 (show (1 : Int32).toInt = 1 by decide); have q2 := lv_neT hs2 (show (2 : Int32).toInt = 2 by decide); have q3 := lv_neT hs3 (show (3 : Int32).toInt = 3 by decide); omega) (by decide) ?_
  refine g_iconst (v := -1) (pc' := 71) O dX7_count_70 (by decide) rfl ?_
  cases h
  exact g_ireturn O dX7_count_71 rfl rfl hf (by decide) (by decide)
abbrev mX7_image : MD := (cX7_image, 2, RX7, (some .boolean), { frames := 3, cells := 10, slots := 2055, locals := 81 }, "image")
theorem hyX7_image : yX7_image.cls ≠ "java/lang/invoke/MethodHandle" ∧ yX7_image.cls ≠ "java/lang/invoke/VarHandle" ∧ (parseMethodDescriptor yX7_image.desc).map (fun d => d.parameters.length) = some 1 := by decide +kernel
def fX7_image_33  (x0 : Nat) (x1 : Int32) (M : Mem) : Option (Int32 × Mem) :=
  (gN M 4 x0 1).bind fun v1 =>
  (aQ M v1 x1).bind fun v2 =>
  (gN M 4 x0 0).bind fun v3 =>
  (v2).bind fun a4 =>
  (ck M 2 a4).bind fun u5 =>
  (fX3_copyFrom a4 v3 M).bind fun r6 =>
  (nz (1 : Int32)).bind fun z7 =>
  some (z7, r6)
set_option maxHeartbeats 4000000 in
set_option maxRecDepth 100000 in
theorem tX7_image_33 {κ : KT} {p : Int32 × Mem} (O : OkK κ mX7_image) (hf : κ.2.2.2.2.2.2.2.2.2.2.2.2.2 = (some (.int p.1), p.2))  {x0 : Nat} {x1 : Int32} {M : Mem} (h : fX7_image_33  x0 x1 M = some p) : G κ mX7_image 10 2055 33 [(0, .ref x0), (1, .int x1)] [] M := by
  unfold fX7_image_33 at h
  refine g_aload_n (pc' := 34) 0 O dX7_image_33 rfl rfl rfl ?_
  replace h := ob h; obtain ⟨v1, ev1, h⟩ := h
  refine g_getF (C := RX7) (T := TX7) (N := 4) (ci := 4) (k := 1) (pc' := 37) O dX7_image_34 rfl inX7 (by decide) tw_178 (gN_F ev1) rfl ?_
  refine g_iload_n (pc' := 38) 1 O dX7_image_37 rfl rfl rfl ?_
  replace h := ob h; obtain ⟨v2, ev2, h⟩ := h
  refine g_aald (pc' := 39) O dX7_image_38 ev2 rfl ?_
  refine g_aload_n (pc' := 40) 0 O dX7_image_39 rfl rfl rfl ?_
  replace h := ob h; obtain ⟨v3, ev3, h⟩ := h
  refine g_getF (C := RX7) (T := TX7) (N := 4) (ci := 4) (k := 0) (pc' := 43) O dX7_image_40 rfl inX7 (by decide) tw_177 (gN_F ev3) rfl ?_
  replace h := ob h; obtain ⟨a4, ea4, h⟩ := h
  rw [ea4]
  replace h := ob h; obtain ⟨u5, eu5, h⟩ := h
  replace h := ob h; obtain ⟨r6, er6, h⟩ := h
  refine g_callV (y := yX3_copyFrom) (ν := mX3_copyFrom) (n := 1) (As := [.ref v3]) (b := a4) (st := []) (M2 := r6) (r1 := none) (pc' := 46) O dX7_image_43 tw_702 tw_54 tw_700 tw_701 tw_699 hyX3_copyFrom rfl rfl eu5 (okX3_copyFrom er6) (Nat.le_of_ble_eq_true rfl) ⟨Nat.le_of_ble_eq_true rfl, Nat.le_of_ble_eq_true rfl⟩ ⟨Nat.le_of_ble_eq_true rfl, Nat.le_of_ble_eq_true rfl⟩ rfl ?_
  show G κ mX7_image 10 2055 46 [(0, .ref x0), (1, .int x1)] [] r6
  refine g_iconst (v := 1) (pc' := 47) O dX7_image_46 (by decide) rfl ?_
  replace h := ob h; obtain ⟨z7, ez7, h⟩ := h
  obtain ⟨hz7, ez7b⟩ := nz_spec ez7
  rw [ez7b] at h
  cases h
  exact g_ireturn O dX7_image_47 rfl (nz_nar hz7) hf (by decide) (by decide)
def fX7_image_9  (M : Mem) : Option (Int32 × Mem) :=
  (nz (0 : Int32)).bind fun z1 =>
  some (z1, M)
set_option maxHeartbeats 4000000 in
set_option maxRecDepth 100000 in
theorem tX7_image_9 {κ : KT} {p : Int32 × Mem} (O : OkK κ mX7_image) (hf : κ.2.2.2.2.2.2.2.2.2.2.2.2.2 = (some (.int p.1), p.2))  {M : Mem} (h : fX7_image_9  M = some p) : G κ mX7_image 0 0 9 [] [] M := by
  unfold fX7_image_9 at h
  refine g_iconst (v := 0) (pc' := 10) O dX7_image_9 (by decide) rfl ?_
  replace h := ob h; obtain ⟨z1, ez1, h⟩ := h
  obtain ⟨hz1, ez1b⟩ := nz_spec ez1
  rw [ez1b] at h
  cases h
  exact g_ireturn O dX7_image_10 rfl (nz_nar hz1) hf (by decide) (by decide)
def fX7_image  (this : Nat) (p0 : Int32) (M : Mem) : Option (Int32 × Mem) :=
  if p0 < 0 then (fX7_image_9 M)
  else (if p0 < (3 : Int32) then ((gN M 4 this 1).bind fun v1 =>
  (aQ M v1 p0).bind fun v2 =>
  Option.elim v2 ((gN M 4 this 1).bind fun v4 =>
  (fX3_init M.1 (nO M 2 [.null, .null, .null, .int 0, .null, .null, .int 0, .null, .null])).bind fun r5 =>
  (sQ r5 2 v4 p0 (some M.1)).bind fun M6 =>
  fX7_image_33 this p0 M6)
  (fun a3 => fX7_image_33 this p0 M))
  else (fX7_image_9 M))
set_option maxHeartbeats 4000000 in
set_option maxRecDepth 100000 in
theorem okX7_image {l : Launch} {p : Int32 × Mem} {this : Nat} {p0 : Int32} {M : Mem} (h : fX7_image this p0 M = some p) : Cn l yX7_image mX7_image [.ref this, .int p0] M (some (.int p.1)) p.2 := by
  refine Cn.of [(0, .ref this), (1, .int p0)] (by decide) rfl rfl (Nat.le_of_ble_eq_true rfl) rfl (fun κ _ hf O => ?_)
  unfold fX7_image at h
  refine g_iload_n (pc' := 1) 1 O dX7_image_0 rfl rfl rfl ?_
  refine g_if_lt (tgt := 9) (pc' := 4) O dX7_image_1 (by decide) rfl (fun hc => ?_) (fun hc => ?_)
  · replace h := ip hc h
    refine g_sub (lv' := []) [] rfl ?_
    exact tX7_image_9 O hf h
  · replace h := ine hc h
    refine g_iload_n (pc' := 5) 1 O dX7_image_4 rfl rfl rfl ?_
    refine g_iconst (v := 3) (pc' := 6) O dX7_image_5 (by decide) rfl ?_
    refine g_icmp_lt (tgt := 11) (pc' := 9) O dX7_image_6 (by decide) rfl (fun hc => ?_) (fun hc => ?_)
    · replace h := ip hc h
      refine g_aload_n (pc' := 12) 0 O dX7_image_11 rfl rfl rfl ?_
      replace h := ob h; obtain ⟨v1, ev1, h⟩ := h
      refine g_getF (C := RX7) (T := TX7) (N := 4) (ci := 4) (k := 1) (pc' := 15) O dX7_image_12 rfl inX7 (by decide) tw_178 (gN_F ev1) rfl ?_
      refine g_iload_n (pc' := 16) 1 O dX7_image_15 rfl rfl rfl ?_
      replace h := ob h; obtain ⟨v2, ev2, h⟩ := h
      refine g_aald (pc' := 17) O dX7_image_16 ev2 rfl ?_
      refine g_ifnonnull (tgt := 33) (pc' := 20) O dX7_image_17 (by decide) rfl (fun a3 ho => ?_) (fun ho => ?_)
      · replace h := oe_some ho h
        try rw [ho]
        show G κ mX7_image 0 0 33 [(0, .ref this), (1, .int p0)] [] M
        refine g_widen (c2 := 10) (s2 := 2055) (by decide) (by decide) ?_
        exact tX7_image_33 O hf h
      · replace h := oe_none ho h
        try rw [ho]
        show G κ mX7_image 0 0 20 [(0, .ref this), (1, .int p0)] [] M
        refine g_aload_n (pc' := 21) 0 O dX7_image_20 rfl rfl rfl ?_
        replace h := ob h; obtain ⟨v4, ev4, h⟩ := h
        refine g_getF (C := RX7) (T := TX7) (N := 4) (ci := 4) (k := 1) (pc' := 24) O dX7_image_21 rfl inX7 (by decide) tw_178 (gN_F ev4) rfl ?_
        refine g_iload_n (pc' := 25) 1 O dX7_image_24 rfl rfl rfl ?_
        refine g_newO (C := RX3) (T := TX3) (N := 9) (ci := 2) (fs := [.null, .null, .null, .int 0, .null, .null, .int 0, .null, .null]) (pc' := 28) O dX7_image_25 rfl inX3 tyX3 tyX3_ok (by decide) tw_76 tw_77 tw_54 (by decide) (by decide) rfl ?_
        show G κ mX7_image 1 9 28 [(0, .ref this), (1, .int p0)] [.ref M.1, .int p0, .ref v4] (nO M 2 [.null, .null, .null, .int 0, .null, .null, .int 0, .null, .null])
        refine g_dup (pc' := 29) O dX7_image_28 rfl rfl ?_
        replace h := ob h; obtain ⟨r5, er5, h⟩ := h
        refine g_callI (y := yX3_init) (ν := mX3_init) (n := 0) (As := []) (b := M.1) (st := [.ref M.1, .int p0, .ref v4]) (M2 := r5) (r1 := none) (pc' := 32) O dX7_image_29 tw_80 tw_54 tw_79 tw_78 hyX3_init rfl rfl rfl (okX3_init er5) (Nat.le_of_ble_eq_true rfl) ⟨Nat.le_of_ble_eq_true rfl, Nat.le_of_ble_eq_true rfl⟩ ⟨Nat.le_of_ble_eq_true rfl, Nat.le_of_ble_eq_true rfl⟩ rfl ?_
        show G κ mX7_image 10 2055 32 [(0, .ref this), (1, .int p0)] [.ref M.1, .int p0, .ref v4] r5
        replace h := ob h; obtain ⟨M6, eM6, h⟩ := h
        refine g_aast (pc' := 33) O dX7_image_32 eM6 rfl ?_
        exact tX7_image_33 O hf h
    · replace h := ine hc h
      refine g_sub (lv' := []) [] rfl ?_
      exact tX7_image_9 O hf h
abbrev mX7_again : MD := (cX7_again, 2, RX7, (some .boolean), { frames := 3, cells := 0, slots := 0, locals := 81 }, "again")
theorem hyX7_again : yX7_again.cls ≠ "java/lang/invoke/MethodHandle" ∧ yX7_again.cls ≠ "java/lang/invoke/VarHandle" ∧ (parseMethodDescriptor yX7_again.desc).map (fun d => d.parameters.length) = some 1 := by decide +kernel
def fX7_again_18  (M : Mem) : Option (Int32 × Mem) :=
  (nz (0 : Int32)).bind fun z1 =>
  some (z1, M)
set_option maxHeartbeats 4000000 in
set_option maxRecDepth 100000 in
theorem tX7_again_18 {κ : KT} {p : Int32 × Mem} (O : OkK κ mX7_again) (hf : κ.2.2.2.2.2.2.2.2.2.2.2.2.2 = (some (.int p.1), p.2))  {M : Mem} (h : fX7_again_18  M = some p) : G κ mX7_again 0 0 18 [] [] M := by
  unfold fX7_again_18 at h
  refine g_iconst (v := 0) (pc' := 19) O dX7_again_18 (by decide) rfl ?_
  replace h := ob h; obtain ⟨z1, ez1, h⟩ := h
  obtain ⟨hz1, ez1b⟩ := nz_spec ez1
  rw [ez1b] at h
  cases h
  exact g_ireturn O dX7_again_19 rfl (nz_nar hz1) hf (by decide) (by decide)
def fX7_again  (this : Nat) (p0 : Int32) (M : Mem) : Option (Int32 × Mem) :=
  if p0 < 0 then (fX7_again_18 M)
  else (if (3 : Int32) ≤ p0 then (fX7_again_18 M)
  else ((gN M 4 this 1).bind fun v1 =>
  (aQ M v1 p0).bind fun v2 =>
  Option.elim v2 (fX7_again_18 M)
  (fun a3 => (gN M 4 this 0).bind fun v4 =>
  (gN M 4 this 1).bind fun v5 =>
  (aQ M v5 p0).bind fun v6 =>
  (v6).bind fun a7 =>
  (ck M 2 v4).bind fun u8 =>
  (fX3_copyFrom v4 a7 M).bind fun r9 =>
  (nz (1 : Int32)).bind fun z10 =>
  some (z10, r9))))
set_option maxHeartbeats 4000000 in
set_option maxRecDepth 100000 in
theorem okX7_again {l : Launch} {p : Int32 × Mem} {this : Nat} {p0 : Int32} {M : Mem} (h : fX7_again this p0 M = some p) : Cn l yX7_again mX7_again [.ref this, .int p0] M (some (.int p.1)) p.2 := by
  refine Cn.of [(0, .ref this), (1, .int p0)] (by decide) rfl rfl (Nat.le_of_ble_eq_true rfl) rfl (fun κ _ hf O => ?_)
  unfold fX7_again at h
  refine g_iload_n (pc' := 1) 1 O dX7_again_0 rfl rfl rfl ?_
  refine g_if_lt (tgt := 18) (pc' := 4) O dX7_again_1 (by decide) rfl (fun hc => ?_) (fun hc => ?_)
  · replace h := ip hc h
    refine g_sub (lv' := []) [] rfl ?_
    exact tX7_again_18 O hf h
  · replace h := ine hc h
    refine g_iload_n (pc' := 5) 1 O dX7_again_4 rfl rfl rfl ?_
    refine g_iconst (v := 3) (pc' := 6) O dX7_again_5 (by decide) rfl ?_
    refine g_icmp_ge (tgt := 18) (pc' := 9) O dX7_again_6 (by decide) rfl (fun hc => ?_) (fun hc => ?_)
    · replace h := ip hc h
      refine g_sub (lv' := []) [] rfl ?_
      exact tX7_again_18 O hf h
    · replace h := ine hc h
      refine g_aload_n (pc' := 10) 0 O dX7_again_9 rfl rfl rfl ?_
      replace h := ob h; obtain ⟨v1, ev1, h⟩ := h
      refine g_getF (C := RX7) (T := TX7) (N := 4) (ci := 4) (k := 1) (pc' := 13) O dX7_again_10 rfl inX7 (by decide) tw_178 (gN_F ev1) rfl ?_
      refine g_iload_n (pc' := 14) 1 O dX7_again_13 rfl rfl rfl ?_
      replace h := ob h; obtain ⟨v2, ev2, h⟩ := h
      refine g_aald (pc' := 15) O dX7_again_14 ev2 rfl ?_
      refine g_ifnonnull (tgt := 20) (pc' := 18) O dX7_again_15 (by decide) rfl (fun a3 ho => ?_) (fun ho => ?_)
      · replace h := oe_some ho h
        try rw [ho]
        show G κ mX7_again 0 0 20 [(0, .ref this), (1, .int p0)] [] M
        refine g_aload_n (pc' := 21) 0 O dX7_again_20 rfl rfl rfl ?_
        replace h := ob h; obtain ⟨v4, ev4, h⟩ := h
        refine g_getF (C := RX7) (T := TX7) (N := 4) (ci := 4) (k := 0) (pc' := 24) O dX7_again_21 rfl inX7 (by decide) tw_177 (gN_F ev4) rfl ?_
        refine g_aload_n (pc' := 25) 0 O dX7_again_24 rfl rfl rfl ?_
        replace h := ob h; obtain ⟨v5, ev5, h⟩ := h
        refine g_getF (C := RX7) (T := TX7) (N := 4) (ci := 4) (k := 1) (pc' := 28) O dX7_again_25 rfl inX7 (by decide) tw_178 (gN_F ev5) rfl ?_
        refine g_iload_n (pc' := 29) 1 O dX7_again_28 rfl rfl rfl ?_
        replace h := ob h; obtain ⟨v6, ev6, h⟩ := h
        refine g_aald (pc' := 30) O dX7_again_29 ev6 rfl ?_
        replace h := ob h; obtain ⟨a7, ea7, h⟩ := h
        rw [ea7]
        replace h := ob h; obtain ⟨u8, eu8, h⟩ := h
        replace h := ob h; obtain ⟨r9, er9, h⟩ := h
        refine g_callV (y := yX3_copyFrom) (ν := mX3_copyFrom) (n := 1) (As := [.ref a7]) (b := v4) (st := []) (M2 := r9) (r1 := none) (pc' := 33) O dX7_again_30 tw_702 tw_54 tw_700 tw_701 tw_699 hyX3_copyFrom rfl rfl eu8 (okX3_copyFrom er9) (Nat.le_of_ble_eq_true rfl) ⟨Nat.le_of_ble_eq_true rfl, Nat.le_of_ble_eq_true rfl⟩ ⟨Nat.le_of_ble_eq_true rfl, Nat.le_of_ble_eq_true rfl⟩ rfl ?_
        show G κ mX7_again 0 0 33 [(0, .ref this), (1, .int p0)] [] r9
        refine g_iconst (v := 1) (pc' := 34) O dX7_again_33 (by decide) rfl ?_
        replace h := ob h; obtain ⟨z10, ez10, h⟩ := h
        obtain ⟨hz10, ez10b⟩ := nz_spec ez10
        rw [ez10b] at h
        cases h
        exact g_ireturn O dX7_again_34 rfl (nz_nar hz10) hf (by decide) (by decide)
      · replace h := oe_none ho h
        try rw [ho]
        show G κ mX7_again 0 0 18 [(0, .ref this), (1, .int p0)] [] M
        refine g_sub (lv' := []) [] rfl ?_
        exact tX7_again_18 O hf h
abbrev mX8_init : MD := (cX8_init, 2, RX8, none, { frames := 1, cells := 23, slots := 8923, locals := 20 }, "<init>")
theorem hyX8_init : yX8_init.cls ≠ "java/lang/invoke/MethodHandle" ∧ yX8_init.cls ≠ "java/lang/invoke/VarHandle" ∧ (parseMethodDescriptor yX8_init.desc).map (fun d => d.parameters.length) = some 0 := by decide +kernel
def fX8_init_190  : Nat → Nat → Int32 → Mem → Option (Mem)
  | 0, _, _, _ => none
  | n + 1, x0, x1, M =>
    if (3 : Int32) ≤ x1 then (some M)
    else ((gN M 5 x0 12).bind fun v1 =>
    (sL M v1 x1 (-9223372036854775808 : Int64)).bind fun M2 =>
    (gN M2 5 x0 13).bind fun v3 =>
    (sL M2 v3 x1 (9223372036854775807 : Int64)).bind fun M4 =>
    fX8_init_190 n x0 (x1 + (1 : Int32)) M4)
set_option maxHeartbeats 4000000 in
set_option maxRecDepth 100000 in
theorem tX8_init_190 {κ : KT} {p : Mem} (O : OkK κ mX8_init) (hf : κ.2.2.2.2.2.2.2.2.2.2.2.2.2 = (none, p))  : ∀ (n : Nat) (x0 : Nat) (x1 : Int32) (M : Mem), fX8_init_190  n x0 x1 M = some p → G κ mX8_init 23 8923 190 [(0, .ref x0), (1, .int x1)] [] M := by
  intro n
  induction n with
  | zero => intro x0 x1 M h; cases h
  | succ n ih =>
    intro x0 x1 M h
    rw [fX8_init_190] at h
    refine g_iload_n (pc' := 191) 1 O dX8_init_190 rfl rfl rfl ?_
    refine g_iconst (v := 3) (pc' := 192) O dX8_init_191 (by decide) rfl ?_
    refine g_icmp_ge (tgt := 219) (pc' := 195) O dX8_init_192 (by decide) rfl (fun hc => ?_) (fun hc => ?_)
    · replace h := ip hc h
      cases h
      exact g_vreturn O dX8_init_219 rfl hf (by decide) (by decide)
    · replace h := ine hc h
      refine g_aload_n (pc' := 196) 0 O dX8_init_195 rfl rfl rfl ?_
      replace h := ob h; obtain ⟨v1, ev1, h⟩ := h
      refine g_getF (C := RX8) (T := TX8) (N := 29) (ci := 5) (k := 12) (pc' := 199) O dX8_init_196 rfl inX8 (by decide) tw_728 (gN_F ev1) rfl ?_
      refine g_iload_n (pc' := 200) 1 O dX8_init_199 rfl rfl rfl ?_
      refine g_ldc2 (v := -9223372036854775808) (pc' := 203) O dX8_init_200 tw_714 rfl ?_
      replace h := ob h; obtain ⟨M2, eM2, h⟩ := h
      refine g_last (pc' := 204) O dX8_init_203 eM2 rfl ?_
      refine g_aload_n (pc' := 205) 0 O dX8_init_204 rfl rfl rfl ?_
      replace h := ob h; obtain ⟨v3, ev3, h⟩ := h
      refine g_getF (C := RX8) (T := TX8) (N := 29) (ci := 5) (k := 13) (pc' := 208) O dX8_init_205 rfl inX8 (by decide) tw_729 (gN_F ev3) rfl ?_
      refine g_iload_n (pc' := 209) 1 O dX8_init_208 rfl rfl rfl ?_
      refine g_ldc2 (v := 9223372036854775807) (pc' := 212) O dX8_init_209 tw_715 rfl ?_
      replace h := ob h; obtain ⟨M4, eM4, h⟩ := h
      refine g_last (pc' := 213) O dX8_init_212 eM4 rfl ?_
      refine g_iinc (q := 1) (v := x1 + (1 : Int32)) (lv' := [(1, .int (x1 + (1 : Int32))), (0, .ref x0)]) (pc' := 216) O dX8_init_213 rfl rfl (by decide) rfl rfl ?_
      refine g_goto (pc' := 190) O dX8_init_216 (by decide) ?_
      refine g_sub (lv' := [(0, .ref x0), (1, .int (x1 + (1 : Int32)))]) [1, 0] rfl ?_
      exact ih x0 (x1 + (1 : Int32)) M4 h
def fX8_init  (this : Nat) (M : Mem) : Option (Mem) :=
  (nA M .int (4 : Int32) 4).bind fun M1 =>
  (pF M1 5 this 1 (.ref M.1)).bind fun M2 =>
  (nA M2 .int (24 : Int32) 24).bind fun M3 =>
  (pF M3 5 this 2 (.ref M2.1)).bind fun M4 =>
  (nA M4 .int (24 : Int32) 24).bind fun M5 =>
  (pF M5 5 this 3 (.ref M4.1)).bind fun M6 =>
  (nA M6 .int (24 : Int32) 24).bind fun M7 =>
  (pF M7 5 this 4 (.ref M6.1)).bind fun M8 =>
  (nA M8 .int (24 : Int32) 24).bind fun M9 =>
  (pF M9 5 this 5 (.ref M8.1)).bind fun M10 =>
  (nA M10 .int (24 : Int32) 24).bind fun M11 =>
  (pF M11 5 this 6 (.ref M10.1)).bind fun M12 =>
  (nA M12 .boolean (24 : Int32) 24).bind fun M13 =>
  (pF M13 5 this 7 (.ref M12.1)).bind fun M14 =>
  (nA M14 .int (24 : Int32) 24).bind fun M15 =>
  (pF M15 5 this 8 (.ref M14.1)).bind fun M16 =>
  (nA M16 .int (24 : Int32) 24).bind fun M17 =>
  (pF M17 5 this 9 (.ref M16.1)).bind fun M18 =>
  (nA M18 .int (4 : Int32) 4).bind fun M19 =>
  (pF M19 5 this 10 (.ref M18.1)).bind fun M20 =>
  (nA M20 .int (240 : Int32) 240).bind fun M21 =>
  (pF M21 5 this 11 (.ref M20.1)).bind fun M22 =>
  (nA M22 .long (12 : Int32) 12).bind fun M23 =>
  (pF M23 5 this 12 (.ref M22.1)).bind fun M24 =>
  (nA M24 .long (12 : Int32) 12).bind fun M25 =>
  (pF M25 5 this 13 (.ref M24.1)).bind fun M26 =>
  (nA M26 .int (4 : Int32) 4).bind fun M27 =>
  (pF M27 5 this 14 (.ref M26.1)).bind fun M28 =>
  (nA M28 .int (120 : Int32) 120).bind fun M29 =>
  (pF M29 5 this 15 (.ref M28.1)).bind fun M30 =>
  (nA M30 .byte (7200 : Int32) 7200).bind fun M31 =>
  (pF M31 5 this 16 (.ref M30.1)).bind fun M32 =>
  (nA M32 .int (4 : Int32) 4).bind fun M33 =>
  (pF M33 5 this 17 (.ref M32.1)).bind fun M34 =>
  (nA M34 .int (640 : Int32) 640).bind fun M35 =>
  (pF M35 5 this 18 (.ref M34.1)).bind fun M36 =>
  (nA M36 .int (200 : Int32) 200).bind fun M37 =>
  (pF M37 5 this 19 (.ref M36.1)).bind fun M38 =>
  (nA M38 .int (64 : Int32) 64).bind fun M39 =>
  (pF M39 5 this 21 (.ref M38.1)).bind fun M40 =>
  (nA M40 .int (64 : Int32) 64).bind fun M41 =>
  (pF M41 5 this 22 (.ref M40.1)).bind fun M42 =>
  (nA M42 .int (160 : Int32) 160).bind fun M43 =>
  (pF M43 5 this 25 (.ref M42.1)).bind fun M44 =>
  (nA M44 .boolean (3 : Int32) 3).bind fun M45 =>
  (pF M45 5 this 28 (.ref M44.1)).bind fun M46 =>
  fX8_init_190 FU this (0 : Int32) M46
set_option maxHeartbeats 4000000 in
set_option maxRecDepth 100000 in
theorem okX8_init {l : Launch} {p : Mem} {this : Nat} {M : Mem} (h : fX8_init this M = some p) : Cn l yX8_init mX8_init [.ref this] M none p := by
  refine Cn.of [(0, .ref this)] (by decide) rfl rfl (Nat.le_of_ble_eq_true rfl) rfl (fun κ _ hf O => ?_)
  unfold fX8_init at h
  refine g_aload_n (pc' := 1) 0 O dX8_init_0 rfl rfl rfl ?_
  refine g_objInit (pc' := 4) O dX8_init_1 tw_713 tw_74 tw_75 (by decide) (by decide) rfl ?_
  refine g_aload_n (pc' := 5) 0 O dX8_init_4 rfl rfl rfl ?_
  refine g_iconst (v := 4) (pc' := 6) O dX8_init_5 (by decide) rfl ?_
  replace h := ob h; obtain ⟨M1, eM1, h⟩ := h
  refine g_newI (M2 := M1) (pc' := 8) 4 O dX8_init_6 tw_100 eM1 (by decide) (by decide) (by decide) rfl ?_
  show G κ mX8_init 1 4 8 [(0, .ref this)] [.ref M.1, .ref this] M1
  replace h := ob h; obtain ⟨M2, eM2, h⟩ := h
  refine g_putFF (C := RX8) (T := TX8) (N := 29) (ci := 5) (k := 1) (pc' := 11) O dX8_init_8 rfl inX8 (by decide) tw_717 tyX8 tyX8_ok nmX8 rfl rfl rfl rfl rfl rfl eM2 rfl ?_
  refine g_aload_n (pc' := 12) 0 O dX8_init_11 rfl rfl rfl ?_
  refine g_bipush (v := 24) (pc' := 14) O dX8_init_12 (by decide) rfl ?_
  replace h := ob h; obtain ⟨M3, eM3, h⟩ := h
  refine g_newI (M2 := M3) (pc' := 16) 24 O dX8_init_14 tw_100 eM3 (by decide) (by decide) (by decide) rfl ?_
  show G κ mX8_init 2 28 16 [(0, .ref this)] [.ref M2.1, .ref this] M3
  replace h := ob h; obtain ⟨M4, eM4, h⟩ := h
  refine g_putFF (C := RX8) (T := TX8) (N := 29) (ci := 5) (k := 2) (pc' := 19) O dX8_init_16 rfl inX8 (by decide) tw_718 tyX8 tyX8_ok nmX8 rfl rfl rfl rfl rfl rfl eM4 rfl ?_
  refine g_aload_n (pc' := 20) 0 O dX8_init_19 rfl rfl rfl ?_
  refine g_bipush (v := 24) (pc' := 22) O dX8_init_20 (by decide) rfl ?_
  replace h := ob h; obtain ⟨M5, eM5, h⟩ := h
  refine g_newI (M2 := M5) (pc' := 24) 24 O dX8_init_22 tw_100 eM5 (by decide) (by decide) (by decide) rfl ?_
  show G κ mX8_init 3 52 24 [(0, .ref this)] [.ref M4.1, .ref this] M5
  replace h := ob h; obtain ⟨M6, eM6, h⟩ := h
  refine g_putFF (C := RX8) (T := TX8) (N := 29) (ci := 5) (k := 3) (pc' := 27) O dX8_init_24 rfl inX8 (by decide) tw_719 tyX8 tyX8_ok nmX8 rfl rfl rfl rfl rfl rfl eM6 rfl ?_
  refine g_aload_n (pc' := 28) 0 O dX8_init_27 rfl rfl rfl ?_
  refine g_bipush (v := 24) (pc' := 30) O dX8_init_28 (by decide) rfl ?_
  replace h := ob h; obtain ⟨M7, eM7, h⟩ := h
  refine g_newI (M2 := M7) (pc' := 32) 24 O dX8_init_30 tw_100 eM7 (by decide) (by decide) (by decide) rfl ?_
  show G κ mX8_init 4 76 32 [(0, .ref this)] [.ref M6.1, .ref this] M7
  replace h := ob h; obtain ⟨M8, eM8, h⟩ := h
  refine g_putFF (C := RX8) (T := TX8) (N := 29) (ci := 5) (k := 4) (pc' := 35) O dX8_init_32 rfl inX8 (by decide) tw_720 tyX8 tyX8_ok nmX8 rfl rfl rfl rfl rfl rfl eM8 rfl ?_
  refine g_aload_n (pc' := 36) 0 O dX8_init_35 rfl rfl rfl ?_
  refine g_bipush (v := 24) (pc' := 38) O dX8_init_36 (by decide) rfl ?_
  replace h := ob h; obtain ⟨M9, eM9, h⟩ := h
  refine g_newI (M2 := M9) (pc' := 40) 24 O dX8_init_38 tw_100 eM9 (by decide) (by decide) (by decide) rfl ?_
  show G κ mX8_init 5 100 40 [(0, .ref this)] [.ref M8.1, .ref this] M9
  replace h := ob h; obtain ⟨M10, eM10, h⟩ := h
  refine g_putFF (C := RX8) (T := TX8) (N := 29) (ci := 5) (k := 5) (pc' := 43) O dX8_init_40 rfl inX8 (by decide) tw_721 tyX8 tyX8_ok nmX8 rfl rfl rfl rfl rfl rfl eM10 rfl ?_
  refine g_aload_n (pc' := 44) 0 O dX8_init_43 rfl rfl rfl ?_
  refine g_bipush (v := 24) (pc' := 46) O dX8_init_44 (by decide) rfl ?_
  replace h := ob h; obtain ⟨M11, eM11, h⟩ := h
  refine g_newI (M2 := M11) (pc' := 48) 24 O dX8_init_46 tw_100 eM11 (by decide) (by decide) (by decide) rfl ?_
  show G κ mX8_init 6 124 48 [(0, .ref this)] [.ref M10.1, .ref this] M11
  replace h := ob h; obtain ⟨M12, eM12, h⟩ := h
  refine g_putFF (C := RX8) (T := TX8) (N := 29) (ci := 5) (k := 6) (pc' := 51) O dX8_init_48 rfl inX8 (by decide) tw_722 tyX8 tyX8_ok nmX8 rfl rfl rfl rfl rfl rfl eM12 rfl ?_
  refine g_aload_n (pc' := 52) 0 O dX8_init_51 rfl rfl rfl ?_
  refine g_bipush (v := 24) (pc' := 54) O dX8_init_52 (by decide) rfl ?_
  replace h := ob h; obtain ⟨M13, eM13, h⟩ := h
  refine g_newZ (M2 := M13) (pc' := 56) 24 O dX8_init_54 tw_804 eM13 (by decide) (by decide) (by decide) rfl ?_
  show G κ mX8_init 7 148 56 [(0, .ref this)] [.ref M12.1, .ref this] M13
  replace h := ob h; obtain ⟨M14, eM14, h⟩ := h
  refine g_putFF (C := RX8) (T := TX8) (N := 29) (ci := 5) (k := 7) (pc' := 59) O dX8_init_56 rfl inX8 (by decide) tw_723 tyX8 tyX8_ok nmX8 rfl rfl rfl rfl rfl rfl eM14 rfl ?_
  refine g_aload_n (pc' := 60) 0 O dX8_init_59 rfl rfl rfl ?_
  refine g_bipush (v := 24) (pc' := 62) O dX8_init_60 (by decide) rfl ?_
  replace h := ob h; obtain ⟨M15, eM15, h⟩ := h
  refine g_newI (M2 := M15) (pc' := 64) 24 O dX8_init_62 tw_100 eM15 (by decide) (by decide) (by decide) rfl ?_
  show G κ mX8_init 8 172 64 [(0, .ref this)] [.ref M14.1, .ref this] M15
  replace h := ob h; obtain ⟨M16, eM16, h⟩ := h
  refine g_putFF (C := RX8) (T := TX8) (N := 29) (ci := 5) (k := 8) (pc' := 67) O dX8_init_64 rfl inX8 (by decide) tw_724 tyX8 tyX8_ok nmX8 rfl rfl rfl rfl rfl rfl eM16 rfl ?_
  refine g_aload_n (pc' := 68) 0 O dX8_init_67 rfl rfl rfl ?_
  refine g_bipush (v := 24) (pc' := 70) O dX8_init_68 (by decide) rfl ?_
  replace h := ob h; obtain ⟨M17, eM17, h⟩ := h
  refine g_newI (M2 := M17) (pc' := 72) 24 O dX8_init_70 tw_100 eM17 (by decide) (by decide) (by decide) rfl ?_
  show G κ mX8_init 9 196 72 [(0, .ref this)] [.ref M16.1, .ref this] M17
  replace h := ob h; obtain ⟨M18, eM18, h⟩ := h
  refine g_putFF (C := RX8) (T := TX8) (N := 29) (ci := 5) (k := 9) (pc' := 75) O dX8_init_72 rfl inX8 (by decide) tw_725 tyX8 tyX8_ok nmX8 rfl rfl rfl rfl rfl rfl eM18 rfl ?_
  refine g_aload_n (pc' := 76) 0 O dX8_init_75 rfl rfl rfl ?_
  refine g_iconst (v := 4) (pc' := 77) O dX8_init_76 (by decide) rfl ?_
  replace h := ob h; obtain ⟨M19, eM19, h⟩ := h
  refine g_newI (M2 := M19) (pc' := 79) 4 O dX8_init_77 tw_100 eM19 (by decide) (by decide) (by decide) rfl ?_
  show G κ mX8_init 10 200 79 [(0, .ref this)] [.ref M18.1, .ref this] M19
  replace h := ob h; obtain ⟨M20, eM20, h⟩ := h
  refine g_putFF (C := RX8) (T := TX8) (N := 29) (ci := 5) (k := 10) (pc' := 82) O dX8_init_79 rfl inX8 (by decide) tw_726 tyX8 tyX8_ok nmX8 rfl rfl rfl rfl rfl rfl eM20 rfl ?_
  refine g_aload_n (pc' := 83) 0 O dX8_init_82 rfl rfl rfl ?_
  refine g_sipush (v := 240) (pc' := 86) O dX8_init_83 (by decide) rfl ?_
  replace h := ob h; obtain ⟨M21, eM21, h⟩ := h
  refine g_newI (M2 := M21) (pc' := 88) 240 O dX8_init_86 tw_100 eM21 (by decide) (by decide) (by decide) rfl ?_
  show G κ mX8_init 11 440 88 [(0, .ref this)] [.ref M20.1, .ref this] M21
  replace h := ob h; obtain ⟨M22, eM22, h⟩ := h
  refine g_putFF (C := RX8) (T := TX8) (N := 29) (ci := 5) (k := 11) (pc' := 91) O dX8_init_88 rfl inX8 (by decide) tw_727 tyX8 tyX8_ok nmX8 rfl rfl rfl rfl rfl rfl eM22 rfl ?_
  refine g_aload_n (pc' := 92) 0 O dX8_init_91 rfl rfl rfl ?_
  refine g_bipush (v := 12) (pc' := 94) O dX8_init_92 (by decide) rfl ?_
  replace h := ob h; obtain ⟨M23, eM23, h⟩ := h
  refine g_newJ (M2 := M23) (pc' := 96) 12 O dX8_init_94 tw_138 eM23 (by decide) (by decide) (by decide) rfl ?_
  show G κ mX8_init 12 452 96 [(0, .ref this)] [.ref M22.1, .ref this] M23
  replace h := ob h; obtain ⟨M24, eM24, h⟩ := h
  refine g_putFF (C := RX8) (T := TX8) (N := 29) (ci := 5) (k := 12) (pc' := 99) O dX8_init_96 rfl inX8 (by decide) tw_728 tyX8 tyX8_ok nmX8 rfl rfl rfl rfl rfl rfl eM24 rfl ?_
  refine g_aload_n (pc' := 100) 0 O dX8_init_99 rfl rfl rfl ?_
  refine g_bipush (v := 12) (pc' := 102) O dX8_init_100 (by decide) rfl ?_
  replace h := ob h; obtain ⟨M25, eM25, h⟩ := h
  refine g_newJ (M2 := M25) (pc' := 104) 12 O dX8_init_102 tw_138 eM25 (by decide) (by decide) (by decide) rfl ?_
  show G κ mX8_init 13 464 104 [(0, .ref this)] [.ref M24.1, .ref this] M25
  replace h := ob h; obtain ⟨M26, eM26, h⟩ := h
  refine g_putFF (C := RX8) (T := TX8) (N := 29) (ci := 5) (k := 13) (pc' := 107) O dX8_init_104 rfl inX8 (by decide) tw_729 tyX8 tyX8_ok nmX8 rfl rfl rfl rfl rfl rfl eM26 rfl ?_
  refine g_aload_n (pc' := 108) 0 O dX8_init_107 rfl rfl rfl ?_
  refine g_iconst (v := 4) (pc' := 109) O dX8_init_108 (by decide) rfl ?_
  replace h := ob h; obtain ⟨M27, eM27, h⟩ := h
  refine g_newI (M2 := M27) (pc' := 111) 4 O dX8_init_109 tw_100 eM27 (by decide) (by decide) (by decide) rfl ?_
  show G κ mX8_init 14 468 111 [(0, .ref this)] [.ref M26.1, .ref this] M27
  replace h := ob h; obtain ⟨M28, eM28, h⟩ := h
  refine g_putFF (C := RX8) (T := TX8) (N := 29) (ci := 5) (k := 14) (pc' := 114) O dX8_init_111 rfl inX8 (by decide) tw_730 tyX8 tyX8_ok nmX8 rfl rfl rfl rfl rfl rfl eM28 rfl ?_
  refine g_aload_n (pc' := 115) 0 O dX8_init_114 rfl rfl rfl ?_
  refine g_bipush (v := 120) (pc' := 117) O dX8_init_115 (by decide) rfl ?_
  replace h := ob h; obtain ⟨M29, eM29, h⟩ := h
  refine g_newI (M2 := M29) (pc' := 119) 120 O dX8_init_117 tw_100 eM29 (by decide) (by decide) (by decide) rfl ?_
  show G κ mX8_init 15 588 119 [(0, .ref this)] [.ref M28.1, .ref this] M29
  replace h := ob h; obtain ⟨M30, eM30, h⟩ := h
  refine g_putFF (C := RX8) (T := TX8) (N := 29) (ci := 5) (k := 15) (pc' := 122) O dX8_init_119 rfl inX8 (by decide) tw_731 tyX8 tyX8_ok nmX8 rfl rfl rfl rfl rfl rfl eM30 rfl ?_
  refine g_aload_n (pc' := 123) 0 O dX8_init_122 rfl rfl rfl ?_
  refine g_sipush (v := 7200) (pc' := 126) O dX8_init_123 (by decide) rfl ?_
  replace h := ob h; obtain ⟨M31, eM31, h⟩ := h
  refine g_newB (M2 := M31) (pc' := 128) 7200 O dX8_init_126 tw_607 eM31 (by decide) (by decide) (by decide) rfl ?_
  show G κ mX8_init 16 7788 128 [(0, .ref this)] [.ref M30.1, .ref this] M31
  replace h := ob h; obtain ⟨M32, eM32, h⟩ := h
  refine g_putFF (C := RX8) (T := TX8) (N := 29) (ci := 5) (k := 16) (pc' := 131) O dX8_init_128 rfl inX8 (by decide) tw_732 tyX8 tyX8_ok nmX8 rfl rfl rfl rfl rfl rfl eM32 rfl ?_
  refine g_aload_n (pc' := 132) 0 O dX8_init_131 rfl rfl rfl ?_
  refine g_iconst (v := 4) (pc' := 133) O dX8_init_132 (by decide) rfl ?_
  replace h := ob h; obtain ⟨M33, eM33, h⟩ := h
  refine g_newI (M2 := M33) (pc' := 135) 4 O dX8_init_133 tw_100 eM33 (by decide) (by decide) (by decide) rfl ?_
  show G κ mX8_init 17 7792 135 [(0, .ref this)] [.ref M32.1, .ref this] M33
  replace h := ob h; obtain ⟨M34, eM34, h⟩ := h
  refine g_putFF (C := RX8) (T := TX8) (N := 29) (ci := 5) (k := 17) (pc' := 138) O dX8_init_135 rfl inX8 (by decide) tw_733 tyX8 tyX8_ok nmX8 rfl rfl rfl rfl rfl rfl eM34 rfl ?_
  refine g_aload_n (pc' := 139) 0 O dX8_init_138 rfl rfl rfl ?_
  refine g_sipush (v := 640) (pc' := 142) O dX8_init_139 (by decide) rfl ?_
  replace h := ob h; obtain ⟨M35, eM35, h⟩ := h
  refine g_newI (M2 := M35) (pc' := 144) 640 O dX8_init_142 tw_100 eM35 (by decide) (by decide) (by decide) rfl ?_
  show G κ mX8_init 18 8432 144 [(0, .ref this)] [.ref M34.1, .ref this] M35
  replace h := ob h; obtain ⟨M36, eM36, h⟩ := h
  refine g_putFF (C := RX8) (T := TX8) (N := 29) (ci := 5) (k := 18) (pc' := 147) O dX8_init_144 rfl inX8 (by decide) tw_734 tyX8 tyX8_ok nmX8 rfl rfl rfl rfl rfl rfl eM36 rfl ?_
  refine g_aload_n (pc' := 148) 0 O dX8_init_147 rfl rfl rfl ?_
  refine g_sipush (v := 200) (pc' := 151) O dX8_init_148 (by decide) rfl ?_
  replace h := ob h; obtain ⟨M37, eM37, h⟩ := h
  refine g_newI (M2 := M37) (pc' := 153) 200 O dX8_init_151 tw_100 eM37 (by decide) (by decide) (by decide) rfl ?_
  show G κ mX8_init 19 8632 153 [(0, .ref this)] [.ref M36.1, .ref this] M37
  replace h := ob h; obtain ⟨M38, eM38, h⟩ := h
  refine g_putFF (C := RX8) (T := TX8) (N := 29) (ci := 5) (k := 19) (pc' := 156) O dX8_init_153 rfl inX8 (by decide) tw_735 tyX8 tyX8_ok nmX8 rfl rfl rfl rfl rfl rfl eM38 rfl ?_
  refine g_aload_n (pc' := 157) 0 O dX8_init_156 rfl rfl rfl ?_
  refine g_bipush (v := 64) (pc' := 159) O dX8_init_157 (by decide) rfl ?_
  replace h := ob h; obtain ⟨M39, eM39, h⟩ := h
  refine g_newI (M2 := M39) (pc' := 161) 64 O dX8_init_159 tw_100 eM39 (by decide) (by decide) (by decide) rfl ?_
  show G κ mX8_init 20 8696 161 [(0, .ref this)] [.ref M38.1, .ref this] M39
  replace h := ob h; obtain ⟨M40, eM40, h⟩ := h
  refine g_putFF (C := RX8) (T := TX8) (N := 29) (ci := 5) (k := 21) (pc' := 164) O dX8_init_161 rfl inX8 (by decide) tw_737 tyX8 tyX8_ok nmX8 rfl rfl rfl rfl rfl rfl eM40 rfl ?_
  refine g_aload_n (pc' := 165) 0 O dX8_init_164 rfl rfl rfl ?_
  refine g_bipush (v := 64) (pc' := 167) O dX8_init_165 (by decide) rfl ?_
  replace h := ob h; obtain ⟨M41, eM41, h⟩ := h
  refine g_newI (M2 := M41) (pc' := 169) 64 O dX8_init_167 tw_100 eM41 (by decide) (by decide) (by decide) rfl ?_
  show G κ mX8_init 21 8760 169 [(0, .ref this)] [.ref M40.1, .ref this] M41
  replace h := ob h; obtain ⟨M42, eM42, h⟩ := h
  refine g_putFF (C := RX8) (T := TX8) (N := 29) (ci := 5) (k := 22) (pc' := 172) O dX8_init_169 rfl inX8 (by decide) tw_738 tyX8 tyX8_ok nmX8 rfl rfl rfl rfl rfl rfl eM42 rfl ?_
  refine g_aload_n (pc' := 173) 0 O dX8_init_172 rfl rfl rfl ?_
  refine g_sipush (v := 160) (pc' := 176) O dX8_init_173 (by decide) rfl ?_
  replace h := ob h; obtain ⟨M43, eM43, h⟩ := h
  refine g_newI (M2 := M43) (pc' := 178) 160 O dX8_init_176 tw_100 eM43 (by decide) (by decide) (by decide) rfl ?_
  show G κ mX8_init 22 8920 178 [(0, .ref this)] [.ref M42.1, .ref this] M43
  replace h := ob h; obtain ⟨M44, eM44, h⟩ := h
  refine g_putFF (C := RX8) (T := TX8) (N := 29) (ci := 5) (k := 25) (pc' := 181) O dX8_init_178 rfl inX8 (by decide) tw_741 tyX8 tyX8_ok nmX8 rfl rfl rfl rfl rfl rfl eM44 rfl ?_
  refine g_aload_n (pc' := 182) 0 O dX8_init_181 rfl rfl rfl ?_
  refine g_iconst (v := 3) (pc' := 183) O dX8_init_182 (by decide) rfl ?_
  replace h := ob h; obtain ⟨M45, eM45, h⟩ := h
  refine g_newZ (M2 := M45) (pc' := 185) 3 O dX8_init_183 tw_804 eM45 (by decide) (by decide) (by decide) rfl ?_
  show G κ mX8_init 23 8923 185 [(0, .ref this)] [.ref M44.1, .ref this] M45
  replace h := ob h; obtain ⟨M46, eM46, h⟩ := h
  refine g_putFF (C := RX8) (T := TX8) (N := 29) (ci := 5) (k := 28) (pc' := 188) O dX8_init_185 rfl inX8 (by decide) tw_744 tyX8 tyX8_ok nmX8 rfl rfl rfl rfl rfl rfl eM46 rfl ?_
  refine g_iconst (v := 0) (pc' := 189) O dX8_init_188 (by decide) rfl ?_
  refine g_istore_n (lv' := [(1, .int (0 : Int32)), (0, .ref this)]) (pc' := 190) O dX8_init_189 rfl (by decide) rfl rfl ?_
  refine g_sub (lv' := [(0, .ref this), (1, .int (0 : Int32))]) [1, 0] rfl ?_
  exact tX8_init_190 O hf FU this (0 : Int32) M46 h
abbrev mX8_in : MD := (cX8_in, 3, RX8, (some .boolean), { frames := 0, cells := 0, slots := 0, locals := 0 }, "in")
theorem hyX8_in : yX8_in.cls ≠ "java/lang/invoke/MethodHandle" ∧ yX8_in.cls ≠ "java/lang/invoke/VarHandle" ∧ (parseMethodDescriptor yX8_in.desc).map (fun d => d.parameters.length) = some 3 := by decide +kernel
def fX8_in_15  (s0 : Int32) (M : Mem) : Option (Int32 × Mem) :=
  (nz s0).bind fun z1 =>
  some (z1, M)
set_option maxHeartbeats 4000000 in
set_option maxRecDepth 100000 in
theorem tX8_in_15 {κ : KT} {p : Int32 × Mem} (O : OkK κ mX8_in) (hf : κ.2.2.2.2.2.2.2.2.2.2.2.2.2 = (some (.int p.1), p.2))  {s0 : Int32} {M : Mem} (h : fX8_in_15  s0 M = some p) : G κ mX8_in 0 0 15 [] [.int s0] M := by
  unfold fX8_in_15 at h
  replace h := ob h; obtain ⟨z1, ez1, h⟩ := h
  obtain ⟨hz1, ez1b⟩ := nz_spec ez1
  rw [ez1b] at h
  cases h
  exact g_ireturn O dX8_in_15 rfl (nz_nar hz1) hf (by decide) (by decide)
def fX8_in_14  (M : Mem) : Option (Int32 × Mem) :=
  fX8_in_15 (0 : Int32) M
set_option maxHeartbeats 4000000 in
set_option maxRecDepth 100000 in
theorem tX8_in_14 {κ : KT} {p : Int32 × Mem} (O : OkK κ mX8_in) (hf : κ.2.2.2.2.2.2.2.2.2.2.2.2.2 = (some (.int p.1), p.2))  {M : Mem} (h : fX8_in_14  M = some p) : G κ mX8_in 0 0 14 [] [] M := by
  unfold fX8_in_14 at h
  refine g_iconst (v := 0) (pc' := 15) O dX8_in_14 (by decide) rfl ?_
  exact tX8_in_15 O hf h
def fX8_in  (p0 : Int32) (p1 : Int32) (p2 : Int32) (M : Mem) : Option (Int32 × Mem) :=
  if p0 < p1 then (fX8_in_14 M)
  else (if p2 < p0 then (fX8_in_14 M)
  else (fX8_in_15 (1 : Int32) M))
set_option maxHeartbeats 4000000 in
set_option maxRecDepth 100000 in
theorem okX8_in {l : Launch} {p : Int32 × Mem} {p0 : Int32} {p1 : Int32} {p2 : Int32} {M : Mem} (h : fX8_in p0 p1 p2 M = some p) : Cn l yX8_in mX8_in [.int p0, .int p1, .int p2] M (some (.int p.1)) p.2 := by
  refine Cn.of [(0, .int p0), (1, .int p1), (2, .int p2)] (by decide) rfl rfl (Nat.le_of_ble_eq_true rfl) rfl (fun κ _ hf O => ?_)
  unfold fX8_in at h
  refine g_iload_n (pc' := 1) 0 O dX8_in_0 rfl rfl rfl ?_
  refine g_iload_n (pc' := 2) 1 O dX8_in_1 rfl rfl rfl ?_
  refine g_icmp_lt (tgt := 14) (pc' := 5) O dX8_in_2 (by decide) rfl (fun hc => ?_) (fun hc => ?_)
  · replace h := ip hc h
    refine g_sub (lv' := []) [] rfl ?_
    exact tX8_in_14 O hf h
  · replace h := ine hc h
    refine g_iload_n (pc' := 6) 0 O dX8_in_5 rfl rfl rfl ?_
    refine g_iload_n (pc' := 7) 2 O dX8_in_6 rfl rfl rfl ?_
    refine g_icmp_gt (tgt := 14) (pc' := 10) O dX8_in_7 (by decide) rfl (fun hc => ?_) (fun hc => ?_)
    · replace h := ip hc h
      refine g_sub (lv' := []) [] rfl ?_
      exact tX8_in_14 O hf h
    · replace h := ine hc h
      refine g_iconst (v := 1) (pc' := 11) O dX8_in_10 (by decide) rfl ?_
      refine g_goto (pc' := 15) O dX8_in_11 (by decide) ?_
      refine g_sub (lv' := []) [] rfl ?_
      exact tX8_in_15 O hf h
abbrev mX8_move : MD := (cX8_move, 5, RX8, none, { frames := 0, cells := 0, slots := 0, locals := 0 }, "move")
theorem hyX8_move : yX8_move.cls ≠ "java/lang/invoke/MethodHandle" ∧ yX8_move.cls ≠ "java/lang/invoke/VarHandle" ∧ (parseMethodDescriptor yX8_move.desc).map (fun d => d.parameters.length) = some 4 := by decide +kernel
def fX8_move_3  : Nat → Nat → Int32 → Int32 → Int32 → Int32 → Mem → Option (Mem)
  | 0, _, _, _, _, _, _ => none
  | n + 1, x0, x1, x2, x3, x4, M =>
    if x1 ≤ x4 then (some M)
    else ((aI M x0 ((x1 * x2) + x4)).bind fun v1 =>
    (sI M x0 ((x1 * x3) + x4) v1).bind fun M2 =>
    fX8_move_3 n x0 x1 x2 x3 (x4 + (1 : Int32)) M2)
set_option maxHeartbeats 4000000 in
set_option maxRecDepth 100000 in
theorem tX8_move_3 {κ : KT} {p : Mem} (O : OkK κ mX8_move) (hf : κ.2.2.2.2.2.2.2.2.2.2.2.2.2 = (none, p))  : ∀ (n : Nat) (x0 : Nat) (x1 : Int32) (x2 : Int32) (x3 : Int32) (x4 : Int32) (M : Mem), fX8_move_3  n x0 x1 x2 x3 x4 M = some p → G κ mX8_move 0 0 3 [(0, .ref x0), (1, .int x1), (2, .int x2), (3, .int x3), (4, .int x4)] [] M := by
  intro n
  induction n with
  | zero => intro x0 x1 x2 x3 x4 M h; cases h
  | succ n ih =>
    intro x0 x1 x2 x3 x4 M h
    rw [fX8_move_3] at h
    refine g_iload (pc' := 5) 4 O dX8_move_3 rfl rfl ?_
    refine g_iload_n (pc' := 6) 1 O dX8_move_5 rfl rfl rfl ?_
    refine g_icmp_ge (tgt := 31) (pc' := 9) O dX8_move_6 (by decide) rfl (fun hc => ?_) (fun hc => ?_)
    · replace h := ip hc h
      cases h
      exact g_vreturn O dX8_move_31 rfl hf (by decide) (by decide)
    · replace h := ine hc h
      refine g_aload_n (pc' := 10) 0 O dX8_move_9 rfl rfl rfl ?_
      refine g_iload_n (pc' := 11) 1 O dX8_move_10 rfl rfl rfl ?_
      refine g_iload_n (pc' := 12) 3 O dX8_move_11 rfl rfl rfl ?_
      refine g_imul (pc' := 13) O dX8_move_12 rfl ?_
      refine g_iload (pc' := 15) 4 O dX8_move_13 rfl rfl ?_
      refine g_iadd (pc' := 16) O dX8_move_15 rfl ?_
      refine g_aload_n (pc' := 17) 0 O dX8_move_16 rfl rfl rfl ?_
      refine g_iload_n (pc' := 18) 1 O dX8_move_17 rfl rfl rfl ?_
      refine g_iload_n (pc' := 19) 2 O dX8_move_18 rfl rfl rfl ?_
      refine g_imul (pc' := 20) O dX8_move_19 rfl ?_
      refine g_iload (pc' := 22) 4 O dX8_move_20 rfl rfl ?_
      refine g_iadd (pc' := 23) O dX8_move_22 rfl ?_
      replace h := ob h; obtain ⟨v1, ev1, h⟩ := h
      refine g_iald (pc' := 24) O dX8_move_23 ev1 rfl ?_
      replace h := ob h; obtain ⟨M2, eM2, h⟩ := h
      refine g_iast (pc' := 25) O dX8_move_24 eM2 rfl ?_
      refine g_iinc (q := 4) (v := x4 + (1 : Int32)) (lv' := [(4, .int (x4 + (1 : Int32))), (0, .ref x0), (1, .int x1), (2, .int x2), (3, .int x3)]) (pc' := 28) O dX8_move_25 rfl rfl (by decide) rfl rfl ?_
      refine g_goto (pc' := 3) O dX8_move_28 (by decide) ?_
      refine g_sub (lv' := [(0, .ref x0), (1, .int x1), (2, .int x2), (3, .int x3), (4, .int (x4 + (1 : Int32)))]) [1, 2, 3, 4, 0] rfl ?_
      exact ih x0 x1 x2 x3 (x4 + (1 : Int32)) M2 h
def fX8_move  (p0 : Nat) (p1 : Int32) (p2 : Int32) (p3 : Int32) (M : Mem) : Option (Mem) :=
  fX8_move_3 FU p0 p1 p2 p3 (0 : Int32) M
set_option maxHeartbeats 4000000 in
set_option maxRecDepth 100000 in
theorem okX8_move {l : Launch} {p : Mem} {p0 : Nat} {p1 : Int32} {p2 : Int32} {p3 : Int32} {M : Mem} (h : fX8_move p0 p1 p2 p3 M = some p) : Cn l yX8_move mX8_move [.ref p0, .int p1, .int p2, .int p3] M none p := by
  refine Cn.of [(0, .ref p0), (1, .int p1), (2, .int p2), (3, .int p3)] (by decide) rfl rfl (Nat.le_of_ble_eq_true rfl) rfl (fun κ _ hf O => ?_)
  unfold fX8_move at h
  refine g_iconst (v := 0) (pc' := 1) O dX8_move_0 (by decide) rfl ?_
  refine g_istore (lv' := [(4, .int (0 : Int32)), (0, .ref p0), (1, .int p1), (2, .int p2), (3, .int p3)]) (pc' := 3) O dX8_move_1 (by decide) rfl rfl ?_
  refine g_sub (lv' := [(0, .ref p0), (1, .int p1), (2, .int p2), (3, .int p3), (4, .int (0 : Int32))]) [1, 2, 3, 4, 0] rfl ?_
  exact tX8_move_3 O hf FU p0 p1 p2 p3 (0 : Int32) M h
