abbrev mX8_lineText : MD := (cX8_lineText, 2, RX8, none, { frames := 0, cells := 0, slots := 0, locals := 0 }, "lineText")
theorem hyX8_lineText : yX8_lineText.cls ≠ "java/lang/invoke/MethodHandle" ∧ yX8_lineText.cls ≠ "java/lang/invoke/VarHandle" ∧ (parseMethodDescriptor yX8_lineText.desc).map (fun d => d.parameters.length) = some 0 := by decide +kernel
def fX8_lineText_12  : Nat → Nat → Int32 → Mem → Option (Mem)
  | 0, _, _, _ => none
  | n + 1, x0, x1, M =>
    (gI M 5 x0 20).bind fun v1 =>
    if v1 ≤ x1 then (some M)
    else ((gN M 5 x0 19).bind fun v2 =>
    (gN M 5 x0 11).bind fun v3 =>
    (aI M v3 x1).bind fun v4 =>
    (sI M v2 x1 v4).bind fun M5 =>
    fX8_lineText_12 n x0 (x1 + (1 : Int32)) M5)
set_option maxHeartbeats 4000000 in
set_option maxRecDepth 100000 in
theorem tX8_lineText_12 {κ : KT} {p : Mem} (O : OkK κ mX8_lineText) (hf : κ.2.2.2.2.2.2.2.2.2.2.2.2.2 = (none, p))  : ∀ (n : Nat) (x0 : Nat) (x1 : Int32) (M : Mem), fX8_lineText_12  n x0 x1 M = some p → G κ mX8_lineText 0 0 12 [(0, .ref x0), (1, .int x1)] [] M := by
  intro n
  induction n with
  | zero => intro x0 x1 M h; cases h
  | succ n ih =>
    intro x0 x1 M h
    rw [fX8_lineText_12] at h
    refine g_iload_n (pc' := 13) 1 O dX8_lineText_12 rfl rfl rfl ?_
    refine g_aload_n (pc' := 14) 0 O dX8_lineText_13 rfl rfl rfl ?_
    replace h := ob h; obtain ⟨v1, ev1, h⟩ := h
    refine g_getF (C := RX8) (T := TX8) (N := 29) (ci := 5) (k := 20) (pc' := 17) O dX8_lineText_14 rfl inX8 (by decide) tw_736 (gI_F ev1) rfl ?_
    refine g_icmp_ge (tgt := 38) (pc' := 20) O dX8_lineText_17 (by decide) rfl (fun hc => ?_) (fun hc => ?_)
    · replace h := ip hc h
      cases h
      exact g_vreturn O dX8_lineText_38 rfl hf (by decide) (by decide)
    · replace h := ine hc h
      refine g_aload_n (pc' := 21) 0 O dX8_lineText_20 rfl rfl rfl ?_
      replace h := ob h; obtain ⟨v2, ev2, h⟩ := h
      refine g_getF (C := RX8) (T := TX8) (N := 29) (ci := 5) (k := 19) (pc' := 24) O dX8_lineText_21 rfl inX8 (by decide) tw_735 (gN_F ev2) rfl ?_
      refine g_iload_n (pc' := 25) 1 O dX8_lineText_24 rfl rfl rfl ?_
      refine g_aload_n (pc' := 26) 0 O dX8_lineText_25 rfl rfl rfl ?_
      replace h := ob h; obtain ⟨v3, ev3, h⟩ := h
      refine g_getF (C := RX8) (T := TX8) (N := 29) (ci := 5) (k := 11) (pc' := 29) O dX8_lineText_26 rfl inX8 (by decide) tw_727 (gN_F ev3) rfl ?_
      refine g_iload_n (pc' := 30) 1 O dX8_lineText_29 rfl rfl rfl ?_
      replace h := ob h; obtain ⟨v4, ev4, h⟩ := h
      refine g_iald (pc' := 31) O dX8_lineText_30 ev4 rfl ?_
      replace h := ob h; obtain ⟨M5, eM5, h⟩ := h
      refine g_iast (pc' := 32) O dX8_lineText_31 eM5 rfl ?_
      refine g_iinc (q := 1) (v := x1 + (1 : Int32)) (lv' := [(1, .int (x1 + (1 : Int32))), (0, .ref x0)]) (pc' := 35) O dX8_lineText_32 rfl rfl (by decide) rfl rfl ?_
      refine g_goto (pc' := 12) O dX8_lineText_35 (by decide) ?_
      refine g_sub (lv' := [(0, .ref x0), (1, .int (x1 + (1 : Int32)))]) [1, 0] rfl ?_
      exact ih x0 (x1 + (1 : Int32)) M5 h
def fX8_lineText  (this : Nat) (M : Mem) : Option (Mem) :=
  (gN M 5 this 10).bind fun v1 =>
  (aI M v1 (0 : Int32)).bind fun v2 =>
  (pF M 5 this 20 (.int v2)).bind fun M3 =>
  fX8_lineText_12 FU this (0 : Int32) M3
set_option maxHeartbeats 4000000 in
set_option maxRecDepth 100000 in
theorem okX8_lineText {l : Launch} {p : Mem} {this : Nat} {M : Mem} (h : fX8_lineText this M = some p) : Cn l yX8_lineText mX8_lineText [.ref this] M none p := by
  refine Cn.of [(0, .ref this)] (by decide) rfl rfl (Nat.le_of_ble_eq_true rfl) rfl (fun κ _ hf O => ?_)
  unfold fX8_lineText at h
  refine g_aload_n (pc' := 1) 0 O dX8_lineText_0 rfl rfl rfl ?_
  refine g_aload_n (pc' := 2) 0 O dX8_lineText_1 rfl rfl rfl ?_
  replace h := ob h; obtain ⟨v1, ev1, h⟩ := h
  refine g_getF (C := RX8) (T := TX8) (N := 29) (ci := 5) (k := 10) (pc' := 5) O dX8_lineText_2 rfl inX8 (by decide) tw_726 (gN_F ev1) rfl ?_
  refine g_iconst (v := 0) (pc' := 6) O dX8_lineText_5 (by decide) rfl ?_
  replace h := ob h; obtain ⟨v2, ev2, h⟩ := h
  refine g_iald (pc' := 7) O dX8_lineText_6 ev2 rfl ?_
  replace h := ob h; obtain ⟨M3, eM3, h⟩ := h
  refine g_putF (C := RX8) (T := TX8) (N := 29) (ci := 5) (k := 20) (pc' := 10) O dX8_lineText_7 rfl inX8 (by decide) tw_736 tyX8 tyX8_ok nmX8 rfl rfl rfl rfl eM3 rfl ?_
  refine g_iconst (v := 0) (pc' := 11) O dX8_lineText_10 (by decide) rfl ?_
  refine g_istore_n (lv' := [(1, .int (0 : Int32)), (0, .ref this)]) (pc' := 12) O dX8_lineText_11 rfl (by decide) rfl rfl ?_
  refine g_sub (lv' := [(0, .ref this), (1, .int (0 : Int32))]) [1, 0] rfl ?_
  exact tX8_lineText_12 O hf FU this (0 : Int32) M3 h
abbrev mX8_rowText : MD := (cX8_rowText, 3, RX8, none, { frames := 0, cells := 0, slots := 0, locals := 0 }, "rowText")
theorem hyX8_rowText : yX8_rowText.cls ≠ "java/lang/invoke/MethodHandle" ∧ yX8_rowText.cls ≠ "java/lang/invoke/VarHandle" ∧ (parseMethodDescriptor yX8_rowText.desc).map (fun d => d.parameters.length) = some 1 := by decide +kernel
def fX8_rowText_12  : Nat → Nat → Int32 → Int32 → Mem → Option (Mem)
  | 0, _, _, _, _ => none
  | n + 1, x0, x1, x2, M =>
    (gI M 5 x0 20).bind fun v1 =>
    if v1 ≤ x2 then (some M)
    else ((gN M 5 x0 19).bind fun v2 =>
    (gN M 5 x0 16).bind fun v3 =>
    (aB M v3 (((60 : Int32) * x1) + x2)).bind fun v4 =>
    (sI M v2 x2 (v4 &&& (255 : Int32))).bind fun M5 =>
    fX8_rowText_12 n x0 x1 (x2 + (1 : Int32)) M5)
set_option maxHeartbeats 4000000 in
set_option maxRecDepth 100000 in
theorem tX8_rowText_12 {κ : KT} {p : Mem} (O : OkK κ mX8_rowText) (hf : κ.2.2.2.2.2.2.2.2.2.2.2.2.2 = (none, p))  : ∀ (n : Nat) (x0 : Nat) (x1 : Int32) (x2 : Int32) (M : Mem), fX8_rowText_12  n x0 x1 x2 M = some p → G κ mX8_rowText 0 0 12 [(0, .ref x0), (1, .int x1), (2, .int x2)] [] M := by
  intro n
  induction n with
  | zero => intro x0 x1 x2 M h; cases h
  | succ n ih =>
    intro x0 x1 x2 M h
    rw [fX8_rowText_12] at h
    refine g_iload_n (pc' := 13) 2 O dX8_rowText_12 rfl rfl rfl ?_
    refine g_aload_n (pc' := 14) 0 O dX8_rowText_13 rfl rfl rfl ?_
    replace h := ob h; obtain ⟨v1, ev1, h⟩ := h
    refine g_getF (C := RX8) (T := TX8) (N := 29) (ci := 5) (k := 20) (pc' := 17) O dX8_rowText_14 rfl inX8 (by decide) tw_736 (gI_F ev1) rfl ?_
    refine g_icmp_ge (tgt := 47) (pc' := 20) O dX8_rowText_17 (by decide) rfl (fun hc => ?_) (fun hc => ?_)
    · replace h := ip hc h
      cases h
      exact g_vreturn O dX8_rowText_47 rfl hf (by decide) (by decide)
    · replace h := ine hc h
      refine g_aload_n (pc' := 21) 0 O dX8_rowText_20 rfl rfl rfl ?_
      replace h := ob h; obtain ⟨v2, ev2, h⟩ := h
      refine g_getF (C := RX8) (T := TX8) (N := 29) (ci := 5) (k := 19) (pc' := 24) O dX8_rowText_21 rfl inX8 (by decide) tw_735 (gN_F ev2) rfl ?_
      refine g_iload_n (pc' := 25) 2 O dX8_rowText_24 rfl rfl rfl ?_
      refine g_aload_n (pc' := 26) 0 O dX8_rowText_25 rfl rfl rfl ?_
      replace h := ob h; obtain ⟨v3, ev3, h⟩ := h
      refine g_getF (C := RX8) (T := TX8) (N := 29) (ci := 5) (k := 16) (pc' := 29) O dX8_rowText_26 rfl inX8 (by decide) tw_732 (gN_F ev3) rfl ?_
      refine g_bipush (v := 60) (pc' := 31) O dX8_rowText_29 (by decide) rfl ?_
      refine g_iload_n (pc' := 32) 1 O dX8_rowText_31 rfl rfl rfl ?_
      refine g_imul (pc' := 33) O dX8_rowText_32 rfl ?_
      refine g_iload_n (pc' := 34) 2 O dX8_rowText_33 rfl rfl rfl ?_
      refine g_iadd (pc' := 35) O dX8_rowText_34 rfl ?_
      replace h := ob h; obtain ⟨v4, ev4, h⟩ := h
      refine g_bald (pc' := 36) O dX8_rowText_35 ev4 rfl ?_
      refine g_sipush (v := 255) (pc' := 39) O dX8_rowText_36 (by decide) rfl ?_
      refine g_iand (pc' := 40) O dX8_rowText_39 rfl ?_
      replace h := ob h; obtain ⟨M5, eM5, h⟩ := h
      refine g_iast (pc' := 41) O dX8_rowText_40 eM5 rfl ?_
      refine g_iinc (q := 2) (v := x2 + (1 : Int32)) (lv' := [(2, .int (x2 + (1 : Int32))), (0, .ref x0), (1, .int x1)]) (pc' := 44) O dX8_rowText_41 rfl rfl (by decide) rfl rfl ?_
      refine g_goto (pc' := 12) O dX8_rowText_44 (by decide) ?_
      refine g_sub (lv' := [(0, .ref x0), (1, .int x1), (2, .int (x2 + (1 : Int32)))]) [1, 2, 0] rfl ?_
      exact ih x0 x1 (x2 + (1 : Int32)) M5 h
def fX8_rowText  (this : Nat) (p0 : Int32) (M : Mem) : Option (Mem) :=
  (gN M 5 this 15).bind fun v1 =>
  (aI M v1 p0).bind fun v2 =>
  (pF M 5 this 20 (.int v2)).bind fun M3 =>
  fX8_rowText_12 FU this p0 (0 : Int32) M3
set_option maxHeartbeats 4000000 in
set_option maxRecDepth 100000 in
theorem okX8_rowText {l : Launch} {p : Mem} {this : Nat} {p0 : Int32} {M : Mem} (h : fX8_rowText this p0 M = some p) : Cn l yX8_rowText mX8_rowText [.ref this, .int p0] M none p := by
  refine Cn.of [(0, .ref this), (1, .int p0)] (by decide) rfl rfl (Nat.le_of_ble_eq_true rfl) rfl (fun κ _ hf O => ?_)
  unfold fX8_rowText at h
  refine g_aload_n (pc' := 1) 0 O dX8_rowText_0 rfl rfl rfl ?_
  refine g_aload_n (pc' := 2) 0 O dX8_rowText_1 rfl rfl rfl ?_
  replace h := ob h; obtain ⟨v1, ev1, h⟩ := h
  refine g_getF (C := RX8) (T := TX8) (N := 29) (ci := 5) (k := 15) (pc' := 5) O dX8_rowText_2 rfl inX8 (by decide) tw_731 (gN_F ev1) rfl ?_
  refine g_iload_n (pc' := 6) 1 O dX8_rowText_5 rfl rfl rfl ?_
  replace h := ob h; obtain ⟨v2, ev2, h⟩ := h
  refine g_iald (pc' := 7) O dX8_rowText_6 ev2 rfl ?_
  replace h := ob h; obtain ⟨M3, eM3, h⟩ := h
  refine g_putF (C := RX8) (T := TX8) (N := 29) (ci := 5) (k := 20) (pc' := 10) O dX8_rowText_7 rfl inX8 (by decide) tw_736 tyX8 tyX8_ok nmX8 rfl rfl rfl rfl eM3 rfl ?_
  refine g_iconst (v := 0) (pc' := 11) O dX8_rowText_10 (by decide) rfl ?_
  refine g_istore_n (lv' := [(2, .int (0 : Int32)), (0, .ref this), (1, .int p0)]) (pc' := 12) O dX8_rowText_11 rfl (by decide) rfl rfl ?_
  refine g_sub (lv' := [(0, .ref this), (1, .int p0), (2, .int (0 : Int32))]) [1, 2, 0] rfl ?_
  exact tX8_rowText_12 O hf FU this p0 (0 : Int32) M3 h
abbrev mX8_put : MD := (cX8_put, 3, RX8, none, { frames := 0, cells := 0, slots := 0, locals := 0 }, "put")
theorem hyX8_put : yX8_put.cls ≠ "java/lang/invoke/MethodHandle" ∧ yX8_put.cls ≠ "java/lang/invoke/VarHandle" ∧ (parseMethodDescriptor yX8_put.desc).map (fun d => d.parameters.length) = some 2 := by decide +kernel
def fX8_put  (this : Nat) (p0 : Int32) (p1 : Int32) (M : Mem) : Option (Mem) :=
  (gN M 5 this 21).bind fun v1 =>
  (gI M 5 this 23).bind fun v2 =>
  (sI M v1 v2 p0).bind fun M3 =>
  (gN M3 5 this 22).bind fun v4 =>
  (gI M3 5 this 23).bind fun v5 =>
  (sI M3 v4 v5 p1).bind fun M6 =>
  (gI M6 5 this 23).bind fun v7 =>
  (pF M6 5 this 23 (.int (v7 + (1 : Int32)))).bind fun M8 =>
  some M8
set_option maxHeartbeats 4000000 in
set_option maxRecDepth 100000 in
theorem okX8_put {l : Launch} {p : Mem} {this : Nat} {p0 : Int32} {p1 : Int32} {M : Mem} (h : fX8_put this p0 p1 M = some p) : Cn l yX8_put mX8_put [.ref this, .int p0, .int p1] M none p := by
  refine Cn.of [(0, .ref this), (1, .int p0), (2, .int p1)] (by decide) rfl rfl (Nat.le_of_ble_eq_true rfl) rfl (fun κ _ hf O => ?_)
  unfold fX8_put at h
  refine g_aload_n (pc' := 1) 0 O dX8_put_0 rfl rfl rfl ?_
  replace h := ob h; obtain ⟨v1, ev1, h⟩ := h
  refine g_getF (C := RX8) (T := TX8) (N := 29) (ci := 5) (k := 21) (pc' := 4) O dX8_put_1 rfl inX8 (by decide) tw_737 (gN_F ev1) rfl ?_
  refine g_aload_n (pc' := 5) 0 O dX8_put_4 rfl rfl rfl ?_
  replace h := ob h; obtain ⟨v2, ev2, h⟩ := h
  refine g_getF (C := RX8) (T := TX8) (N := 29) (ci := 5) (k := 23) (pc' := 8) O dX8_put_5 rfl inX8 (by decide) tw_739 (gI_F ev2) rfl ?_
  refine g_iload_n (pc' := 9) 1 O dX8_put_8 rfl rfl rfl ?_
  replace h := ob h; obtain ⟨M3, eM3, h⟩ := h
  refine g_iast (pc' := 10) O dX8_put_9 eM3 rfl ?_
  refine g_aload_n (pc' := 11) 0 O dX8_put_10 rfl rfl rfl ?_
  replace h := ob h; obtain ⟨v4, ev4, h⟩ := h
  refine g_getF (C := RX8) (T := TX8) (N := 29) (ci := 5) (k := 22) (pc' := 14) O dX8_put_11 rfl inX8 (by decide) tw_738 (gN_F ev4) rfl ?_
  refine g_aload_n (pc' := 15) 0 O dX8_put_14 rfl rfl rfl ?_
  replace h := ob h; obtain ⟨v5, ev5, h⟩ := h
  refine g_getF (C := RX8) (T := TX8) (N := 29) (ci := 5) (k := 23) (pc' := 18) O dX8_put_15 rfl inX8 (by decide) tw_739 (gI_F ev5) rfl ?_
  refine g_iload_n (pc' := 19) 2 O dX8_put_18 rfl rfl rfl ?_
  replace h := ob h; obtain ⟨M6, eM6, h⟩ := h
  refine g_iast (pc' := 20) O dX8_put_19 eM6 rfl ?_
  refine g_aload_n (pc' := 21) 0 O dX8_put_20 rfl rfl rfl ?_
  refine g_dup (pc' := 22) O dX8_put_21 rfl rfl ?_
  replace h := ob h; obtain ⟨v7, ev7, h⟩ := h
  refine g_getF (C := RX8) (T := TX8) (N := 29) (ci := 5) (k := 23) (pc' := 25) O dX8_put_22 rfl inX8 (by decide) tw_739 (gI_F ev7) rfl ?_
  refine g_iconst (v := 1) (pc' := 26) O dX8_put_25 (by decide) rfl ?_
  refine g_iadd (pc' := 27) O dX8_put_26 rfl ?_
  replace h := ob h; obtain ⟨M8, eM8, h⟩ := h
  refine g_putF (C := RX8) (T := TX8) (N := 29) (ci := 5) (k := 23) (pc' := 30) O dX8_put_27 rfl inX8 (by decide) tw_739 tyX8 tyX8_ok nmX8 rfl rfl rfl rfl eM8 rfl ?_
  cases h
  exact g_vreturn O dX8_put_30 rfl hf (by decide) (by decide)
abbrev mX8_putMark : MD := (cX8_putMark, 2, RX8, none, { frames := 1, cells := 0, slots := 0, locals := 22 }, "putMark")
theorem hyX8_putMark : yX8_putMark.cls ≠ "java/lang/invoke/MethodHandle" ∧ yX8_putMark.cls ≠ "java/lang/invoke/VarHandle" ∧ (parseMethodDescriptor yX8_putMark.desc).map (fun d => d.parameters.length) = some 1 := by decide +kernel
def fX8_putMark  (this : Nat) (p0 : Int32) (M : Mem) : Option (Mem) :=
  (gN M 5 this 6).bind fun v1 =>
  (aI M v1 p0).bind fun v2 =>
  (ck M 5 this).bind fun u3 =>
  (fX8_put this ((v2 >>> ((16 : Int32) &&& 31)) &&& (255 : Int32)) (0 : Int32) M).bind fun r4 =>
  (gN r4 5 this 6).bind fun v5 =>
  (aI r4 v5 p0).bind fun v6 =>
  (ck r4 5 this).bind fun u7 =>
  (fX8_put this ((v6 >>> ((8 : Int32) &&& 31)) &&& (255 : Int32)) (0 : Int32) r4).bind fun r8 =>
  (gN r8 5 this 6).bind fun v9 =>
  (aI r8 v9 p0).bind fun v10 =>
  (ck r8 5 this).bind fun u11 =>
  (fX8_put this (v10 &&& (255 : Int32)) (0 : Int32) r8).bind fun r12 =>
  some r12
set_option maxHeartbeats 4000000 in
set_option maxRecDepth 100000 in
theorem okX8_putMark {l : Launch} {p : Mem} {this : Nat} {p0 : Int32} {M : Mem} (h : fX8_putMark this p0 M = some p) : Cn l yX8_putMark mX8_putMark [.ref this, .int p0] M none p := by
  refine Cn.of [(0, .ref this), (1, .int p0)] (by decide) rfl rfl (Nat.le_of_ble_eq_true rfl) rfl (fun κ _ hf O => ?_)
  unfold fX8_putMark at h
  refine g_aload_n (pc' := 1) 0 O dX8_putMark_0 rfl rfl rfl ?_
  refine g_aload_n (pc' := 2) 0 O dX8_putMark_1 rfl rfl rfl ?_
  replace h := ob h; obtain ⟨v1, ev1, h⟩ := h
  refine g_getF (C := RX8) (T := TX8) (N := 29) (ci := 5) (k := 6) (pc' := 5) O dX8_putMark_2 rfl inX8 (by decide) tw_722 (gN_F ev1) rfl ?_
  refine g_iload_n (pc' := 6) 1 O dX8_putMark_5 rfl rfl rfl ?_
  replace h := ob h; obtain ⟨v2, ev2, h⟩ := h
  refine g_iald (pc' := 7) O dX8_putMark_6 ev2 rfl ?_
  refine g_bipush (v := 16) (pc' := 9) O dX8_putMark_7 (by decide) rfl ?_
  refine g_ishr (pc' := 10) O dX8_putMark_9 rfl ?_
  refine g_sipush (v := 255) (pc' := 13) O dX8_putMark_10 (by decide) rfl ?_
  refine g_iand (pc' := 14) O dX8_putMark_13 rfl ?_
  refine g_iconst (v := 0) (pc' := 15) O dX8_putMark_14 (by decide) rfl ?_
  replace h := ob h; obtain ⟨u3, eu3, h⟩ := h
  replace h := ob h; obtain ⟨r4, er4, h⟩ := h
  refine g_callV (y := yX8_put) (ν := mX8_put) (n := 2) (As := [.int ((v2 >>> ((16 : Int32) &&& 31)) &&& (255 : Int32)), .int (0 : Int32)]) (b := this) (st := []) (M2 := r4) (r1 := none) (pc' := 18) O dX8_putMark_15 tw_859 tw_58 tw_858 tw_25 tw_856 hyX8_put rfl rfl eu3 (okX8_put er4) (Nat.le_of_ble_eq_true rfl) ⟨Nat.le_of_ble_eq_true rfl, Nat.le_of_ble_eq_true rfl⟩ ⟨Nat.le_of_ble_eq_true rfl, Nat.le_of_ble_eq_true rfl⟩ rfl ?_
  show G κ mX8_putMark 0 0 18 [(0, .ref this), (1, .int p0)] [] r4
  refine g_aload_n (pc' := 19) 0 O dX8_putMark_18 rfl rfl rfl ?_
  refine g_aload_n (pc' := 20) 0 O dX8_putMark_19 rfl rfl rfl ?_
  replace h := ob h; obtain ⟨v5, ev5, h⟩ := h
  refine g_getF (C := RX8) (T := TX8) (N := 29) (ci := 5) (k := 6) (pc' := 23) O dX8_putMark_20 rfl inX8 (by decide) tw_722 (gN_F ev5) rfl ?_
  refine g_iload_n (pc' := 24) 1 O dX8_putMark_23 rfl rfl rfl ?_
  replace h := ob h; obtain ⟨v6, ev6, h⟩ := h
  refine g_iald (pc' := 25) O dX8_putMark_24 ev6 rfl ?_
  refine g_bipush (v := 8) (pc' := 27) O dX8_putMark_25 (by decide) rfl ?_
  refine g_ishr (pc' := 28) O dX8_putMark_27 rfl ?_
  refine g_sipush (v := 255) (pc' := 31) O dX8_putMark_28 (by decide) rfl ?_
  refine g_iand (pc' := 32) O dX8_putMark_31 rfl ?_
  refine g_iconst (v := 0) (pc' := 33) O dX8_putMark_32 (by decide) rfl ?_
  replace h := ob h; obtain ⟨u7, eu7, h⟩ := h
  replace h := ob h; obtain ⟨r8, er8, h⟩ := h
  refine g_callV (y := yX8_put) (ν := mX8_put) (n := 2) (As := [.int ((v6 >>> ((8 : Int32) &&& 31)) &&& (255 : Int32)), .int (0 : Int32)]) (b := this) (st := []) (M2 := r8) (r1 := none) (pc' := 36) O dX8_putMark_33 tw_859 tw_58 tw_858 tw_25 tw_856 hyX8_put rfl rfl eu7 (okX8_put er8) (Nat.le_of_ble_eq_true rfl) ⟨Nat.le_of_ble_eq_true rfl, Nat.le_of_ble_eq_true rfl⟩ ⟨Nat.le_of_ble_eq_true rfl, Nat.le_of_ble_eq_true rfl⟩ rfl ?_
  show G κ mX8_putMark 0 0 36 [(0, .ref this), (1, .int p0)] [] r8
  refine g_aload_n (pc' := 37) 0 O dX8_putMark_36 rfl rfl rfl ?_
  refine g_aload_n (pc' := 38) 0 O dX8_putMark_37 rfl rfl rfl ?_
  replace h := ob h; obtain ⟨v9, ev9, h⟩ := h
  refine g_getF (C := RX8) (T := TX8) (N := 29) (ci := 5) (k := 6) (pc' := 41) O dX8_putMark_38 rfl inX8 (by decide) tw_722 (gN_F ev9) rfl ?_
  refine g_iload_n (pc' := 42) 1 O dX8_putMark_41 rfl rfl rfl ?_
  replace h := ob h; obtain ⟨v10, ev10, h⟩ := h
  refine g_iald (pc' := 43) O dX8_putMark_42 ev10 rfl ?_
  refine g_sipush (v := 255) (pc' := 46) O dX8_putMark_43 (by decide) rfl ?_
  refine g_iand (pc' := 47) O dX8_putMark_46 rfl ?_
  refine g_iconst (v := 0) (pc' := 48) O dX8_putMark_47 (by decide) rfl ?_
  replace h := ob h; obtain ⟨u11, eu11, h⟩ := h
  replace h := ob h; obtain ⟨r12, er12, h⟩ := h
  refine g_callV (y := yX8_put) (ν := mX8_put) (n := 2) (As := [.int (v10 &&& (255 : Int32)), .int (0 : Int32)]) (b := this) (st := []) (M2 := r12) (r1 := none) (pc' := 51) O dX8_putMark_48 tw_859 tw_58 tw_858 tw_25 tw_856 hyX8_put rfl rfl eu11 (okX8_put er12) (Nat.le_of_ble_eq_true rfl) ⟨Nat.le_of_ble_eq_true rfl, Nat.le_of_ble_eq_true rfl⟩ ⟨Nat.le_of_ble_eq_true rfl, Nat.le_of_ble_eq_true rfl⟩ rfl ?_
  show G κ mX8_putMark 0 0 51 [(0, .ref this), (1, .int p0)] [] r12
  cases h
  exact g_vreturn O dX8_putMark_51 rfl hf (by decide) (by decide)
abbrev mX8_isSignBehind : MD := (cX8_isSignBehind, 3, RX8, (some .boolean), { frames := 0, cells := 0, slots := 0, locals := 0 }, "isSignBehind")
theorem hyX8_isSignBehind : yX8_isSignBehind.cls ≠ "java/lang/invoke/MethodHandle" ∧ yX8_isSignBehind.cls ≠ "java/lang/invoke/VarHandle" ∧ (parseMethodDescriptor yX8_isSignBehind.desc).map (fun d => d.parameters.length) = some 2 := by decide +kernel
def fX8_isSignBehind_46  (s0 : Int32) (M : Mem) : Option (Int32 × Mem) :=
  (nz s0).bind fun z1 =>
  some (z1, M)
set_option maxHeartbeats 4000000 in
set_option maxRecDepth 100000 in
theorem tX8_isSignBehind_46 {κ : KT} {p : Int32 × Mem} (O : OkK κ mX8_isSignBehind) (hf : κ.2.2.2.2.2.2.2.2.2.2.2.2.2 = (some (.int p.1), p.2))  {s0 : Int32} {M : Mem} (h : fX8_isSignBehind_46  s0 M = some p) : G κ mX8_isSignBehind 0 0 46 [] [.int s0] M := by
  unfold fX8_isSignBehind_46 at h
  replace h := ob h; obtain ⟨z1, ez1, h⟩ := h
  obtain ⟨hz1, ez1b⟩ := nz_spec ez1
  rw [ez1b] at h
  cases h
  exact g_ireturn O dX8_isSignBehind_46 rfl (nz_nar hz1) hf (by decide) (by decide)
def fX8_isSignBehind_45  (M : Mem) : Option (Int32 × Mem) :=
  fX8_isSignBehind_46 (0 : Int32) M
set_option maxHeartbeats 4000000 in
set_option maxRecDepth 100000 in
theorem tX8_isSignBehind_45 {κ : KT} {p : Int32 × Mem} (O : OkK κ mX8_isSignBehind) (hf : κ.2.2.2.2.2.2.2.2.2.2.2.2.2 = (some (.int p.1), p.2))  {M : Mem} (h : fX8_isSignBehind_45  M = some p) : G κ mX8_isSignBehind 0 0 45 [] [] M := by
  unfold fX8_isSignBehind_45 at h
  refine g_iconst (v := 0) (pc' := 46) O dX8_isSignBehind_45 (by decide) rfl ?_
  exact tX8_isSignBehind_46 O hf h
def fX8_isSignBehind  (this : Nat) (p0 : Int32) (p1 : Int32) (M : Mem) : Option (Int32 × Mem) :=
  if p1 = 0 then ((nz (0 : Int32)).bind fun z3 =>
  some (z3, M))
  else ((gN M 5 this 4).bind fun v1 =>
  (aI M v1 p0).bind fun v2 =>
  if v2 = 0 then (if (rmI p1 (3 : Int32)) = 0 then (fX8_isSignBehind_46 (1 : Int32) M)
  else (fX8_isSignBehind_46 (0 : Int32) M))
  else (if p1 < (3 : Int32) then (fX8_isSignBehind_45 M)
  else (if (rmI p1 (2 : Int32)) = (1 : Int32) then (fX8_isSignBehind_46 (1 : Int32) M)
  else (fX8_isSignBehind_45 M))))
set_option maxHeartbeats 4000000 in
set_option maxRecDepth 100000 in
theorem okX8_isSignBehind {l : Launch} {p : Int32 × Mem} {this : Nat} {p0 : Int32} {p1 : Int32} {M : Mem} (h : fX8_isSignBehind this p0 p1 M = some p) : Cn l yX8_isSignBehind mX8_isSignBehind [.ref this, .int p0, .int p1] M (some (.int p.1)) p.2 := by
  refine Cn.of [(0, .ref this), (1, .int p0), (2, .int p1)] (by decide) rfl rfl (Nat.le_of_ble_eq_true rfl) rfl (fun κ _ hf O => ?_)
  unfold fX8_isSignBehind at h
  refine g_iload_n (pc' := 1) 2 O dX8_isSignBehind_0 rfl rfl rfl ?_
  refine g_if_ne (tgt := 6) (pc' := 4) O dX8_isSignBehind_1 (by decide) rfl (fun hc => ?_) (fun hc => ?_)
  · replace h := ine hc h
    refine g_aload_n (pc' := 7) 0 O dX8_isSignBehind_6 rfl rfl rfl ?_
    replace h := ob h; obtain ⟨v1, ev1, h⟩ := h
    refine g_getF (C := RX8) (T := TX8) (N := 29) (ci := 5) (k := 4) (pc' := 10) O dX8_isSignBehind_7 rfl inX8 (by decide) tw_720 (gN_F ev1) rfl ?_
    refine g_iload_n (pc' := 11) 1 O dX8_isSignBehind_10 rfl rfl rfl ?_
    replace h := ob h; obtain ⟨v2, ev2, h⟩ := h
    refine g_iald (pc' := 12) O dX8_isSignBehind_11 ev2 rfl ?_
    refine g_if_ne (tgt := 29) (pc' := 15) O dX8_isSignBehind_12 (by decide) rfl (fun hc => ?_) (fun hc => ?_)
    · replace h := ine hc h
      refine g_iload_n (pc' := 30) 2 O dX8_isSignBehind_29 rfl rfl rfl ?_
      refine g_iconst (v := 3) (pc' := 31) O dX8_isSignBehind_30 (by decide) rfl ?_
      refine g_icmp_lt (tgt := 45) (pc' := 34) O dX8_isSignBehind_31 (by decide) rfl (fun hc => ?_) (fun hc => ?_)
      · replace h := ip hc h
        refine g_sub (lv' := []) [] rfl ?_
        exact tX8_isSignBehind_45 O hf h
      · replace h := ine hc h
        refine g_iload_n (pc' := 35) 2 O dX8_isSignBehind_34 rfl rfl rfl ?_
        refine g_iconst (v := 2) (pc' := 36) O dX8_isSignBehind_35 (by decide) rfl ?_
        refine g_irem2 (pc' := 37) O dX8_isSignBehind_36 (by decide) rfl ?_
        refine g_iconst (v := 1) (pc' := 38) O dX8_isSignBehind_37 (by decide) rfl ?_
        refine g_icmp_ne (tgt := 45) (pc' := 41) O dX8_isSignBehind_38 (by decide) rfl (fun hc => ?_) (fun hc => ?_)
        · replace h := ine hc h
          refine g_sub (lv' := []) [] rfl ?_
          exact tX8_isSignBehind_45 O hf h
        · replace h := ip hc h
          refine g_iconst (v := 1) (pc' := 42) O dX8_isSignBehind_41 (by decide) rfl ?_
          refine g_goto (pc' := 46) O dX8_isSignBehind_42 (by decide) ?_
          refine g_sub (lv' := []) [] rfl ?_
          exact tX8_isSignBehind_46 O hf h
    · replace h := ip hc h
      refine g_iload_n (pc' := 16) 2 O dX8_isSignBehind_15 rfl rfl rfl ?_
      refine g_iconst (v := 3) (pc' := 17) O dX8_isSignBehind_16 (by decide) rfl ?_
      refine g_irem2 (pc' := 18) O dX8_isSignBehind_17 (by decide) rfl ?_
      refine g_if_ne (tgt := 25) (pc' := 21) O dX8_isSignBehind_18 (by decide) rfl (fun hc => ?_) (fun hc => ?_)
      · replace h := ine hc h
        refine g_iconst (v := 0) (pc' := 26) O dX8_isSignBehind_25 (by decide) rfl ?_
        refine g_goto (pc' := 46) O dX8_isSignBehind_26 (by decide) ?_
        refine g_sub (lv' := []) [] rfl ?_
        exact tX8_isSignBehind_46 O hf h
      · replace h := ip hc h
        refine g_iconst (v := 1) (pc' := 22) O dX8_isSignBehind_21 (by decide) rfl ?_
        refine g_goto (pc' := 46) O dX8_isSignBehind_22 (by decide) ?_
        refine g_sub (lv' := []) [] rfl ?_
        exact tX8_isSignBehind_46 O hf h
  · replace h := ip hc h
    refine g_iconst (v := 0) (pc' := 5) O dX8_isSignBehind_4 (by decide) rfl ?_
    replace h := ob h; obtain ⟨z3, ez3, h⟩ := h
    obtain ⟨hz3, ez3b⟩ := nz_spec ez3
    rw [ez3b] at h
    cases h
    exact g_ireturn O dX8_isSignBehind_5 rfl (nz_nar hz3) hf (by decide) (by decide)
abbrev mX8_putNumber : MD := (cX8_putNumber, 6, RX8, none, { frames := 1, cells := 0, slots := 0, locals := 22 }, "putNumber")
theorem hyX8_putNumber : yX8_putNumber.cls ≠ "java/lang/invoke/MethodHandle" ∧ yX8_putNumber.cls ≠ "java/lang/invoke/VarHandle" ∧ (parseMethodDescriptor yX8_putNumber.desc).map (fun d => d.parameters.length) = some 4 := by decide +kernel
def fX8_putNumber_84  : Nat → Nat → Int32 → Int32 → Mem → Option (Mem)
  | 0, _, _, _, _ => none
  | n + 1, x0, x3, x5, M =>
    if x3 ≤ x5 then (some M)
    else ((ck M 5 x0).bind fun u1 =>
    (fX8_put x0 (-1 : Int32) (2 : Int32) M).bind fun r2 =>
    fX8_putNumber_84 n x0 x3 (x5 + (1 : Int32)) r2)
set_option maxHeartbeats 4000000 in
set_option maxRecDepth 100000 in
theorem tX8_putNumber_84 {κ : KT} {p : Mem} (O : OkK κ mX8_putNumber) (hf : κ.2.2.2.2.2.2.2.2.2.2.2.2.2 = (none, p))  : ∀ (n : Nat) (x0 : Nat) (x3 : Int32) (x5 : Int32) (M : Mem), fX8_putNumber_84  n x0 x3 x5 M = some p → G κ mX8_putNumber 0 0 84 [(0, .ref x0), (3, .int x3), (5, .int x5)] [] M := by
  intro n
  induction n with
  | zero => intro x0 x3 x5 M h; cases h
  | succ n ih =>
    intro x0 x3 x5 M h
    rw [fX8_putNumber_84] at h
    refine g_iload (pc' := 86) 2 O dX8_putNumber_84 rfl rfl ?_
    refine g_iload_n (pc' := 87) 1 O dX8_putNumber_86 rfl rfl rfl ?_
    refine g_icmp_ge (tgt := 102) (pc' := 90) O dX8_putNumber_87 (by decide) rfl (fun hc => ?_) (fun hc => ?_)
    · replace h := ip hc h
      cases h
      exact g_vreturn O dX8_putNumber_102 rfl hf (by decide) (by decide)
    · replace h := ine hc h
      refine g_aload_n (pc' := 91) 0 O dX8_putNumber_90 rfl rfl rfl ?_
      refine g_iconst (v := -1) (pc' := 92) O dX8_putNumber_91 (by decide) rfl ?_
      refine g_iconst (v := 2) (pc' := 93) O dX8_putNumber_92 (by decide) rfl ?_
      replace h := ob h; obtain ⟨u1, eu1, h⟩ := h
      replace h := ob h; obtain ⟨r2, er2, h⟩ := h
      refine g_callV (y := yX8_put) (ν := mX8_put) (n := 2) (As := [.int (-1 : Int32), .int (2 : Int32)]) (b := x0) (st := []) (M2 := r2) (r1 := none) (pc' := 96) O dX8_putNumber_93 tw_859 tw_58 tw_858 tw_25 tw_856 hyX8_put rfl rfl eu1 (okX8_put er2) (Nat.le_of_ble_eq_true rfl) ⟨Nat.le_of_ble_eq_true rfl, Nat.le_of_ble_eq_true rfl⟩ ⟨Nat.le_of_ble_eq_true rfl, Nat.le_of_ble_eq_true rfl⟩ rfl ?_
      show G κ mX8_putNumber 0 0 96 [(0, .ref x0), (3, .int x3), (5, .int x5)] [] r2
      refine g_iinc (q := 2) (v := x5 + (1 : Int32)) (lv' := [(5, .int (x5 + (1 : Int32))), (0, .ref x0), (3, .int x3)]) (pc' := 99) O dX8_putNumber_96 rfl rfl (by decide) rfl rfl ?_
      refine g_goto (pc' := 84) O dX8_putNumber_99 (by decide) ?_
      refine g_sub (lv' := [(0, .ref x0), (3, .int x3), (5, .int (x5 + (1 : Int32)))]) [1, 2, 0] rfl ?_
      exact ih x0 x3 (x5 + (1 : Int32)) r2 h
def fX8_putNumber_81  (x0 : Nat) (x3 : Int32) (M : Mem) : Option (Mem) :=
  fX8_putNumber_84 FU x0 x3 (0 : Int32) M
set_option maxHeartbeats 4000000 in
set_option maxRecDepth 100000 in
theorem tX8_putNumber_81 {κ : KT} {p : Mem} (O : OkK κ mX8_putNumber) (hf : κ.2.2.2.2.2.2.2.2.2.2.2.2.2 = (none, p))  {x0 : Nat} {x3 : Int32} {M : Mem} (h : fX8_putNumber_81  x0 x3 M = some p) : G κ mX8_putNumber 0 0 81 [(0, .ref x0), (3, .int x3)] [] M := by
  unfold fX8_putNumber_81 at h
  refine g_iconst (v := 0) (pc' := 82) O dX8_putNumber_81 (by decide) rfl ?_
  refine g_istore (lv' := [(5, .int (0 : Int32)), (0, .ref x0), (3, .int x3)]) (pc' := 84) O dX8_putNumber_82 (by decide) rfl rfl ?_
  refine g_sub (lv' := [(0, .ref x0), (3, .int x3), (5, .int (0 : Int32))]) [1, 2, 0] rfl ?_
  exact tX8_putNumber_84 O hf FU x0 x3 (0 : Int32) M h
def fX8_putNumber_60 (k3 : Nat → Int32 → Int32 → Int32 → Int32 → Int32 → Mem → Option (Mem)) (x0 : Nat) (x1 : Int32) (x2 : Int32) (x3 : Int32) (x4 : Int32) (x5 : Int32) (M : Mem) : Option (Mem) :=
  k3 x0 x1 x2 x3 x4 (x5 + (1 : Int32)) M
set_option maxHeartbeats 4000000 in
set_option maxRecDepth 100000 in
theorem tX8_putNumber_60 {κ : KT} {p : Mem} (O : OkK κ mX8_putNumber) (hf : κ.2.2.2.2.2.2.2.2.2.2.2.2.2 = (none, p)) {k3 : Nat → Int32 → Int32 → Int32 → Int32 → Int32 → Mem → Option (Mem)} (hk3 : ∀ (x0 : Nat) (x1 : Int32) (x2 : Int32) (x3 : Int32) (x4 : Int32) (x5 : Int32) (M : Mem), k3 x0 x1 x2 x3 x4 x5 M = some p → G κ mX8_putNumber 0 0 3 [(0, .ref x0), (1, .int x1), (2, .int x2), (3, .int x3), (4, .int x4), (5, .int x5)] [] M) {x0 : Nat} {x1 : Int32} {x2 : Int32} {x3 : Int32} {x4 : Int32} {x5 : Int32} {M : Mem} (h : fX8_putNumber_60 k3 x0 x1 x2 x3 x4 x5 M = some p) : G κ mX8_putNumber 0 0 60 [(0, .ref x0), (1, .int x1), (2, .int x2), (3, .int x3), (4, .int x4), (5, .int x5)] [] M := by
  unfold fX8_putNumber_60 at h
  refine g_iinc (q := 5) (v := x5 + (1 : Int32)) (lv' := [(5, .int (x5 + (1 : Int32))), (0, .ref x0), (1, .int x1), (2, .int x2), (3, .int x3), (4, .int x4)]) (pc' := 63) O dX8_putNumber_60 rfl rfl (by decide) rfl rfl ?_
  refine g_goto (pc' := 3) O dX8_putNumber_63 (by decide) ?_
  refine g_sub (lv' := [(0, .ref x0), (1, .int x1), (2, .int x2), (3, .int x3), (4, .int x4), (5, .int (x5 + (1 : Int32)))]) [1, 2, 3, 4, 5, 0] rfl ?_
  exact hk3 x0 x1 x2 x3 x4 (x5 + (1 : Int32)) M h
def fX8_putNumber_26 (k3 : Nat → Int32 → Int32 → Int32 → Int32 → Int32 → Mem → Option (Mem)) (x0 : Nat) (x1 : Int32) (x2 : Int32) (x3 : Int32) (x4 : Int32) (x5 : Int32) (s0 : Int32) (s1 : Nat) (M : Mem) : Option (Mem) :=
  (ck M 5 s1).bind fun u1 =>
  (fX8_put s1 s0 (1 : Int32) M).bind fun r2 =>
  if x4 = 0 then (fX8_putNumber_60 k3 x0 x1 x2 x3 x4 x5 r2)
  else ((ck r2 5 x0).bind fun u3 =>
  (fX8_isSignBehind x0 x1 ((x2 - (1 : Int32)) - x5) r2).bind fun r4 =>
  if r4.1 = 0 then (fX8_putNumber_60 k3 x0 x1 x2 x3 x4 x5 r4.2)
  else ((gN r4.2 5 x0 3).bind fun v5 =>
  (aI r4.2 v5 x1).bind fun v6 =>
  (ck r4.2 5 x0).bind fun u7 =>
  (fX8_put x0 v6 (0 : Int32) r4.2).bind fun r8 =>
  fX8_putNumber_60 k3 x0 x1 x2 x3 x4 x5 r8))
set_option maxHeartbeats 4000000 in
set_option maxRecDepth 100000 in
theorem tX8_putNumber_26 {κ : KT} {p : Mem} (O : OkK κ mX8_putNumber) (hf : κ.2.2.2.2.2.2.2.2.2.2.2.2.2 = (none, p)) {k3 : Nat → Int32 → Int32 → Int32 → Int32 → Int32 → Mem → Option (Mem)} (hk3 : ∀ (x0 : Nat) (x1 : Int32) (x2 : Int32) (x3 : Int32) (x4 : Int32) (x5 : Int32) (M : Mem), k3 x0 x1 x2 x3 x4 x5 M = some p → G κ mX8_putNumber 0 0 3 [(0, .ref x0), (1, .int x1), (2, .int x2), (3, .int x3), (4, .int x4), (5, .int x5)] [] M) {x0 : Nat} {x1 : Int32} {x2 : Int32} {x3 : Int32} {x4 : Int32} {x5 : Int32} {s0 : Int32} {s1 : Nat} {M : Mem} (h : fX8_putNumber_26 k3 x0 x1 x2 x3 x4 x5 s0 s1 M = some p) : G κ mX8_putNumber 0 0 26 [(0, .ref x0), (1, .int x1), (2, .int x2), (3, .int x3), (4, .int x4), (5, .int x5)] [.int s0, .ref s1] M := by
  unfold fX8_putNumber_26 at h
  refine g_iconst (v := 1) (pc' := 27) O dX8_putNumber_26 (by decide) rfl ?_
  replace h := ob h; obtain ⟨u1, eu1, h⟩ := h
  replace h := ob h; obtain ⟨r2, er2, h⟩ := h
  refine g_callV (y := yX8_put) (ν := mX8_put) (n := 2) (As := [.int s0, .int (1 : Int32)]) (b := s1) (st := []) (M2 := r2) (r1 := none) (pc' := 30) O dX8_putNumber_27 tw_859 tw_58 tw_858 tw_25 tw_856 hyX8_put rfl rfl eu1 (okX8_put er2) (Nat.le_of_ble_eq_true rfl) ⟨Nat.le_of_ble_eq_true rfl, Nat.le_of_ble_eq_true rfl⟩ ⟨Nat.le_of_ble_eq_true rfl, Nat.le_of_ble_eq_true rfl⟩ rfl ?_
  show G κ mX8_putNumber 0 0 30 [(0, .ref x0), (1, .int x1), (2, .int x2), (3, .int x3), (4, .int x4), (5, .int x5)] [] r2
  refine g_iload (pc' := 32) 4 O dX8_putNumber_30 rfl rfl ?_
  refine g_if_eq (tgt := 60) (pc' := 35) O dX8_putNumber_32 (by decide) rfl (fun hc => ?_) (fun hc => ?_)
  · replace h := ip hc h
    exact tX8_putNumber_60 O hf hk3 h
  · replace h := ine hc h
    refine g_aload_n (pc' := 36) 0 O dX8_putNumber_35 rfl rfl rfl ?_
    refine g_iload_n (pc' := 37) 1 O dX8_putNumber_36 rfl rfl rfl ?_
    refine g_iload_n (pc' := 38) 2 O dX8_putNumber_37 rfl rfl rfl ?_
    refine g_iconst (v := 1) (pc' := 39) O dX8_putNumber_38 (by decide) rfl ?_
    refine g_isub (pc' := 40) O dX8_putNumber_39 rfl ?_
    refine g_iload (pc' := 42) 5 O dX8_putNumber_40 rfl rfl ?_
    refine g_isub (pc' := 43) O dX8_putNumber_42 rfl ?_
    replace h := ob h; obtain ⟨u3, eu3, h⟩ := h
    replace h := ob h; obtain ⟨r4, er4, h⟩ := h
    refine g_callV (y := yX8_isSignBehind) (ν := mX8_isSignBehind) (n := 2) (As := [.int x1, .int ((x2 - (1 : Int32)) - x5)]) (b := x0) (st := []) (M2 := r4.2) (r1 := (some (.int r4.1))) (pc' := 46) O dX8_putNumber_43 tw_871 tw_58 tw_870 tw_28 tw_868 hyX8_isSignBehind rfl rfl eu3 (okX8_isSignBehind er4) (Nat.le_of_ble_eq_true rfl) ⟨Nat.le_of_ble_eq_true rfl, Nat.le_of_ble_eq_true rfl⟩ ⟨Nat.le_of_ble_eq_true rfl, Nat.le_of_ble_eq_true rfl⟩ rfl ?_
    show G κ mX8_putNumber 0 0 46 [(0, .ref x0), (1, .int x1), (2, .int x2), (3, .int x3), (4, .int x4), (5, .int x5)] [.int r4.1] r4.2
    refine g_if_eq (tgt := 60) (pc' := 49) O dX8_putNumber_46 (by decide) rfl (fun hc => ?_) (fun hc => ?_)
    · replace h := ip hc h
      exact tX8_putNumber_60 O hf hk3 h
    · replace h := ine hc h
      refine g_aload_n (pc' := 50) 0 O dX8_putNumber_49 rfl rfl rfl ?_
      refine g_aload_n (pc' := 51) 0 O dX8_putNumber_50 rfl rfl rfl ?_
      replace h := ob h; obtain ⟨v5, ev5, h⟩ := h
      refine g_getF (C := RX8) (T := TX8) (N := 29) (ci := 5) (k := 3) (pc' := 54) O dX8_putNumber_51 rfl inX8 (by decide) tw_719 (gN_F ev5) rfl ?_
      refine g_iload_n (pc' := 55) 1 O dX8_putNumber_54 rfl rfl rfl ?_
      replace h := ob h; obtain ⟨v6, ev6, h⟩ := h
      refine g_iald (pc' := 56) O dX8_putNumber_55 ev6 rfl ?_
      refine g_iconst (v := 0) (pc' := 57) O dX8_putNumber_56 (by decide) rfl ?_
      replace h := ob h; obtain ⟨u7, eu7, h⟩ := h
      replace h := ob h; obtain ⟨r8, er8, h⟩ := h
      refine g_callV (y := yX8_put) (ν := mX8_put) (n := 2) (As := [.int v6, .int (0 : Int32)]) (b := x0) (st := []) (M2 := r8) (r1 := none) (pc' := 60) O dX8_putNumber_57 tw_859 tw_58 tw_858 tw_25 tw_856 hyX8_put rfl rfl eu7 (okX8_put er8) (Nat.le_of_ble_eq_true rfl) ⟨Nat.le_of_ble_eq_true rfl, Nat.le_of_ble_eq_true rfl⟩ ⟨Nat.le_of_ble_eq_true rfl, Nat.le_of_ble_eq_true rfl⟩ rfl ?_
      show G κ mX8_putNumber 0 0 60 [(0, .ref x0), (1, .int x1), (2, .int x2), (3, .int x3), (4, .int x4), (5, .int x5)] [] r8
      exact tX8_putNumber_60 O hf hk3 h
def fX8_putNumber_25 (k3 : Nat → Int32 → Int32 → Int32 → Int32 → Int32 → Mem → Option (Mem)) (x0 : Nat) (x1 : Int32) (x2 : Int32) (x3 : Int32) (x4 : Int32) (x5 : Int32) (s0 : Nat) (M : Mem) : Option (Mem) :=
  fX8_putNumber_26 k3 x0 x1 x2 x3 x4 x5 (-1 : Int32) s0 M
set_option maxHeartbeats 4000000 in
set_option maxRecDepth 100000 in
theorem tX8_putNumber_25 {κ : KT} {p : Mem} (O : OkK κ mX8_putNumber) (hf : κ.2.2.2.2.2.2.2.2.2.2.2.2.2 = (none, p)) {k3 : Nat → Int32 → Int32 → Int32 → Int32 → Int32 → Mem → Option (Mem)} (hk3 : ∀ (x0 : Nat) (x1 : Int32) (x2 : Int32) (x3 : Int32) (x4 : Int32) (x5 : Int32) (M : Mem), k3 x0 x1 x2 x3 x4 x5 M = some p → G κ mX8_putNumber 0 0 3 [(0, .ref x0), (1, .int x1), (2, .int x2), (3, .int x3), (4, .int x4), (5, .int x5)] [] M) {x0 : Nat} {x1 : Int32} {x2 : Int32} {x3 : Int32} {x4 : Int32} {x5 : Int32} {s0 : Nat} {M : Mem} (h : fX8_putNumber_25 k3 x0 x1 x2 x3 x4 x5 s0 M = some p) : G κ mX8_putNumber 0 0 25 [(0, .ref x0), (1, .int x1), (2, .int x2), (3, .int x3), (4, .int x4), (5, .int x5)] [.ref s0] M := by
  unfold fX8_putNumber_25 at h
  refine g_iconst (v := -1) (pc' := 26) O dX8_putNumber_25 (by decide) rfl ?_
  exact tX8_putNumber_26 O hf hk3 h
def fX8_putNumber_3  : Nat → Nat → Int32 → Int32 → Int32 → Int32 → Int32 → Mem → Option (Mem)
  | 0, _, _, _, _, _, _, _ => none
  | n + 1, x0, x1, x2, x3, x4, x5, M =>
    if x2 ≤ x5 then (if x3 ≤ 0 then (fX8_putNumber_81 x0 x3 M)
    else ((gN M 5 x0 2).bind fun v1 =>
    (aI M v1 x1).bind fun v2 =>
    (ck M 5 x0).bind fun u3 =>
    (fX8_put x0 v2 (0 : Int32) M).bind fun r4 =>
    fX8_putNumber_81 x0 x3 r4))
    else (if x5 = 0 then (if x2 ≤ (1 : Int32) then (fX8_putNumber_25 (fX8_putNumber_3 n) x0 x1 x2 x3 x4 x5 x0 M)
    else (fX8_putNumber_26 (fX8_putNumber_3 n) x0 x1 x2 x3 x4 x5 (-2 : Int32) x0 M))
    else (fX8_putNumber_25 (fX8_putNumber_3 n) x0 x1 x2 x3 x4 x5 x0 M))
set_option maxHeartbeats 4000000 in
set_option maxRecDepth 100000 in
theorem tX8_putNumber_3 {κ : KT} {p : Mem} (O : OkK κ mX8_putNumber) (hf : κ.2.2.2.2.2.2.2.2.2.2.2.2.2 = (none, p))  : ∀ (n : Nat) (x0 : Nat) (x1 : Int32) (x2 : Int32) (x3 : Int32) (x4 : Int32) (x5 : Int32) (M : Mem), fX8_putNumber_3  n x0 x1 x2 x3 x4 x5 M = some p → G κ mX8_putNumber 0 0 3 [(0, .ref x0), (1, .int x1), (2, .int x2), (3, .int x3), (4, .int x4), (5, .int x5)] [] M := by
  intro n
  induction n with
  | zero => intro x0 x1 x2 x3 x4 x5 M h; cases h
  | succ n ih =>
    intro x0 x1 x2 x3 x4 x5 M h
    rw [fX8_putNumber_3] at h
    refine g_iload (pc' := 5) 5 O dX8_putNumber_3 rfl rfl ?_
    refine g_iload_n (pc' := 6) 2 O dX8_putNumber_5 rfl rfl rfl ?_
    refine g_icmp_ge (tgt := 66) (pc' := 9) O dX8_putNumber_6 (by decide) rfl (fun hc => ?_) (fun hc => ?_)
    · replace h := ip hc h
      refine g_iload_n (pc' := 67) 3 O dX8_putNumber_66 rfl rfl rfl ?_
      refine g_if_le (tgt := 81) (pc' := 70) O dX8_putNumber_67 (by decide) rfl (fun hc => ?_) (fun hc => ?_)
      · replace h := ip hc h
        refine g_sub (lv' := [(0, .ref x0), (3, .int x3)]) [0, 3] rfl ?_
        exact tX8_putNumber_81 O hf h
      · replace h := ine hc h
        refine g_aload_n (pc' := 71) 0 O dX8_putNumber_70 rfl rfl rfl ?_
        refine g_aload_n (pc' := 72) 0 O dX8_putNumber_71 rfl rfl rfl ?_
        replace h := ob h; obtain ⟨v1, ev1, h⟩ := h
        refine g_getF (C := RX8) (T := TX8) (N := 29) (ci := 5) (k := 2) (pc' := 75) O dX8_putNumber_72 rfl inX8 (by decide) tw_718 (gN_F ev1) rfl ?_
        refine g_iload_n (pc' := 76) 1 O dX8_putNumber_75 rfl rfl rfl ?_
        replace h := ob h; obtain ⟨v2, ev2, h⟩ := h
        refine g_iald (pc' := 77) O dX8_putNumber_76 ev2 rfl ?_
        refine g_iconst (v := 0) (pc' := 78) O dX8_putNumber_77 (by decide) rfl ?_
        replace h := ob h; obtain ⟨u3, eu3, h⟩ := h
        replace h := ob h; obtain ⟨r4, er4, h⟩ := h
        refine g_callV (y := yX8_put) (ν := mX8_put) (n := 2) (As := [.int v2, .int (0 : Int32)]) (b := x0) (st := []) (M2 := r4) (r1 := none) (pc' := 81) O dX8_putNumber_78 tw_859 tw_58 tw_858 tw_25 tw_856 hyX8_put rfl rfl eu3 (okX8_put er4) (Nat.le_of_ble_eq_true rfl) ⟨Nat.le_of_ble_eq_true rfl, Nat.le_of_ble_eq_true rfl⟩ ⟨Nat.le_of_ble_eq_true rfl, Nat.le_of_ble_eq_true rfl⟩ rfl ?_
        show G κ mX8_putNumber 0 0 81 [(0, .ref x0), (1, .int x1), (2, .int x2), (3, .int x3), (4, .int x4), (5, .int x5)] [] r4
        refine g_sub (lv' := [(0, .ref x0), (3, .int x3)]) [0, 3] rfl ?_
        exact tX8_putNumber_81 O hf h
    · replace h := ine hc h
      refine g_aload_n (pc' := 10) 0 O dX8_putNumber_9 rfl rfl rfl ?_
      refine g_iload (pc' := 12) 5 O dX8_putNumber_10 rfl rfl ?_
      refine g_if_ne (tgt := 25) (pc' := 15) O dX8_putNumber_12 (by decide) rfl (fun hc => ?_) (fun hc => ?_)
      · replace h := ine hc h
        exact tX8_putNumber_25 O hf ih h
      · replace h := ip hc h
        refine g_iload_n (pc' := 16) 2 O dX8_putNumber_15 rfl rfl rfl ?_
        refine g_iconst (v := 1) (pc' := 17) O dX8_putNumber_16 (by decide) rfl ?_
        refine g_icmp_le (tgt := 25) (pc' := 20) O dX8_putNumber_17 (by decide) rfl (fun hc => ?_) (fun hc => ?_)
        · replace h := ip hc h
          exact tX8_putNumber_25 O hf ih h
        · replace h := ine hc h
          refine g_bipush (v := -2) (pc' := 22) O dX8_putNumber_20 (by decide) rfl ?_
          refine g_goto (pc' := 26) O dX8_putNumber_22 (by decide) ?_
          exact tX8_putNumber_26 O hf ih h
def fX8_putNumber  (this : Nat) (p0 : Int32) (p1 : Int32) (p2 : Int32) (p3 : Int32) (M : Mem) : Option (Mem) :=
  fX8_putNumber_3 FU this p0 p1 p2 p3 (0 : Int32) M
set_option maxHeartbeats 4000000 in
set_option maxRecDepth 100000 in
theorem okX8_putNumber {l : Launch} {p : Mem} {this : Nat} {p0 : Int32} {p1 : Int32} {p2 : Int32} {p3 : Int32} {M : Mem} (h : fX8_putNumber this p0 p1 p2 p3 M = some p) : Cn l yX8_putNumber mX8_putNumber [.ref this, .int p0, .int p1, .int p2, .int p3] M none p := by
  refine Cn.of [(0, .ref this), (1, .int p0), (2, .int p1), (3, .int p2), (4, .int p3)] (by decide) rfl rfl (Nat.le_of_ble_eq_true rfl) rfl (fun κ _ hf O => ?_)
  unfold fX8_putNumber at h
  refine g_iconst (v := 0) (pc' := 1) O dX8_putNumber_0 (by decide) rfl ?_
  refine g_istore (lv' := [(5, .int (0 : Int32)), (0, .ref this), (1, .int p0), (2, .int p1), (3, .int p2), (4, .int p3)]) (pc' := 3) O dX8_putNumber_1 (by decide) rfl rfl ?_
  refine g_sub (lv' := [(0, .ref this), (1, .int p0), (2, .int p1), (3, .int p2), (4, .int p3), (5, .int (0 : Int32))]) [1, 2, 3, 4, 5, 0] rfl ?_
  exact tX8_putNumber_3 O hf FU this p0 p1 p2 p3 (0 : Int32) M h
abbrev mX8_putAmount : MD := (cX8_putAmount, 9, RX8, none, { frames := 2, cells := 0, slots := 0, locals := 47 }, "putAmount")
theorem hyX8_putAmount : yX8_putAmount.cls ≠ "java/lang/invoke/MethodHandle" ∧ yX8_putAmount.cls ≠ "java/lang/invoke/VarHandle" ∧ (parseMethodDescriptor yX8_putAmount.desc).map (fun d => d.parameters.length) = some 6 := by decide +kernel
def fX8_putAmount_177  (M : Mem) : Option (Mem) :=
  some M
set_option maxHeartbeats 4000000 in
set_option maxRecDepth 100000 in
theorem tX8_putAmount_177 {κ : KT} {p : Mem} (O : OkK κ mX8_putAmount) (hf : κ.2.2.2.2.2.2.2.2.2.2.2.2.2 = (none, p))  {M : Mem} (h : fX8_putAmount_177  M = some p) : G κ mX8_putAmount 0 0 177 [] [] M := by
  unfold fX8_putAmount_177 at h
  cases h
  exact g_vreturn O dX8_putAmount_177 rfl hf (by decide) (by decide)
def fX8_putAmount_173  (s0 : Int32) (s1 : Nat) (M : Mem) : Option (Mem) :=
  (ck M 5 s1).bind fun u1 =>
  (fX8_put s1 s0 (0 : Int32) M).bind fun r2 =>
  fX8_putAmount_177 r2
set_option maxHeartbeats 4000000 in
set_option maxRecDepth 100000 in
theorem tX8_putAmount_173 {κ : KT} {p : Mem} (O : OkK κ mX8_putAmount) (hf : κ.2.2.2.2.2.2.2.2.2.2.2.2.2 = (none, p))  {s0 : Int32} {s1 : Nat} {M : Mem} (h : fX8_putAmount_173  s0 s1 M = some p) : G κ mX8_putAmount 0 0 173 [] [.int s0, .ref s1] M := by
  unfold fX8_putAmount_173 at h
  refine g_iconst (v := 0) (pc' := 174) O dX8_putAmount_173 (by decide) rfl ?_
  replace h := ob h; obtain ⟨u1, eu1, h⟩ := h
  replace h := ob h; obtain ⟨r2, er2, h⟩ := h
  refine g_callV (y := yX8_put) (ν := mX8_put) (n := 2) (As := [.int s0, .int (0 : Int32)]) (b := s1) (st := []) (M2 := r2) (r1 := none) (pc' := 177) O dX8_putAmount_174 tw_859 tw_58 tw_858 tw_25 tw_856 hyX8_put rfl rfl eu1 (okX8_put er2) (Nat.le_of_ble_eq_true rfl) ⟨Nat.le_of_ble_eq_true rfl, Nat.le_of_ble_eq_true rfl⟩ ⟨Nat.le_of_ble_eq_true rfl, Nat.le_of_ble_eq_true rfl⟩ rfl ?_
  show G κ mX8_putAmount 0 0 177 [] [] r2
  exact tX8_putAmount_177 O hf h
def fX8_putAmount_141  (x0 : Nat) (x1 : Int32) (x7 : Int32) (M : Mem) : Option (Mem) :=
  if x7 = 0 then (fX8_putAmount_177 M)
  else ((gN M 5 x0 5).bind fun v1 =>
  (aI M v1 x1).bind fun v2 =>
  if v2 = 0 then (fX8_putAmount_177 M)
  else ((gN M 5 x0 5).bind fun v3 =>
  (aI M v3 x1).bind fun v4 =>
  if v4 = (1 : Int32) then (fX8_putAmount_173 (45 : Int32) x0 M)
  else (fX8_putAmount_173 (41 : Int32) x0 M)))
set_option maxHeartbeats 4000000 in
set_option maxRecDepth 100000 in
theorem tX8_putAmount_141 {κ : KT} {p : Mem} (O : OkK κ mX8_putAmount) (hf : κ.2.2.2.2.2.2.2.2.2.2.2.2.2 = (none, p))  {x0 : Nat} {x1 : Int32} {x7 : Int32} {M : Mem} (h : fX8_putAmount_141  x0 x1 x7 M = some p) : G κ mX8_putAmount 0 0 141 [(0, .ref x0), (1, .int x1), (7, .int x7)] [] M := by
  unfold fX8_putAmount_141 at h
  refine g_iload (pc' := 143) 2 O dX8_putAmount_141 rfl rfl ?_
  refine g_if_eq (tgt := 177) (pc' := 146) O dX8_putAmount_143 (by decide) rfl (fun hc => ?_) (fun hc => ?_)
  · replace h := ip hc h
    refine g_sub (lv' := []) [] rfl ?_
    exact tX8_putAmount_177 O hf h
  · replace h := ine hc h
    refine g_aload_n (pc' := 147) 0 O dX8_putAmount_146 rfl rfl rfl ?_
    replace h := ob h; obtain ⟨v1, ev1, h⟩ := h
    refine g_getF (C := RX8) (T := TX8) (N := 29) (ci := 5) (k := 5) (pc' := 150) O dX8_putAmount_147 rfl inX8 (by decide) tw_721 (gN_F ev1) rfl ?_
    refine g_iload_n (pc' := 151) 1 O dX8_putAmount_150 rfl rfl rfl ?_
    replace h := ob h; obtain ⟨v2, ev2, h⟩ := h
    refine g_iald (pc' := 152) O dX8_putAmount_151 ev2 rfl ?_
    refine g_if_eq (tgt := 177) (pc' := 155) O dX8_putAmount_152 (by decide) rfl (fun hc => ?_) (fun hc => ?_)
    · replace h := ip hc h
      refine g_sub (lv' := []) [] rfl ?_
      exact tX8_putAmount_177 O hf h
    · replace h := ine hc h
      refine g_aload_n (pc' := 156) 0 O dX8_putAmount_155 rfl rfl rfl ?_
      refine g_aload_n (pc' := 157) 0 O dX8_putAmount_156 rfl rfl rfl ?_
      replace h := ob h; obtain ⟨v3, ev3, h⟩ := h
      refine g_getF (C := RX8) (T := TX8) (N := 29) (ci := 5) (k := 5) (pc' := 160) O dX8_putAmount_157 rfl inX8 (by decide) tw_721 (gN_F ev3) rfl ?_
      refine g_iload_n (pc' := 161) 1 O dX8_putAmount_160 rfl rfl rfl ?_
      replace h := ob h; obtain ⟨v4, ev4, h⟩ := h
      refine g_iald (pc' := 162) O dX8_putAmount_161 ev4 rfl ?_
      refine g_iconst (v := 1) (pc' := 163) O dX8_putAmount_162 (by decide) rfl ?_
      refine g_icmp_ne (tgt := 171) (pc' := 166) O dX8_putAmount_163 (by decide) rfl (fun hc => ?_) (fun hc => ?_)
      · replace h := ine hc h
        refine g_bipush (v := 41) (pc' := 173) O dX8_putAmount_171 (by decide) rfl ?_
        refine g_sub (lv' := []) [] rfl ?_
        exact tX8_putAmount_173 O hf h
      · replace h := ip hc h
        refine g_bipush (v := 45) (pc' := 168) O dX8_putAmount_166 (by decide) rfl ?_
        refine g_goto (pc' := 173) O dX8_putAmount_168 (by decide) ?_
        refine g_sub (lv' := []) [] rfl ?_
        exact tX8_putAmount_173 O hf h
def fX8_putAmount_136  (x0 : Nat) (x1 : Int32) (x7 : Int32) (M : Mem) : Option (Mem) :=
  (ck M 5 x0).bind fun u1 =>
  (fX8_putMark x0 x1 M).bind fun r2 =>
  fX8_putAmount_141 x0 x1 x7 r2
set_option maxHeartbeats 4000000 in
set_option maxRecDepth 100000 in
theorem tX8_putAmount_136 {κ : KT} {p : Mem} (O : OkK κ mX8_putAmount) (hf : κ.2.2.2.2.2.2.2.2.2.2.2.2.2 = (none, p))  {x0 : Nat} {x1 : Int32} {x7 : Int32} {M : Mem} (h : fX8_putAmount_136  x0 x1 x7 M = some p) : G κ mX8_putAmount 0 0 136 [(0, .ref x0), (1, .int x1), (7, .int x7)] [] M := by
  unfold fX8_putAmount_136 at h
  refine g_aload_n (pc' := 137) 0 O dX8_putAmount_136 rfl rfl rfl ?_
  refine g_iload_n (pc' := 138) 1 O dX8_putAmount_137 rfl rfl rfl ?_
  replace h := ob h; obtain ⟨u1, eu1, h⟩ := h
  replace h := ob h; obtain ⟨r2, er2, h⟩ := h
  refine g_callV (y := yX8_putMark) (ν := mX8_putMark) (n := 1) (As := [.int x1]) (b := x0) (st := []) (M2 := r2) (r1 := none) (pc' := 141) O dX8_putAmount_138 tw_863 tw_58 tw_862 tw_26 tw_860 hyX8_putMark rfl rfl eu1 (okX8_putMark er2) (Nat.le_of_ble_eq_true rfl) ⟨Nat.le_of_ble_eq_true rfl, Nat.le_of_ble_eq_true rfl⟩ ⟨Nat.le_of_ble_eq_true rfl, Nat.le_of_ble_eq_true rfl⟩ rfl ?_
  show G κ mX8_putAmount 0 0 141 [(0, .ref x0), (1, .int x1), (7, .int x7)] [] r2
  exact tX8_putAmount_141 O hf h
def fX8_putAmount_100  (x0 : Nat) (x1 : Int32) (x2 : Int32) (x3 : Int32) (x4 : Int32) (x5 : Int32) (x7 : Int32) (x8 : Int32) (M : Mem) : Option (Mem) :=
  (ck M 5 x0).bind fun u1 =>
  (fX8_putNumber x0 x1 x3 x4 x5 M).bind fun r2 =>
  if x2 = (1 : Int32) then ((gN r2 5 x0 7).bind fun v3 =>
  (aZ r2 v3 x1).bind fun v4 =>
  if v4 = 0 then (fX8_putAmount_141 x0 x1 x7 r2)
  else (if x8 = 0 then (fX8_putAmount_136 x0 x1 x7 r2)
  else ((ck r2 5 x0).bind fun u5 =>
  (fX8_put x0 (32 : Int32) (0 : Int32) r2).bind fun r6 =>
  fX8_putAmount_136 x0 x1 x7 r6)))
  else (fX8_putAmount_141 x0 x1 x7 r2)
set_option maxHeartbeats 4000000 in
set_option maxRecDepth 100000 in
theorem tX8_putAmount_100 {κ : KT} {p : Mem} (O : OkK κ mX8_putAmount) (hf : κ.2.2.2.2.2.2.2.2.2.2.2.2.2 = (none, p))  {x0 : Nat} {x1 : Int32} {x2 : Int32} {x3 : Int32} {x4 : Int32} {x5 : Int32} {x7 : Int32} {x8 : Int32} {M : Mem} (h : fX8_putAmount_100  x0 x1 x2 x3 x4 x5 x7 x8 M = some p) : G κ mX8_putAmount 0 0 100 [(0, .ref x0), (1, .int x1), (2, .int x2), (3, .int x3), (4, .int x4), (5, .int x5), (7, .int x7), (8, .int x8)] [] M := by
  unfold fX8_putAmount_100 at h
  refine g_aload_n (pc' := 101) 0 O dX8_putAmount_100 rfl rfl rfl ?_
  refine g_iload_n (pc' := 102) 1 O dX8_putAmount_101 rfl rfl rfl ?_
  refine g_iload_n (pc' := 103) 3 O dX8_putAmount_102 rfl rfl rfl ?_
  refine g_iload (pc' := 105) 4 O dX8_putAmount_103 rfl rfl ?_
  refine g_iload (pc' := 107) 5 O dX8_putAmount_105 rfl rfl ?_
  replace h := ob h; obtain ⟨u1, eu1, h⟩ := h
  replace h := ob h; obtain ⟨r2, er2, h⟩ := h
  refine g_callV (y := yX8_putNumber) (ν := mX8_putNumber) (n := 4) (As := [.int x1, .int x3, .int x4, .int x5]) (b := x0) (st := []) (M2 := r2) (r1 := none) (pc' := 110) O dX8_putAmount_107 tw_867 tw_58 tw_866 tw_27 tw_864 hyX8_putNumber rfl rfl eu1 (okX8_putNumber er2) (Nat.le_of_ble_eq_true rfl) ⟨Nat.le_of_ble_eq_true rfl, Nat.le_of_ble_eq_true rfl⟩ ⟨Nat.le_of_ble_eq_true rfl, Nat.le_of_ble_eq_true rfl⟩ rfl ?_
  show G κ mX8_putAmount 0 0 110 [(0, .ref x0), (1, .int x1), (2, .int x2), (3, .int x3), (4, .int x4), (5, .int x5), (7, .int x7), (8, .int x8)] [] r2
  refine g_iload_n (pc' := 111) 2 O dX8_putAmount_110 rfl rfl rfl ?_
  refine g_iconst (v := 1) (pc' := 112) O dX8_putAmount_111 (by decide) rfl ?_
  refine g_icmp_ne (tgt := 141) (pc' := 115) O dX8_putAmount_112 (by decide) rfl (fun hc => ?_) (fun hc => ?_)
  · replace h := ine hc h
    refine g_sub (lv' := [(0, .ref x0), (1, .int x1), (7, .int x7)]) [0, 1, 6] rfl ?_
    exact tX8_putAmount_141 O hf h
  · replace h := ip hc h
    refine g_aload_n (pc' := 116) 0 O dX8_putAmount_115 rfl rfl rfl ?_
    replace h := ob h; obtain ⟨v3, ev3, h⟩ := h
    refine g_getF (C := RX8) (T := TX8) (N := 29) (ci := 5) (k := 7) (pc' := 119) O dX8_putAmount_116 rfl inX8 (by decide) tw_723 (gN_F ev3) rfl ?_
    refine g_iload_n (pc' := 120) 1 O dX8_putAmount_119 rfl rfl rfl ?_
    replace h := ob h; obtain ⟨v4, ev4, h⟩ := h
    refine g_zald (pc' := 121) O dX8_putAmount_120 ev4 rfl ?_
    refine g_if_eq (tgt := 141) (pc' := 124) O dX8_putAmount_121 (by decide) rfl (fun hc => ?_) (fun hc => ?_)
    · replace h := ip hc h
      refine g_sub (lv' := [(0, .ref x0), (1, .int x1), (7, .int x7)]) [0, 1, 6] rfl ?_
      exact tX8_putAmount_141 O hf h
    · replace h := ine hc h
      refine g_iload (pc' := 126) 7 O dX8_putAmount_124 rfl rfl ?_
      refine g_if_eq (tgt := 136) (pc' := 129) O dX8_putAmount_126 (by decide) rfl (fun hc => ?_) (fun hc => ?_)
      · replace h := ip hc h
        refine g_sub (lv' := [(0, .ref x0), (1, .int x1), (7, .int x7)]) [0, 1, 6] rfl ?_
        exact tX8_putAmount_136 O hf h
      · replace h := ine hc h
        refine g_aload_n (pc' := 130) 0 O dX8_putAmount_129 rfl rfl rfl ?_
        refine g_bipush (v := 32) (pc' := 132) O dX8_putAmount_130 (by decide) rfl ?_
        refine g_iconst (v := 0) (pc' := 133) O dX8_putAmount_132 (by decide) rfl ?_
        replace h := ob h; obtain ⟨u5, eu5, h⟩ := h
        replace h := ob h; obtain ⟨r6, er6, h⟩ := h
        refine g_callV (y := yX8_put) (ν := mX8_put) (n := 2) (As := [.int (32 : Int32), .int (0 : Int32)]) (b := x0) (st := []) (M2 := r6) (r1 := none) (pc' := 136) O dX8_putAmount_133 tw_859 tw_58 tw_858 tw_25 tw_856 hyX8_put rfl rfl eu5 (okX8_put er6) (Nat.le_of_ble_eq_true rfl) ⟨Nat.le_of_ble_eq_true rfl, Nat.le_of_ble_eq_true rfl⟩ ⟨Nat.le_of_ble_eq_true rfl, Nat.le_of_ble_eq_true rfl⟩ rfl ?_
        show G κ mX8_putAmount 0 0 136 [(0, .ref x0), (1, .int x1), (2, .int x2), (3, .int x3), (4, .int x4), (5, .int x5), (7, .int x7), (8, .int x8)] [] r6
        refine g_sub (lv' := [(0, .ref x0), (1, .int x1), (7, .int x7)]) [0, 1, 6] rfl ?_
        exact tX8_putAmount_136 O hf h
def fX8_putAmount_69  (x0 : Nat) (x1 : Int32) (x2 : Int32) (x3 : Int32) (x4 : Int32) (x5 : Int32) (x7 : Int32) (x8 : Int32) (M : Mem) : Option (Mem) :=
  if x2 = (1 : Int32) then ((gN M 5 x0 7).bind fun v1 =>
  (aZ M v1 x1).bind fun v2 =>
  if v2 = 0 then ((ck M 5 x0).bind fun u3 =>
  (fX8_putMark x0 x1 M).bind fun r4 =>
  if x8 = 0 then (fX8_putAmount_100 x0 x1 x2 x3 x4 x5 x7 x8 r4)
  else ((ck r4 5 x0).bind fun u5 =>
  (fX8_put x0 (32 : Int32) (0 : Int32) r4).bind fun r6 =>
  fX8_putAmount_100 x0 x1 x2 x3 x4 x5 x7 x8 r6))
  else (fX8_putAmount_100 x0 x1 x2 x3 x4 x5 x7 x8 M))
  else (fX8_putAmount_100 x0 x1 x2 x3 x4 x5 x7 x8 M)
set_option maxHeartbeats 4000000 in
set_option maxRecDepth 100000 in
theorem tX8_putAmount_69 {κ : KT} {p : Mem} (O : OkK κ mX8_putAmount) (hf : κ.2.2.2.2.2.2.2.2.2.2.2.2.2 = (none, p))  {x0 : Nat} {x1 : Int32} {x2 : Int32} {x3 : Int32} {x4 : Int32} {x5 : Int32} {x7 : Int32} {x8 : Int32} {M : Mem} (h : fX8_putAmount_69  x0 x1 x2 x3 x4 x5 x7 x8 M = some p) : G κ mX8_putAmount 0 0 69 [(0, .ref x0), (1, .int x1), (2, .int x2), (3, .int x3), (4, .int x4), (5, .int x5), (7, .int x7), (8, .int x8)] [] M := by
  unfold fX8_putAmount_69 at h
  refine g_iload_n (pc' := 70) 2 O dX8_putAmount_69 rfl rfl rfl ?_
  refine g_iconst (v := 1) (pc' := 71) O dX8_putAmount_70 (by decide) rfl ?_
  refine g_icmp_ne (tgt := 100) (pc' := 74) O dX8_putAmount_71 (by decide) rfl (fun hc => ?_) (fun hc => ?_)
  · replace h := ine hc h
    exact tX8_putAmount_100 O hf h
  · replace h := ip hc h
    refine g_aload_n (pc' := 75) 0 O dX8_putAmount_74 rfl rfl rfl ?_
    replace h := ob h; obtain ⟨v1, ev1, h⟩ := h
    refine g_getF (C := RX8) (T := TX8) (N := 29) (ci := 5) (k := 7) (pc' := 78) O dX8_putAmount_75 rfl inX8 (by decide) tw_723 (gN_F ev1) rfl ?_
    refine g_iload_n (pc' := 79) 1 O dX8_putAmount_78 rfl rfl rfl ?_
    replace h := ob h; obtain ⟨v2, ev2, h⟩ := h
    refine g_zald (pc' := 80) O dX8_putAmount_79 ev2 rfl ?_
    refine g_if_ne (tgt := 100) (pc' := 83) O dX8_putAmount_80 (by decide) rfl (fun hc => ?_) (fun hc => ?_)
    · replace h := ine hc h
      exact tX8_putAmount_100 O hf h
    · replace h := ip hc h
      refine g_aload_n (pc' := 84) 0 O dX8_putAmount_83 rfl rfl rfl ?_
      refine g_iload_n (pc' := 85) 1 O dX8_putAmount_84 rfl rfl rfl ?_
      replace h := ob h; obtain ⟨u3, eu3, h⟩ := h
      replace h := ob h; obtain ⟨r4, er4, h⟩ := h
      refine g_callV (y := yX8_putMark) (ν := mX8_putMark) (n := 1) (As := [.int x1]) (b := x0) (st := []) (M2 := r4) (r1 := none) (pc' := 88) O dX8_putAmount_85 tw_863 tw_58 tw_862 tw_26 tw_860 hyX8_putMark rfl rfl eu3 (okX8_putMark er4) (Nat.le_of_ble_eq_true rfl) ⟨Nat.le_of_ble_eq_true rfl, Nat.le_of_ble_eq_true rfl⟩ ⟨Nat.le_of_ble_eq_true rfl, Nat.le_of_ble_eq_true rfl⟩ rfl ?_
      show G κ mX8_putAmount 0 0 88 [(0, .ref x0), (1, .int x1), (2, .int x2), (3, .int x3), (4, .int x4), (5, .int x5), (7, .int x7), (8, .int x8)] [] r4
      refine g_iload (pc' := 90) 7 O dX8_putAmount_88 rfl rfl ?_
      refine g_if_eq (tgt := 100) (pc' := 93) O dX8_putAmount_90 (by decide) rfl (fun hc => ?_) (fun hc => ?_)
      · replace h := ip hc h
        exact tX8_putAmount_100 O hf h
      · replace h := ine hc h
        refine g_aload_n (pc' := 94) 0 O dX8_putAmount_93 rfl rfl rfl ?_
        refine g_bipush (v := 32) (pc' := 96) O dX8_putAmount_94 (by decide) rfl ?_
        refine g_iconst (v := 0) (pc' := 97) O dX8_putAmount_96 (by decide) rfl ?_
        replace h := ob h; obtain ⟨u5, eu5, h⟩ := h
        replace h := ob h; obtain ⟨r6, er6, h⟩ := h
        refine g_callV (y := yX8_put) (ν := mX8_put) (n := 2) (As := [.int (32 : Int32), .int (0 : Int32)]) (b := x0) (st := []) (M2 := r6) (r1 := none) (pc' := 100) O dX8_putAmount_97 tw_859 tw_58 tw_858 tw_25 tw_856 hyX8_put rfl rfl eu5 (okX8_put er6) (Nat.le_of_ble_eq_true rfl) ⟨Nat.le_of_ble_eq_true rfl, Nat.le_of_ble_eq_true rfl⟩ ⟨Nat.le_of_ble_eq_true rfl, Nat.le_of_ble_eq_true rfl⟩ rfl ?_
        show G κ mX8_putAmount 0 0 100 [(0, .ref x0), (1, .int x1), (2, .int x2), (3, .int x3), (4, .int x4), (5, .int x5), (7, .int x7), (8, .int x8)] [] r6
        exact tX8_putAmount_100 O hf h
def fX8_putAmount_65  (x0 : Nat) (x1 : Int32) (x2 : Int32) (x3 : Int32) (x4 : Int32) (x5 : Int32) (x7 : Int32) (x8 : Int32) (s0 : Int32) (s1 : Nat) (M : Mem) : Option (Mem) :=
  (ck M 5 s1).bind fun u1 =>
  (fX8_put s1 s0 (0 : Int32) M).bind fun r2 =>
  fX8_putAmount_69 x0 x1 x2 x3 x4 x5 x7 x8 r2
set_option maxHeartbeats 4000000 in
set_option maxRecDepth 100000 in
theorem tX8_putAmount_65 {κ : KT} {p : Mem} (O : OkK κ mX8_putAmount) (hf : κ.2.2.2.2.2.2.2.2.2.2.2.2.2 = (none, p))  {x0 : Nat} {x1 : Int32} {x2 : Int32} {x3 : Int32} {x4 : Int32} {x5 : Int32} {x7 : Int32} {x8 : Int32} {s0 : Int32} {s1 : Nat} {M : Mem} (h : fX8_putAmount_65  x0 x1 x2 x3 x4 x5 x7 x8 s0 s1 M = some p) : G κ mX8_putAmount 0 0 65 [(0, .ref x0), (1, .int x1), (2, .int x2), (3, .int x3), (4, .int x4), (5, .int x5), (7, .int x7), (8, .int x8)] [.int s0, .ref s1] M := by
  unfold fX8_putAmount_65 at h
  refine g_iconst (v := 0) (pc' := 66) O dX8_putAmount_65 (by decide) rfl ?_
  replace h := ob h; obtain ⟨u1, eu1, h⟩ := h
  replace h := ob h; obtain ⟨r2, er2, h⟩ := h
  refine g_callV (y := yX8_put) (ν := mX8_put) (n := 2) (As := [.int s0, .int (0 : Int32)]) (b := s1) (st := []) (M2 := r2) (r1 := none) (pc' := 69) O dX8_putAmount_66 tw_859 tw_58 tw_858 tw_25 tw_856 hyX8_put rfl rfl eu1 (okX8_put er2) (Nat.le_of_ble_eq_true rfl) ⟨Nat.le_of_ble_eq_true rfl, Nat.le_of_ble_eq_true rfl⟩ ⟨Nat.le_of_ble_eq_true rfl, Nat.le_of_ble_eq_true rfl⟩ rfl ?_
  show G κ mX8_putAmount 0 0 69 [(0, .ref x0), (1, .int x1), (2, .int x2), (3, .int x3), (4, .int x4), (5, .int x5), (7, .int x7), (8, .int x8)] [] r2
  exact tX8_putAmount_69 O hf h
def fX8_putAmount_31  (x0 : Nat) (x1 : Int32) (x2 : Int32) (x3 : Int32) (x4 : Int32) (x5 : Int32) (x7 : Int32) (s0 : Int32) (M : Mem) : Option (Mem) :=
  if x7 = 0 then (fX8_putAmount_69 x0 x1 x2 x3 x4 x5 x7 s0 M)
  else ((gN M 5 x0 5).bind fun v1 =>
  (aI M v1 x1).bind fun v2 =>
  if v2 = (1 : Int32) then (fX8_putAmount_69 x0 x1 x2 x3 x4 x5 x7 s0 M)
  else ((gN M 5 x0 5).bind fun v3 =>
  (aI M v3 x1).bind fun v4 =>
  if v4 = 0 then (fX8_putAmount_65 x0 x1 x2 x3 x4 x5 x7 s0 (45 : Int32) x0 M)
  else (fX8_putAmount_65 x0 x1 x2 x3 x4 x5 x7 s0 (40 : Int32) x0 M)))
set_option maxHeartbeats 4000000 in
set_option maxRecDepth 100000 in
theorem tX8_putAmount_31 {κ : KT} {p : Mem} (O : OkK κ mX8_putAmount) (hf : κ.2.2.2.2.2.2.2.2.2.2.2.2.2 = (none, p))  {x0 : Nat} {x1 : Int32} {x2 : Int32} {x3 : Int32} {x4 : Int32} {x5 : Int32} {x7 : Int32} {s0 : Int32} {M : Mem} (h : fX8_putAmount_31  x0 x1 x2 x3 x4 x5 x7 s0 M = some p) : G κ mX8_putAmount 0 0 31 [(0, .ref x0), (1, .int x1), (2, .int x2), (3, .int x3), (4, .int x4), (5, .int x5), (7, .int x7)] [.int s0] M := by
  unfold fX8_putAmount_31 at h
  refine g_istore (lv' := [(8, .int s0), (0, .ref x0), (1, .int x1), (2, .int x2), (3, .int x3), (4, .int x4), (5, .int x5), (7, .int x7)]) (pc' := 33) O dX8_putAmount_31 (by decide) rfl rfl ?_
  refine g_iload (pc' := 35) 7 O dX8_putAmount_33 rfl rfl ?_
  refine g_if_eq (tgt := 69) (pc' := 38) O dX8_putAmount_35 (by decide) rfl (fun hc => ?_) (fun hc => ?_)
  · replace h := ip hc h
    refine g_sub (lv' := [(0, .ref x0), (1, .int x1), (2, .int x2), (3, .int x3), (4, .int x4), (5, .int x5), (7, .int x7), (8, .int s0)]) [1, 2, 3, 4, 5, 6, 7, 0] rfl ?_
    exact tX8_putAmount_69 O hf h
  · replace h := ine hc h
    refine g_aload_n (pc' := 39) 1 O dX8_putAmount_38 rfl rfl rfl ?_
    replace h := ob h; obtain ⟨v1, ev1, h⟩ := h
    refine g_getF (C := RX8) (T := TX8) (N := 29) (ci := 5) (k := 5) (pc' := 42) O dX8_putAmount_39 rfl inX8 (by decide) tw_721 (gN_F ev1) rfl ?_
    refine g_iload_n (pc' := 43) 2 O dX8_putAmount_42 rfl rfl rfl ?_
    replace h := ob h; obtain ⟨v2, ev2, h⟩ := h
    refine g_iald (pc' := 44) O dX8_putAmount_43 ev2 rfl ?_
    refine g_iconst (v := 1) (pc' := 45) O dX8_putAmount_44 (by decide) rfl ?_
    refine g_icmp_eq (tgt := 69) (pc' := 48) O dX8_putAmount_45 (by decide) rfl (fun hc => ?_) (fun hc => ?_)
    · replace h := ip hc h
      refine g_sub (lv' := [(0, .ref x0), (1, .int x1), (2, .int x2), (3, .int x3), (4, .int x4), (5, .int x5), (7, .int x7), (8, .int s0)]) [1, 2, 3, 4, 5, 6, 7, 0] rfl ?_
      exact tX8_putAmount_69 O hf h
    · replace h := ine hc h
      refine g_aload_n (pc' := 49) 1 O dX8_putAmount_48 rfl rfl rfl ?_
      refine g_aload_n (pc' := 50) 1 O dX8_putAmount_49 rfl rfl rfl ?_
      replace h := ob h; obtain ⟨v3, ev3, h⟩ := h
      refine g_getF (C := RX8) (T := TX8) (N := 29) (ci := 5) (k := 5) (pc' := 53) O dX8_putAmount_50 rfl inX8 (by decide) tw_721 (gN_F ev3) rfl ?_
      refine g_iload_n (pc' := 54) 2 O dX8_putAmount_53 rfl rfl rfl ?_
      replace h := ob h; obtain ⟨v4, ev4, h⟩ := h
      refine g_iald (pc' := 55) O dX8_putAmount_54 ev4 rfl ?_
      refine g_if_ne (tgt := 63) (pc' := 58) O dX8_putAmount_55 (by decide) rfl (fun hc => ?_) (fun hc => ?_)
      · replace h := ine hc h
        refine g_bipush (v := 40) (pc' := 65) O dX8_putAmount_63 (by decide) rfl ?_
        refine g_sub (lv' := [(0, .ref x0), (1, .int x1), (2, .int x2), (3, .int x3), (4, .int x4), (5, .int x5), (7, .int x7), (8, .int s0)]) [1, 2, 3, 4, 5, 6, 7, 0] rfl ?_
        exact tX8_putAmount_65 O hf h
      · replace h := ip hc h
        refine g_bipush (v := 45) (pc' := 60) O dX8_putAmount_58 (by decide) rfl ?_
        refine g_goto (pc' := 65) O dX8_putAmount_60 (by decide) ?_
        refine g_sub (lv' := [(0, .ref x0), (1, .int x1), (2, .int x2), (3, .int x3), (4, .int x4), (5, .int x5), (7, .int x7), (8, .int s0)]) [1, 2, 3, 4, 5, 6, 7, 0] rfl ?_
        exact tX8_putAmount_65 O hf h
def fX8_putAmount_17  (x0 : Nat) (x1 : Int32) (x2 : Int32) (x3 : Int32) (x4 : Int32) (x5 : Int32) (x6 : Int32) (s0 : Int32) (M : Mem) : Option (Mem) :=
  if (x6 &&& (2 : Int32)) = 0 then (fX8_putAmount_31 x0 x1 x2 x3 x4 x5 s0 (0 : Int32) M)
  else (fX8_putAmount_31 x0 x1 x2 x3 x4 x5 s0 (1 : Int32) M)
set_option maxHeartbeats 4000000 in
set_option maxRecDepth 100000 in
theorem tX8_putAmount_17 {κ : KT} {p : Mem} (O : OkK κ mX8_putAmount) (hf : κ.2.2.2.2.2.2.2.2.2.2.2.2.2 = (none, p))  {x0 : Nat} {x1 : Int32} {x2 : Int32} {x3 : Int32} {x4 : Int32} {x5 : Int32} {x6 : Int32} {s0 : Int32} {M : Mem} (h : fX8_putAmount_17  x0 x1 x2 x3 x4 x5 x6 s0 M = some p) : G κ mX8_putAmount 0 0 17 [(0, .ref x0), (1, .int x1), (2, .int x2), (3, .int x3), (4, .int x4), (5, .int x5), (6, .int x6)] [.int s0] M := by
  unfold fX8_putAmount_17 at h
  refine g_istore (lv' := [(7, .int s0), (0, .ref x0), (1, .int x1), (2, .int x2), (3, .int x3), (4, .int x4), (5, .int x5), (6, .int x6)]) (pc' := 19) O dX8_putAmount_17 (by decide) rfl rfl ?_
  refine g_iload (pc' := 21) 7 O dX8_putAmount_19 rfl rfl ?_
  refine g_iconst (v := 2) (pc' := 22) O dX8_putAmount_21 (by decide) rfl ?_
  refine g_iand (pc' := 23) O dX8_putAmount_22 rfl ?_
  refine g_if_eq (tgt := 30) (pc' := 26) O dX8_putAmount_23 (by decide) rfl (fun hc => ?_) (fun hc => ?_)
  · replace h := ip hc h
    refine g_iconst (v := 0) (pc' := 31) O dX8_putAmount_30 (by decide) rfl ?_
    refine g_sub (lv' := [(0, .ref x0), (1, .int x1), (2, .int x2), (3, .int x3), (4, .int x4), (5, .int x5), (7, .int s0)]) [1, 2, 3, 4, 5, 6, 0] rfl ?_
    exact tX8_putAmount_31 O hf h
  · replace h := ine hc h
    refine g_iconst (v := 1) (pc' := 27) O dX8_putAmount_26 (by decide) rfl ?_
    refine g_goto (pc' := 31) O dX8_putAmount_27 (by decide) ?_
    refine g_sub (lv' := [(0, .ref x0), (1, .int x1), (2, .int x2), (3, .int x3), (4, .int x4), (5, .int x5), (7, .int s0)]) [1, 2, 3, 4, 5, 6, 0] rfl ?_
    exact tX8_putAmount_31 O hf h
def fX8_putAmount  (this : Nat) (p0 : Int32) (p1 : Int32) (p2 : Int32) (p3 : Int32) (p4 : Int32) (p5 : Int32) (M : Mem) : Option (Mem) :=
  (pF M 5 this 23 (.int (0 : Int32))).bind fun M1 =>
  if (p5 &&& (1 : Int32)) = 0 then (fX8_putAmount_17 this p0 p1 p2 p3 p4 p5 (0 : Int32) M1)
  else (fX8_putAmount_17 this p0 p1 p2 p3 p4 p5 (1 : Int32) M1)
set_option maxHeartbeats 4000000 in
set_option maxRecDepth 100000 in
theorem okX8_putAmount {l : Launch} {p : Mem} {this : Nat} {p0 : Int32} {p1 : Int32} {p2 : Int32} {p3 : Int32} {p4 : Int32} {p5 : Int32} {M : Mem} (h : fX8_putAmount this p0 p1 p2 p3 p4 p5 M = some p) : Cn l yX8_putAmount mX8_putAmount [.ref this, .int p0, .int p1, .int p2, .int p3, .int p4, .int p5] M none p := by
  refine Cn.of [(0, .ref this), (1, .int p0), (2, .int p1), (3, .int p2), (4, .int p3), (5, .int p4), (6, .int p5)] (by decide) rfl rfl (Nat.le_of_ble_eq_true rfl) rfl (fun κ _ hf O => ?_)
  unfold fX8_putAmount at h
  refine g_aload_n (pc' := 1) 0 O dX8_putAmount_0 rfl rfl rfl ?_
  refine g_iconst (v := 0) (pc' := 2) O dX8_putAmount_1 (by decide) rfl ?_
  replace h := ob h; obtain ⟨M1, eM1, h⟩ := h
  refine g_putF (C := RX8) (T := TX8) (N := 29) (ci := 5) (k := 23) (pc' := 5) O dX8_putAmount_2 rfl inX8 (by decide) tw_739 tyX8 tyX8_ok nmX8 rfl rfl rfl rfl eM1 rfl ?_
  refine g_iload (pc' := 7) 6 O dX8_putAmount_5 rfl rfl ?_
  refine g_iconst (v := 1) (pc' := 8) O dX8_putAmount_7 (by decide) rfl ?_
  refine g_iand (pc' := 9) O dX8_putAmount_8 rfl ?_
  refine g_if_eq (tgt := 16) (pc' := 12) O dX8_putAmount_9 (by decide) rfl (fun hc => ?_) (fun hc => ?_)
  · replace h := ip hc h
    refine g_iconst (v := 0) (pc' := 17) O dX8_putAmount_16 (by decide) rfl ?_
    exact tX8_putAmount_17 O hf h
  · replace h := ine hc h
    refine g_iconst (v := 1) (pc' := 13) O dX8_putAmount_12 (by decide) rfl ?_
    refine g_goto (pc' := 17) O dX8_putAmount_13 (by decide) ?_
    exact tX8_putAmount_17 O hf h
abbrev mX8_matched : MD := (cX8_matched, 4, RX8, (some .int), { frames := 1, cells := 0, slots := 0, locals := 22 }, "matched")
theorem hyX8_matched : yX8_matched.cls ≠ "java/lang/invoke/MethodHandle" ∧ yX8_matched.cls ≠ "java/lang/invoke/VarHandle" ∧ (parseMethodDescriptor yX8_matched.desc).map (fun d => d.parameters.length) = some 1 := by decide +kernel
def fX8_matched_103  (s0 : Int32) (M : Mem) : Option (Int32 × Mem) :=
  some (s0, M)
set_option maxHeartbeats 4000000 in
set_option maxRecDepth 100000 in
theorem tX8_matched_103 {κ : KT} {p : Int32 × Mem} (O : OkK κ mX8_matched) (hf : κ.2.2.2.2.2.2.2.2.2.2.2.2.2 = (some (.int p.1), p.2))  {s0 : Int32} {M : Mem} (h : fX8_matched_103  s0 M = some p) : G κ mX8_matched 0 0 103 [] [.int s0] M := by
  unfold fX8_matched_103 at h
  cases h
  exact g_ireturn O dX8_matched_103 rfl rfl hf (by decide) (by decide)
def fX8_matched_77 (k12 : Nat → Int32 → Int32 → Mem → Option (Int32 × Mem)) (x0 : Nat) (x1 : Int32) (x2 : Int32) (s0 : Int32) (M : Mem) : Option (Int32 × Mem) :=
  if s0 = 0 then (some ((0 : Int32), M))
  else (k12 x0 x1 (x2 + (1 : Int32)) M)
set_option maxHeartbeats 4000000 in
set_option maxRecDepth 100000 in
theorem tX8_matched_77 {κ : KT} {p : Int32 × Mem} (O : OkK κ mX8_matched) (hf : κ.2.2.2.2.2.2.2.2.2.2.2.2.2 = (some (.int p.1), p.2)) {k12 : Nat → Int32 → Int32 → Mem → Option (Int32 × Mem)} (hk12 : ∀ (x0 : Nat) (x1 : Int32) (x2 : Int32) (M : Mem), k12 x0 x1 x2 M = some p → G κ mX8_matched 0 0 12 [(0, .ref x0), (1, .int x1), (2, .int x2)] [] M) {x0 : Nat} {x1 : Int32} {x2 : Int32} {s0 : Int32} {M : Mem} (h : fX8_matched_77 k12 x0 x1 x2 s0 M = some p) : G κ mX8_matched 0 0 77 [(0, .ref x0), (1, .int x1), (2, .int x2)] [.int s0] M := by
  unfold fX8_matched_77 at h
  refine g_istore_n (lv' := [(3, .int s0), (0, .ref x0), (1, .int x1), (2, .int x2)]) (pc' := 78) O dX8_matched_77 rfl (by decide) rfl rfl ?_
  refine g_iload_n (pc' := 79) 0 O dX8_matched_78 rfl rfl rfl ?_
  refine g_if_ne (tgt := 84) (pc' := 82) O dX8_matched_79 (by decide) rfl (fun hc => ?_) (fun hc => ?_)
  · replace h := ine hc h
    refine g_iinc (q := 3) (v := x2 + (1 : Int32)) (lv' := [(2, .int (x2 + (1 : Int32))), (3, .int s0), (0, .ref x0), (1, .int x1)]) (pc' := 87) O dX8_matched_84 rfl rfl (by decide) rfl rfl ?_
    refine g_goto (pc' := 12) O dX8_matched_87 (by decide) ?_
    refine g_sub (lv' := [(0, .ref x0), (1, .int x1), (2, .int (x2 + (1 : Int32)))]) [2, 3, 0] rfl ?_
    exact hk12 x0 x1 (x2 + (1 : Int32)) M h
  · replace h := ip hc h
    refine g_iconst (v := 0) (pc' := 83) O dX8_matched_82 (by decide) rfl ?_
    cases h
    exact g_ireturn O dX8_matched_83 rfl rfl hf (by decide) (by decide)
def fX8_matched_72 (k12 : Nat → Int32 → Int32 → Mem → Option (Int32 × Mem)) (x0 : Nat) (x1 : Int32) (x2 : Int32) (s0 : Int32) (s1 : Int32) (M : Mem) : Option (Int32 × Mem) :=
  (fX8_in s1 s0 (57 : Int32) M).bind fun r1 =>
  fX8_matched_77 k12 x0 x1 x2 r1.1 r1.2
set_option maxHeartbeats 4000000 in
set_option maxRecDepth 100000 in
theorem tX8_matched_72 {κ : KT} {p : Int32 × Mem} (O : OkK κ mX8_matched) (hf : κ.2.2.2.2.2.2.2.2.2.2.2.2.2 = (some (.int p.1), p.2)) {k12 : Nat → Int32 → Int32 → Mem → Option (Int32 × Mem)} (hk12 : ∀ (x0 : Nat) (x1 : Int32) (x2 : Int32) (M : Mem), k12 x0 x1 x2 M = some p → G κ mX8_matched 0 0 12 [(0, .ref x0), (1, .int x1), (2, .int x2)] [] M) {x0 : Nat} {x1 : Int32} {x2 : Int32} {s0 : Int32} {s1 : Int32} {M : Mem} (h : fX8_matched_72 k12 x0 x1 x2 s0 s1 M = some p) : G κ mX8_matched 0 0 72 [(0, .ref x0), (1, .int x1), (2, .int x2)] [.int s0, .int s1] M := by
  unfold fX8_matched_72 at h
  refine g_bipush (v := 57) (pc' := 74) O dX8_matched_72 (by decide) rfl ?_
  replace h := ob h; obtain ⟨r1, er1, h⟩ := h
  refine g_callS (y := yX8_in) (ν := mX8_in) (n := 3) (As := [.int s1, .int s0, .int (57 : Int32)]) (b := 0) (st := []) (M2 := r1.2) (r1 := (some (.int r1.1))) (pc' := 77) O dX8_matched_74 tw_811 tw_58 tw_810 tw_809 hyX8_in rfl (okX8_in er1) (Nat.le_of_ble_eq_true rfl) ⟨Nat.le_of_ble_eq_true rfl, Nat.le_of_ble_eq_true rfl⟩ ⟨Nat.le_of_ble_eq_true rfl, Nat.le_of_ble_eq_true rfl⟩ rfl ?_
  show G κ mX8_matched 0 0 77 [(0, .ref x0), (1, .int x1), (2, .int x2)] [.int r1.1] r1.2
  exact tX8_matched_77 O hf hk12 h
def fX8_matched_12  : Nat → Nat → Int32 → Int32 → Mem → Option (Int32 × Mem)
  | 0, _, _, _, _ => none
  | n + 1, x0, x1, x2, M =>
    if x1 ≤ x2 then ((gI M 5 x0 23).bind fun v1 =>
    if x1 = v1 then (fX8_matched_103 (2 : Int32) M)
    else (fX8_matched_103 (1 : Int32) M))
    else ((gN M 5 x0 21).bind fun v2 =>
    (aI M v2 x2).bind fun v3 =>
    if v3 < 0 then ((gN M 5 x0 19).bind fun v4 =>
    (aI M v4 x2).bind fun v5 =>
    (gN M 5 x0 21).bind fun v6 =>
    (aI M v6 x2).bind fun v7 =>
    if v7 = (-1 : Int32) then (fX8_matched_72 (fX8_matched_12 n) x0 x1 x2 (48 : Int32) v5 M)
    else (fX8_matched_72 (fX8_matched_12 n) x0 x1 x2 (49 : Int32) v5 M))
    else ((gN M 5 x0 19).bind fun v8 =>
    (aI M v8 x2).bind fun v9 =>
    (gN M 5 x0 21).bind fun v10 =>
    (aI M v10 x2).bind fun v11 =>
    if v9 = v11 then (fX8_matched_77 (fX8_matched_12 n) x0 x1 x2 (1 : Int32) M)
    else (fX8_matched_77 (fX8_matched_12 n) x0 x1 x2 (0 : Int32) M)))
set_option maxHeartbeats 4000000 in
set_option maxRecDepth 100000 in
theorem tX8_matched_12 {κ : KT} {p : Int32 × Mem} (O : OkK κ mX8_matched) (hf : κ.2.2.2.2.2.2.2.2.2.2.2.2.2 = (some (.int p.1), p.2))  : ∀ (n : Nat) (x0 : Nat) (x1 : Int32) (x2 : Int32) (M : Mem), fX8_matched_12  n x0 x1 x2 M = some p → G κ mX8_matched 0 0 12 [(0, .ref x0), (1, .int x1), (2, .int x2)] [] M := by
  intro n
  induction n with
  | zero => intro x0 x1 x2 M h; cases h
  | succ n ih =>
    intro x0 x1 x2 M h
    rw [fX8_matched_12] at h
    refine g_iload_n (pc' := 13) 2 O dX8_matched_12 rfl rfl rfl ?_
    refine g_iload_n (pc' := 14) 1 O dX8_matched_13 rfl rfl rfl ?_
    refine g_icmp_ge (tgt := 90) (pc' := 17) O dX8_matched_14 (by decide) rfl (fun hc => ?_) (fun hc => ?_)
    · replace h := ip hc h
      refine g_iload_n (pc' := 91) 1 O dX8_matched_90 rfl rfl rfl ?_
      refine g_aload_n (pc' := 92) 0 O dX8_matched_91 rfl rfl rfl ?_
      replace h := ob h; obtain ⟨v1, ev1, h⟩ := h
      refine g_getF (C := RX8) (T := TX8) (N := 29) (ci := 5) (k := 23) (pc' := 95) O dX8_matched_92 rfl inX8 (by decide) tw_739 (gI_F ev1) rfl ?_
      refine g_icmp_ne (tgt := 102) (pc' := 98) O dX8_matched_95 (by decide) rfl (fun hc => ?_) (fun hc => ?_)
      · replace h := ine hc h
        refine g_iconst (v := 1) (pc' := 103) O dX8_matched_102 (by decide) rfl ?_
        refine g_sub (lv' := []) [] rfl ?_
        exact tX8_matched_103 O hf h
      · replace h := ip hc h
        refine g_iconst (v := 2) (pc' := 99) O dX8_matched_98 (by decide) rfl ?_
        refine g_goto (pc' := 103) O dX8_matched_99 (by decide) ?_
        refine g_sub (lv' := []) [] rfl ?_
        exact tX8_matched_103 O hf h
    · replace h := ine hc h
      refine g_aload_n (pc' := 18) 0 O dX8_matched_17 rfl rfl rfl ?_
      replace h := ob h; obtain ⟨v2, ev2, h⟩ := h
      refine g_getF (C := RX8) (T := TX8) (N := 29) (ci := 5) (k := 21) (pc' := 21) O dX8_matched_18 rfl inX8 (by decide) tw_737 (gN_F ev2) rfl ?_
      refine g_iload_n (pc' := 22) 2 O dX8_matched_21 rfl rfl rfl ?_
      replace h := ob h; obtain ⟨v3, ev3, h⟩ := h
      refine g_iald (pc' := 23) O dX8_matched_22 ev3 rfl ?_
      refine g_if_lt (tgt := 49) (pc' := 26) O dX8_matched_23 (by decide) rfl (fun hc => ?_) (fun hc => ?_)
      · replace h := ip hc h
        refine g_aload_n (pc' := 50) 0 O dX8_matched_49 rfl rfl rfl ?_
        replace h := ob h; obtain ⟨v4, ev4, h⟩ := h
        refine g_getF (C := RX8) (T := TX8) (N := 29) (ci := 5) (k := 19) (pc' := 53) O dX8_matched_50 rfl inX8 (by decide) tw_735 (gN_F ev4) rfl ?_
        refine g_iload_n (pc' := 54) 2 O dX8_matched_53 rfl rfl rfl ?_
        replace h := ob h; obtain ⟨v5, ev5, h⟩ := h
        refine g_iald (pc' := 55) O dX8_matched_54 ev5 rfl ?_
        refine g_aload_n (pc' := 56) 0 O dX8_matched_55 rfl rfl rfl ?_
        replace h := ob h; obtain ⟨v6, ev6, h⟩ := h
        refine g_getF (C := RX8) (T := TX8) (N := 29) (ci := 5) (k := 21) (pc' := 59) O dX8_matched_56 rfl inX8 (by decide) tw_737 (gN_F ev6) rfl ?_
        refine g_iload_n (pc' := 60) 2 O dX8_matched_59 rfl rfl rfl ?_
        replace h := ob h; obtain ⟨v7, ev7, h⟩ := h
        refine g_iald (pc' := 61) O dX8_matched_60 ev7 rfl ?_
        refine g_iconst (v := -1) (pc' := 62) O dX8_matched_61 (by decide) rfl ?_
        refine g_icmp_ne (tgt := 70) (pc' := 65) O dX8_matched_62 (by decide) rfl (fun hc => ?_) (fun hc => ?_)
        · replace h := ine hc h
          refine g_bipush (v := 49) (pc' := 72) O dX8_matched_70 (by decide) rfl ?_
          exact tX8_matched_72 O hf ih h
        · replace h := ip hc h
          refine g_bipush (v := 48) (pc' := 67) O dX8_matched_65 (by decide) rfl ?_
          refine g_goto (pc' := 72) O dX8_matched_67 (by decide) ?_
          exact tX8_matched_72 O hf ih h
      · replace h := ine hc h
        refine g_aload_n (pc' := 27) 0 O dX8_matched_26 rfl rfl rfl ?_
        replace h := ob h; obtain ⟨v8, ev8, h⟩ := h
        refine g_getF (C := RX8) (T := TX8) (N := 29) (ci := 5) (k := 19) (pc' := 30) O dX8_matched_27 rfl inX8 (by decide) tw_735 (gN_F ev8) rfl ?_
        refine g_iload_n (pc' := 31) 2 O dX8_matched_30 rfl rfl rfl ?_
        replace h := ob h; obtain ⟨v9, ev9, h⟩ := h
        refine g_iald (pc' := 32) O dX8_matched_31 ev9 rfl ?_
        refine g_aload_n (pc' := 33) 0 O dX8_matched_32 rfl rfl rfl ?_
        replace h := ob h; obtain ⟨v10, ev10, h⟩ := h
        refine g_getF (C := RX8) (T := TX8) (N := 29) (ci := 5) (k := 21) (pc' := 36) O dX8_matched_33 rfl inX8 (by decide) tw_737 (gN_F ev10) rfl ?_
        refine g_iload_n (pc' := 37) 2 O dX8_matched_36 rfl rfl rfl ?_
        replace h := ob h; obtain ⟨v11, ev11, h⟩ := h
        refine g_iald (pc' := 38) O dX8_matched_37 ev11 rfl ?_
        refine g_icmp_ne (tgt := 45) (pc' := 41) O dX8_matched_38 (by decide) rfl (fun hc => ?_) (fun hc => ?_)
        · replace h := ine hc h
          refine g_iconst (v := 0) (pc' := 46) O dX8_matched_45 (by decide) rfl ?_
          refine g_goto (pc' := 77) O dX8_matched_46 (by decide) ?_
          exact tX8_matched_77 O hf ih h
        · replace h := ip hc h
          refine g_iconst (v := 1) (pc' := 42) O dX8_matched_41 (by decide) rfl ?_
          refine g_goto (pc' := 77) O dX8_matched_42 (by decide) ?_
          exact tX8_matched_77 O hf ih h
def fX8_matched  (this : Nat) (p0 : Int32) (M : Mem) : Option (Int32 × Mem) :=
  (gI M 5 this 23).bind fun v1 =>
  if p0 ≤ v1 then (fX8_matched_12 FU this p0 (0 : Int32) M)
  else (some ((0 : Int32), M))
set_option maxHeartbeats 4000000 in
set_option maxRecDepth 100000 in
theorem okX8_matched {l : Launch} {p : Int32 × Mem} {this : Nat} {p0 : Int32} {M : Mem} (h : fX8_matched this p0 M = some p) : Cn l yX8_matched mX8_matched [.ref this, .int p0] M (some (.int p.1)) p.2 := by
  refine Cn.of [(0, .ref this), (1, .int p0)] (by decide) rfl rfl (Nat.le_of_ble_eq_true rfl) rfl (fun κ _ hf O => ?_)
  unfold fX8_matched at h
  refine g_iload_n (pc' := 1) 1 O dX8_matched_0 rfl rfl rfl ?_
  refine g_aload_n (pc' := 2) 0 O dX8_matched_1 rfl rfl rfl ?_
  replace h := ob h; obtain ⟨v1, ev1, h⟩ := h
  refine g_getF (C := RX8) (T := TX8) (N := 29) (ci := 5) (k := 23) (pc' := 5) O dX8_matched_2 rfl inX8 (by decide) tw_739 (gI_F ev1) rfl ?_
  refine g_icmp_le (tgt := 10) (pc' := 8) O dX8_matched_5 (by decide) rfl (fun hc => ?_) (fun hc => ?_)
  · replace h := ip hc h
    refine g_iconst (v := 0) (pc' := 11) O dX8_matched_10 (by decide) rfl ?_
    refine g_istore_n (lv' := [(2, .int (0 : Int32)), (0, .ref this), (1, .int p0)]) (pc' := 12) O dX8_matched_11 rfl (by decide) rfl rfl ?_
    refine g_sub (lv' := [(0, .ref this), (1, .int p0), (2, .int (0 : Int32))]) [1, 2, 0] rfl ?_
    exact tX8_matched_12 O hf FU this p0 (0 : Int32) M h
  · replace h := ine hc h
    refine g_iconst (v := 0) (pc' := 9) O dX8_matched_8 (by decide) rfl ?_
    cases h
    exact g_ireturn O dX8_matched_9 rfl rfl hf (by decide) (by decide)
