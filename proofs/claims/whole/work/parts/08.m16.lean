abbrev mX8_shown : MD := (cX8_shown, 2, RX8, (some .int), { frames := 1, cells := 0, slots := 0, locals := 22 }, "shown")
theorem hyX8_shown : yX8_shown.cls ≠ "java/lang/invoke/MethodHandle" ∧ yX8_shown.cls ≠ "java/lang/invoke/VarHandle" ∧ (parseMethodDescriptor yX8_shown.desc).map (fun d => d.parameters.length) = some 1 := by decide +kernel
def fX8_shown_31  (s0 : Int32) (M : Mem) : Option (Int32 × Mem) :=
  some (s0, M)
set_option maxHeartbeats 4000000 in
set_option maxRecDepth 100000 in
theorem tX8_shown_31 {κ : KT} {p : Int32 × Mem} (O : OkK κ mX8_shown) (hf : κ.2.2.2.2.2.2.2.2.2.2.2.2.2 = (some (.int p.1), p.2))  {s0 : Int32} {M : Mem} (h : fX8_shown_31  s0 M = some p) : G κ mX8_shown 0 0 31 [] [.int s0] M := by
  unfold fX8_shown_31 at h
  cases h
  exact g_ireturn O dX8_shown_31 rfl rfl hf (by decide) (by decide)
def fX8_shown  (this : Nat) (p0 : Int32) (M : Mem) : Option (Int32 × Mem) :=
  (pF M 5 this 0 (.int (0 : Int32))).bind fun M1 =>
  (gN M1 5 this 17).bind fun v2 =>
  (aI M1 v2 (0 : Int32)).bind fun v3 =>
  (fX8_in p0 (0 : Int32) (v3 - (1 : Int32)) M1).bind fun r4 =>
  if r4.1 = 0 then (fX8_shown_31 (-1 : Int32) r4.2)
  else ((gN r4.2 5 this 18).bind fun v5 =>
  (aI r4.2 v5 p0).bind fun v6 =>
  fX8_shown_31 v6 r4.2)
set_option maxHeartbeats 4000000 in
set_option maxRecDepth 100000 in
theorem okX8_shown {l : Launch} {p : Int32 × Mem} {this : Nat} {p0 : Int32} {M : Mem} (h : fX8_shown this p0 M = some p) : Cn l yX8_shown mX8_shown [.ref this, .int p0] M (some (.int p.1)) p.2 := by
  refine Cn.of [(0, .ref this), (1, .int p0)] (by decide) rfl rfl (Nat.le_of_ble_eq_true rfl) rfl (fun κ _ hf O => ?_)
  unfold fX8_shown at h
  refine g_aload_n (pc' := 1) 0 O dX8_shown_0 rfl rfl rfl ?_
  refine g_iconst (v := 0) (pc' := 2) O dX8_shown_1 (by decide) rfl ?_
  replace h := ob h; obtain ⟨M1, eM1, h⟩ := h
  refine g_putF (C := RX8) (T := TX8) (N := 29) (ci := 5) (k := 0) (pc' := 5) O dX8_shown_2 rfl inX8 (by decide) tw_716 tyX8 tyX8_ok nmX8 rfl rfl rfl rfl eM1 rfl ?_
  refine g_iload_n (pc' := 6) 1 O dX8_shown_5 rfl rfl rfl ?_
  refine g_iconst (v := 0) (pc' := 7) O dX8_shown_6 (by decide) rfl ?_
  refine g_aload_n (pc' := 8) 0 O dX8_shown_7 rfl rfl rfl ?_
  replace h := ob h; obtain ⟨v2, ev2, h⟩ := h
  refine g_getF (C := RX8) (T := TX8) (N := 29) (ci := 5) (k := 17) (pc' := 11) O dX8_shown_8 rfl inX8 (by decide) tw_733 (gN_F ev2) rfl ?_
  refine g_iconst (v := 0) (pc' := 12) O dX8_shown_11 (by decide) rfl ?_
  replace h := ob h; obtain ⟨v3, ev3, h⟩ := h
  refine g_iald (pc' := 13) O dX8_shown_12 ev3 rfl ?_
  refine g_iconst (v := 1) (pc' := 14) O dX8_shown_13 (by decide) rfl ?_
  refine g_isub (pc' := 15) O dX8_shown_14 rfl ?_
  replace h := ob h; obtain ⟨r4, er4, h⟩ := h
  refine g_callS (y := yX8_in) (ν := mX8_in) (n := 3) (As := [.int p0, .int (0 : Int32), .int (v3 - (1 : Int32))]) (b := 0) (st := []) (M2 := r4.2) (r1 := (some (.int r4.1))) (pc' := 18) O dX8_shown_15 tw_811 tw_58 tw_810 tw_809 hyX8_in rfl (okX8_in er4) (Nat.le_of_ble_eq_true rfl) ⟨Nat.le_of_ble_eq_true rfl, Nat.le_of_ble_eq_true rfl⟩ ⟨Nat.le_of_ble_eq_true rfl, Nat.le_of_ble_eq_true rfl⟩ rfl ?_
  show G κ mX8_shown 0 0 18 [(0, .ref this), (1, .int p0)] [.int r4.1] r4.2
  refine g_if_eq (tgt := 30) (pc' := 21) O dX8_shown_18 (by decide) rfl (fun hc => ?_) (fun hc => ?_)
  · replace h := ip hc h
    refine g_iconst (v := -1) (pc' := 31) O dX8_shown_30 (by decide) rfl ?_
    refine g_sub (lv' := []) [] rfl ?_
    exact tX8_shown_31 O hf h
  · replace h := ine hc h
    refine g_aload_n (pc' := 22) 0 O dX8_shown_21 rfl rfl rfl ?_
    replace h := ob h; obtain ⟨v5, ev5, h⟩ := h
    refine g_getF (C := RX8) (T := TX8) (N := 29) (ci := 5) (k := 18) (pc' := 25) O dX8_shown_22 rfl inX8 (by decide) tw_734 (gN_F ev5) rfl ?_
    refine g_iload_n (pc' := 26) 1 O dX8_shown_25 rfl rfl rfl ?_
    replace h := ob h; obtain ⟨v6, ev6, h⟩ := h
    refine g_iald (pc' := 27) O dX8_shown_26 ev6 rfl ?_
    refine g_goto (pc' := 31) O dX8_shown_27 (by decide) ?_
    refine g_sub (lv' := []) [] rfl ?_
    exact tX8_shown_31 O hf h
abbrev mX8_take : MD := (cX8_take, 2, RX8, (some .int), { frames := 0, cells := 0, slots := 0, locals := 0 }, "take")
theorem hyX8_take : yX8_take.cls ≠ "java/lang/invoke/MethodHandle" ∧ yX8_take.cls ≠ "java/lang/invoke/VarHandle" ∧ (parseMethodDescriptor yX8_take.desc).map (fun d => d.parameters.length) = some 0 := by decide +kernel
def fX8_take_41  : Nat → Nat → Int32 → Mem → Option (Int32 × Mem)
  | 0, _, _, _ => none
  | n + 1, x0, x1, M =>
    (gN M 5 x0 10).bind fun v1 =>
    (aI M v1 (0 : Int32)).bind fun v2 =>
    if v2 ≤ x1 then ((gN M 5 x0 10).bind fun v3 =>
    (aI M v3 (0 : Int32)).bind fun v4 =>
    some (v4, M))
    else ((gN M 5 x0 11).bind fun v5 =>
    (gN M 5 x0 18).bind fun v6 =>
    (aI M v6 x1).bind fun v7 =>
    (sI M v5 x1 v7).bind fun M8 =>
    fX8_take_41 n x0 (x1 + (1 : Int32)) M8)
set_option maxHeartbeats 4000000 in
set_option maxRecDepth 100000 in
theorem tX8_take_41 {κ : KT} {p : Int32 × Mem} (O : OkK κ mX8_take) (hf : κ.2.2.2.2.2.2.2.2.2.2.2.2.2 = (some (.int p.1), p.2))  : ∀ (n : Nat) (x0 : Nat) (x1 : Int32) (M : Mem), fX8_take_41  n x0 x1 M = some p → G κ mX8_take 0 0 41 [(0, .ref x0), (1, .int x1)] [] M := by
  intro n
  induction n with
  | zero => intro x0 x1 M h; cases h
  | succ n ih =>
    intro x0 x1 M h
    rw [fX8_take_41] at h
    refine g_iload_n (pc' := 42) 1 O dX8_take_41 rfl rfl rfl ?_
    refine g_aload_n (pc' := 43) 0 O dX8_take_42 rfl rfl rfl ?_
    replace h := ob h; obtain ⟨v1, ev1, h⟩ := h
    refine g_getF (C := RX8) (T := TX8) (N := 29) (ci := 5) (k := 10) (pc' := 46) O dX8_take_43 rfl inX8 (by decide) tw_726 (gN_F ev1) rfl ?_
    refine g_iconst (v := 0) (pc' := 47) O dX8_take_46 (by decide) rfl ?_
    replace h := ob h; obtain ⟨v2, ev2, h⟩ := h
    refine g_iald (pc' := 48) O dX8_take_47 ev2 rfl ?_
    refine g_icmp_ge (tgt := 69) (pc' := 51) O dX8_take_48 (by decide) rfl (fun hc => ?_) (fun hc => ?_)
    · replace h := ip hc h
      refine g_aload_n (pc' := 70) 0 O dX8_take_69 rfl rfl rfl ?_
      replace h := ob h; obtain ⟨v3, ev3, h⟩ := h
      refine g_getF (C := RX8) (T := TX8) (N := 29) (ci := 5) (k := 10) (pc' := 73) O dX8_take_70 rfl inX8 (by decide) tw_726 (gN_F ev3) rfl ?_
      refine g_iconst (v := 0) (pc' := 74) O dX8_take_73 (by decide) rfl ?_
      replace h := ob h; obtain ⟨v4, ev4, h⟩ := h
      refine g_iald (pc' := 75) O dX8_take_74 ev4 rfl ?_
      cases h
      exact g_ireturn O dX8_take_75 rfl rfl hf (by decide) (by decide)
    · replace h := ine hc h
      refine g_aload_n (pc' := 52) 0 O dX8_take_51 rfl rfl rfl ?_
      replace h := ob h; obtain ⟨v5, ev5, h⟩ := h
      refine g_getF (C := RX8) (T := TX8) (N := 29) (ci := 5) (k := 11) (pc' := 55) O dX8_take_52 rfl inX8 (by decide) tw_727 (gN_F ev5) rfl ?_
      refine g_iload_n (pc' := 56) 1 O dX8_take_55 rfl rfl rfl ?_
      refine g_aload_n (pc' := 57) 0 O dX8_take_56 rfl rfl rfl ?_
      replace h := ob h; obtain ⟨v6, ev6, h⟩ := h
      refine g_getF (C := RX8) (T := TX8) (N := 29) (ci := 5) (k := 18) (pc' := 60) O dX8_take_57 rfl inX8 (by decide) tw_734 (gN_F ev6) rfl ?_
      refine g_iload_n (pc' := 61) 1 O dX8_take_60 rfl rfl rfl ?_
      replace h := ob h; obtain ⟨v7, ev7, h⟩ := h
      refine g_iald (pc' := 62) O dX8_take_61 ev7 rfl ?_
      replace h := ob h; obtain ⟨M8, eM8, h⟩ := h
      refine g_iast (pc' := 63) O dX8_take_62 eM8 rfl ?_
      refine g_iinc (q := 1) (v := x1 + (1 : Int32)) (lv' := [(1, .int (x1 + (1 : Int32))), (0, .ref x0)]) (pc' := 66) O dX8_take_63 rfl rfl (by decide) rfl rfl ?_
      refine g_goto (pc' := 41) O dX8_take_66 (by decide) ?_
      refine g_sub (lv' := [(0, .ref x0), (1, .int (x1 + (1 : Int32)))]) [1, 0] rfl ?_
      exact ih x0 (x1 + (1 : Int32)) M8 h
def fX8_take_25  (M : Mem) : Option (Int32 × Mem) :=
  some ((-1 : Int32), M)
set_option maxHeartbeats 4000000 in
set_option maxRecDepth 100000 in
theorem tX8_take_25 {κ : KT} {p : Int32 × Mem} (O : OkK κ mX8_take) (hf : κ.2.2.2.2.2.2.2.2.2.2.2.2.2 = (some (.int p.1), p.2))  {M : Mem} (h : fX8_take_25  M = some p) : G κ mX8_take 0 0 25 [] [] M := by
  unfold fX8_take_25 at h
  refine g_iconst (v := -1) (pc' := 26) O dX8_take_25 (by decide) rfl ?_
  cases h
  exact g_ireturn O dX8_take_26 rfl rfl hf (by decide) (by decide)
def fX8_take  (this : Nat) (M : Mem) : Option (Int32 × Mem) :=
  (pF M 5 this 0 (.int (0 : Int32))).bind fun M1 =>
  (gN M1 5 this 17).bind fun v2 =>
  (aI M1 v2 (0 : Int32)).bind fun v3 =>
  if v3 = 0 then (fX8_take_25 M1)
  else ((gN M1 5 this 17).bind fun v4 =>
  (aI M1 v4 (0 : Int32)).bind fun v5 =>
  if v5 ≤ (60 : Int32) then ((gN M1 5 this 10).bind fun v6 =>
  (gN M1 5 this 17).bind fun v7 =>
  (aI M1 v7 (0 : Int32)).bind fun v8 =>
  (sI M1 v6 (0 : Int32) v8).bind fun M9 =>
  fX8_take_41 FU this (0 : Int32) M9)
  else (fX8_take_25 M1))
set_option maxHeartbeats 4000000 in
set_option maxRecDepth 100000 in
theorem okX8_take {l : Launch} {p : Int32 × Mem} {this : Nat} {M : Mem} (h : fX8_take this M = some p) : Cn l yX8_take mX8_take [.ref this] M (some (.int p.1)) p.2 := by
  refine Cn.of [(0, .ref this)] (by decide) rfl rfl (Nat.le_of_ble_eq_true rfl) rfl (fun κ _ hf O => ?_)
  unfold fX8_take at h
  refine g_aload_n (pc' := 1) 0 O dX8_take_0 rfl rfl rfl ?_
  refine g_iconst (v := 0) (pc' := 2) O dX8_take_1 (by decide) rfl ?_
  replace h := ob h; obtain ⟨M1, eM1, h⟩ := h
  refine g_putF (C := RX8) (T := TX8) (N := 29) (ci := 5) (k := 0) (pc' := 5) O dX8_take_2 rfl inX8 (by decide) tw_716 tyX8 tyX8_ok nmX8 rfl rfl rfl rfl eM1 rfl ?_
  refine g_aload_n (pc' := 6) 0 O dX8_take_5 rfl rfl rfl ?_
  replace h := ob h; obtain ⟨v2, ev2, h⟩ := h
  refine g_getF (C := RX8) (T := TX8) (N := 29) (ci := 5) (k := 17) (pc' := 9) O dX8_take_6 rfl inX8 (by decide) tw_733 (gN_F ev2) rfl ?_
  refine g_iconst (v := 0) (pc' := 10) O dX8_take_9 (by decide) rfl ?_
  replace h := ob h; obtain ⟨v3, ev3, h⟩ := h
  refine g_iald (pc' := 11) O dX8_take_10 ev3 rfl ?_
  refine g_if_eq (tgt := 25) (pc' := 14) O dX8_take_11 (by decide) rfl (fun hc => ?_) (fun hc => ?_)
  · replace h := ip hc h
    refine g_sub (lv' := []) [] rfl ?_
    exact tX8_take_25 O hf h
  · replace h := ine hc h
    refine g_aload_n (pc' := 15) 0 O dX8_take_14 rfl rfl rfl ?_
    replace h := ob h; obtain ⟨v4, ev4, h⟩ := h
    refine g_getF (C := RX8) (T := TX8) (N := 29) (ci := 5) (k := 17) (pc' := 18) O dX8_take_15 rfl inX8 (by decide) tw_733 (gN_F ev4) rfl ?_
    refine g_iconst (v := 0) (pc' := 19) O dX8_take_18 (by decide) rfl ?_
    replace h := ob h; obtain ⟨v5, ev5, h⟩ := h
    refine g_iald (pc' := 20) O dX8_take_19 ev5 rfl ?_
    refine g_bipush (v := 60) (pc' := 22) O dX8_take_20 (by decide) rfl ?_
    refine g_icmp_le (tgt := 27) (pc' := 25) O dX8_take_22 (by decide) rfl (fun hc => ?_) (fun hc => ?_)
    · replace h := ip hc h
      refine g_aload_n (pc' := 28) 0 O dX8_take_27 rfl rfl rfl ?_
      replace h := ob h; obtain ⟨v6, ev6, h⟩ := h
      refine g_getF (C := RX8) (T := TX8) (N := 29) (ci := 5) (k := 10) (pc' := 31) O dX8_take_28 rfl inX8 (by decide) tw_726 (gN_F ev6) rfl ?_
      refine g_iconst (v := 0) (pc' := 32) O dX8_take_31 (by decide) rfl ?_
      refine g_aload_n (pc' := 33) 0 O dX8_take_32 rfl rfl rfl ?_
      replace h := ob h; obtain ⟨v7, ev7, h⟩ := h
      refine g_getF (C := RX8) (T := TX8) (N := 29) (ci := 5) (k := 17) (pc' := 36) O dX8_take_33 rfl inX8 (by decide) tw_733 (gN_F ev7) rfl ?_
      refine g_iconst (v := 0) (pc' := 37) O dX8_take_36 (by decide) rfl ?_
      replace h := ob h; obtain ⟨v8, ev8, h⟩ := h
      refine g_iald (pc' := 38) O dX8_take_37 ev8 rfl ?_
      replace h := ob h; obtain ⟨M9, eM9, h⟩ := h
      refine g_iast (pc' := 39) O dX8_take_38 eM9 rfl ?_
      refine g_iconst (v := 0) (pc' := 40) O dX8_take_39 (by decide) rfl ?_
      refine g_istore_n (lv' := [(1, .int (0 : Int32)), (0, .ref this)]) (pc' := 41) O dX8_take_40 rfl (by decide) rfl rfl ?_
      refine g_sub (lv' := [(0, .ref this), (1, .int (0 : Int32))]) [1, 0] rfl ?_
      exact tX8_take_41 O hf FU this (0 : Int32) M9 h
    · replace h := ine hc h
      refine g_sub (lv' := []) [] rfl ?_
      exact tX8_take_25 O hf h
abbrev mX8_isAt : MD := (cX8_isAt, 3, RX8, (some .boolean), { frames := 0, cells := 0, slots := 0, locals := 0 }, "isAt")
theorem hyX8_isAt : yX8_isAt.cls ≠ "java/lang/invoke/MethodHandle" ∧ yX8_isAt.cls ≠ "java/lang/invoke/VarHandle" ∧ (parseMethodDescriptor yX8_isAt.desc).map (fun d => d.parameters.length) = some 1 := by decide +kernel
def fX8_isAt_88  (s0 : Int32) (M : Mem) : Option (Int32 × Mem) :=
  (nz s0).bind fun z1 =>
  some (z1, M)
set_option maxHeartbeats 4000000 in
set_option maxRecDepth 100000 in
theorem tX8_isAt_88 {κ : KT} {p : Int32 × Mem} (O : OkK κ mX8_isAt) (hf : κ.2.2.2.2.2.2.2.2.2.2.2.2.2 = (some (.int p.1), p.2))  {s0 : Int32} {M : Mem} (h : fX8_isAt_88  s0 M = some p) : G κ mX8_isAt 0 0 88 [] [.int s0] M := by
  unfold fX8_isAt_88 at h
  replace h := ob h; obtain ⟨z1, ez1, h⟩ := h
  obtain ⟨hz1, ez1b⟩ := nz_spec ez1
  rw [ez1b] at h
  cases h
  exact g_ireturn O dX8_isAt_88 rfl (nz_nar hz1) hf (by decide) (by decide)
def fX8_isAt_83  (M : Mem) : Option (Int32 × Mem) :=
  fX8_isAt_88 (1 : Int32) M
set_option maxHeartbeats 4000000 in
set_option maxRecDepth 100000 in
theorem tX8_isAt_83 {κ : KT} {p : Int32 × Mem} (O : OkK κ mX8_isAt) (hf : κ.2.2.2.2.2.2.2.2.2.2.2.2.2 = (some (.int p.1), p.2))  {M : Mem} (h : fX8_isAt_83  M = some p) : G κ mX8_isAt 0 0 83 [] [] M := by
  unfold fX8_isAt_83 at h
  refine g_iconst (v := 1) (pc' := 84) O dX8_isAt_83 (by decide) rfl ?_
  refine g_goto (pc' := 88) O dX8_isAt_84 (by decide) ?_
  exact tX8_isAt_88 O hf h
def fX8_isAt_19  : Nat → Nat → Int32 → Int32 → Mem → Option (Int32 × Mem)
  | 0, _, _, _, _ => none
  | n + 1, x0, x1, x2, M =>
    (gI M 5 x0 26).bind fun v1 =>
    if v1 ≤ x2 then ((gI M 5 x0 26).bind fun v2 =>
    (gN M 5 x0 10).bind fun v3 =>
    (aI M v3 (0 : Int32)).bind fun v4 =>
    if (x1 + v2) = v4 then (fX8_isAt_83 M)
    else ((gN M 5 x0 11).bind fun v5 =>
    (gI M 5 x0 26).bind fun v6 =>
    (aI M v5 (x1 + v6)).bind fun v7 =>
    if v7 = (32 : Int32) then (fX8_isAt_83 M)
    else (fX8_isAt_88 (0 : Int32) M)))
    else ((gN M 5 x0 11).bind fun v8 =>
    (aI M v8 (x1 + x2)).bind fun v9 =>
    (gN M 5 x0 25).bind fun v10 =>
    (aI M v10 x2).bind fun v11 =>
    if v9 = v11 then (fX8_isAt_19 n x0 x1 (x2 + (1 : Int32)) M)
    else ((nz (0 : Int32)).bind fun z12 =>
    some (z12, M)))
set_option maxHeartbeats 4000000 in
set_option maxRecDepth 100000 in
theorem tX8_isAt_19 {κ : KT} {p : Int32 × Mem} (O : OkK κ mX8_isAt) (hf : κ.2.2.2.2.2.2.2.2.2.2.2.2.2 = (some (.int p.1), p.2))  : ∀ (n : Nat) (x0 : Nat) (x1 : Int32) (x2 : Int32) (M : Mem), fX8_isAt_19  n x0 x1 x2 M = some p → G κ mX8_isAt 0 0 19 [(0, .ref x0), (1, .int x1), (2, .int x2)] [] M := by
  intro n
  induction n with
  | zero => intro x0 x1 x2 M h; cases h
  | succ n ih =>
    intro x0 x1 x2 M h
    rw [fX8_isAt_19] at h
    refine g_iload_n (pc' := 20) 2 O dX8_isAt_19 rfl rfl rfl ?_
    refine g_aload_n (pc' := 21) 0 O dX8_isAt_20 rfl rfl rfl ?_
    replace h := ob h; obtain ⟨v1, ev1, h⟩ := h
    refine g_getF (C := RX8) (T := TX8) (N := 29) (ci := 5) (k := 26) (pc' := 24) O dX8_isAt_21 rfl inX8 (by decide) tw_742 (gI_F ev1) rfl ?_
    refine g_icmp_ge (tgt := 52) (pc' := 27) O dX8_isAt_24 (by decide) rfl (fun hc => ?_) (fun hc => ?_)
    · replace h := ip hc h
      refine g_iload_n (pc' := 53) 1 O dX8_isAt_52 rfl rfl rfl ?_
      refine g_aload_n (pc' := 54) 0 O dX8_isAt_53 rfl rfl rfl ?_
      replace h := ob h; obtain ⟨v2, ev2, h⟩ := h
      refine g_getF (C := RX8) (T := TX8) (N := 29) (ci := 5) (k := 26) (pc' := 57) O dX8_isAt_54 rfl inX8 (by decide) tw_742 (gI_F ev2) rfl ?_
      refine g_iadd (pc' := 58) O dX8_isAt_57 rfl ?_
      refine g_aload_n (pc' := 59) 0 O dX8_isAt_58 rfl rfl rfl ?_
      replace h := ob h; obtain ⟨v3, ev3, h⟩ := h
      refine g_getF (C := RX8) (T := TX8) (N := 29) (ci := 5) (k := 10) (pc' := 62) O dX8_isAt_59 rfl inX8 (by decide) tw_726 (gN_F ev3) rfl ?_
      refine g_iconst (v := 0) (pc' := 63) O dX8_isAt_62 (by decide) rfl ?_
      replace h := ob h; obtain ⟨v4, ev4, h⟩ := h
      refine g_iald (pc' := 64) O dX8_isAt_63 ev4 rfl ?_
      refine g_icmp_eq (tgt := 83) (pc' := 67) O dX8_isAt_64 (by decide) rfl (fun hc => ?_) (fun hc => ?_)
      · replace h := ip hc h
        refine g_sub (lv' := []) [] rfl ?_
        exact tX8_isAt_83 O hf h
      · replace h := ine hc h
        refine g_aload_n (pc' := 68) 0 O dX8_isAt_67 rfl rfl rfl ?_
        replace h := ob h; obtain ⟨v5, ev5, h⟩ := h
        refine g_getF (C := RX8) (T := TX8) (N := 29) (ci := 5) (k := 11) (pc' := 71) O dX8_isAt_68 rfl inX8 (by decide) tw_727 (gN_F ev5) rfl ?_
        refine g_iload_n (pc' := 72) 1 O dX8_isAt_71 rfl rfl rfl ?_
        refine g_aload_n (pc' := 73) 0 O dX8_isAt_72 rfl rfl rfl ?_
        replace h := ob h; obtain ⟨v6, ev6, h⟩ := h
        refine g_getF (C := RX8) (T := TX8) (N := 29) (ci := 5) (k := 26) (pc' := 76) O dX8_isAt_73 rfl inX8 (by decide) tw_742 (gI_F ev6) rfl ?_
        refine g_iadd (pc' := 77) O dX8_isAt_76 rfl ?_
        replace h := ob h; obtain ⟨v7, ev7, h⟩ := h
        refine g_iald (pc' := 78) O dX8_isAt_77 ev7 rfl ?_
        refine g_bipush (v := 32) (pc' := 80) O dX8_isAt_78 (by decide) rfl ?_
        refine g_icmp_ne (tgt := 87) (pc' := 83) O dX8_isAt_80 (by decide) rfl (fun hc => ?_) (fun hc => ?_)
        · replace h := ine hc h
          refine g_iconst (v := 0) (pc' := 88) O dX8_isAt_87 (by decide) rfl ?_
          refine g_sub (lv' := []) [] rfl ?_
          exact tX8_isAt_88 O hf h
        · replace h := ip hc h
          refine g_sub (lv' := []) [] rfl ?_
          exact tX8_isAt_83 O hf h
    · replace h := ine hc h
      refine g_aload_n (pc' := 28) 0 O dX8_isAt_27 rfl rfl rfl ?_
      replace h := ob h; obtain ⟨v8, ev8, h⟩ := h
      refine g_getF (C := RX8) (T := TX8) (N := 29) (ci := 5) (k := 11) (pc' := 31) O dX8_isAt_28 rfl inX8 (by decide) tw_727 (gN_F ev8) rfl ?_
      refine g_iload_n (pc' := 32) 1 O dX8_isAt_31 rfl rfl rfl ?_
      refine g_iload_n (pc' := 33) 2 O dX8_isAt_32 rfl rfl rfl ?_
      refine g_iadd (pc' := 34) O dX8_isAt_33 rfl ?_
      replace h := ob h; obtain ⟨v9, ev9, h⟩ := h
      refine g_iald (pc' := 35) O dX8_isAt_34 ev9 rfl ?_
      refine g_aload_n (pc' := 36) 0 O dX8_isAt_35 rfl rfl rfl ?_
      replace h := ob h; obtain ⟨v10, ev10, h⟩ := h
      refine g_getF (C := RX8) (T := TX8) (N := 29) (ci := 5) (k := 25) (pc' := 39) O dX8_isAt_36 rfl inX8 (by decide) tw_741 (gN_F ev10) rfl ?_
      refine g_iload_n (pc' := 40) 2 O dX8_isAt_39 rfl rfl rfl ?_
      replace h := ob h; obtain ⟨v11, ev11, h⟩ := h
      refine g_iald (pc' := 41) O dX8_isAt_40 ev11 rfl ?_
      refine g_icmp_eq (tgt := 46) (pc' := 44) O dX8_isAt_41 (by decide) rfl (fun hc => ?_) (fun hc => ?_)
      · replace h := ip hc h
        refine g_iinc (q := 2) (v := x2 + (1 : Int32)) (lv' := [(2, .int (x2 + (1 : Int32))), (0, .ref x0), (1, .int x1)]) (pc' := 49) O dX8_isAt_46 rfl rfl (by decide) rfl rfl ?_
        refine g_goto (pc' := 19) O dX8_isAt_49 (by decide) ?_
        refine g_sub (lv' := [(0, .ref x0), (1, .int x1), (2, .int (x2 + (1 : Int32)))]) [1, 2, 0] rfl ?_
        exact ih x0 x1 (x2 + (1 : Int32)) M h
      · replace h := ine hc h
        refine g_iconst (v := 0) (pc' := 45) O dX8_isAt_44 (by decide) rfl ?_
        replace h := ob h; obtain ⟨z12, ez12, h⟩ := h
        obtain ⟨hz12, ez12b⟩ := nz_spec ez12
        rw [ez12b] at h
        cases h
        exact g_ireturn O dX8_isAt_45 rfl (nz_nar hz12) hf (by decide) (by decide)
def fX8_isAt  (this : Nat) (p0 : Int32) (M : Mem) : Option (Int32 × Mem) :=
  (gI M 5 this 26).bind fun v1 =>
  (gN M 5 this 10).bind fun v2 =>
  (aI M v2 (0 : Int32)).bind fun v3 =>
  if (p0 + v1) ≤ v3 then (fX8_isAt_19 FU this p0 (0 : Int32) M)
  else ((nz (0 : Int32)).bind fun z4 =>
  some (z4, M))
set_option maxHeartbeats 4000000 in
set_option maxRecDepth 100000 in
theorem okX8_isAt {l : Launch} {p : Int32 × Mem} {this : Nat} {p0 : Int32} {M : Mem} (h : fX8_isAt this p0 M = some p) : Cn l yX8_isAt mX8_isAt [.ref this, .int p0] M (some (.int p.1)) p.2 := by
  refine Cn.of [(0, .ref this), (1, .int p0)] (by decide) rfl rfl (Nat.le_of_ble_eq_true rfl) rfl (fun κ _ hf O => ?_)
  unfold fX8_isAt at h
  refine g_iload_n (pc' := 1) 1 O dX8_isAt_0 rfl rfl rfl ?_
  refine g_aload_n (pc' := 2) 0 O dX8_isAt_1 rfl rfl rfl ?_
  replace h := ob h; obtain ⟨v1, ev1, h⟩ := h
  refine g_getF (C := RX8) (T := TX8) (N := 29) (ci := 5) (k := 26) (pc' := 5) O dX8_isAt_2 rfl inX8 (by decide) tw_742 (gI_F ev1) rfl ?_
  refine g_iadd (pc' := 6) O dX8_isAt_5 rfl ?_
  refine g_aload_n (pc' := 7) 0 O dX8_isAt_6 rfl rfl rfl ?_
  replace h := ob h; obtain ⟨v2, ev2, h⟩ := h
  refine g_getF (C := RX8) (T := TX8) (N := 29) (ci := 5) (k := 10) (pc' := 10) O dX8_isAt_7 rfl inX8 (by decide) tw_726 (gN_F ev2) rfl ?_
  refine g_iconst (v := 0) (pc' := 11) O dX8_isAt_10 (by decide) rfl ?_
  replace h := ob h; obtain ⟨v3, ev3, h⟩ := h
  refine g_iald (pc' := 12) O dX8_isAt_11 ev3 rfl ?_
  refine g_icmp_le (tgt := 17) (pc' := 15) O dX8_isAt_12 (by decide) rfl (fun hc => ?_) (fun hc => ?_)
  · replace h := ip hc h
    refine g_iconst (v := 0) (pc' := 18) O dX8_isAt_17 (by decide) rfl ?_
    refine g_istore_n (lv' := [(2, .int (0 : Int32)), (0, .ref this), (1, .int p0)]) (pc' := 19) O dX8_isAt_18 rfl (by decide) rfl rfl ?_
    refine g_sub (lv' := [(0, .ref this), (1, .int p0), (2, .int (0 : Int32))]) [1, 2, 0] rfl ?_
    exact tX8_isAt_19 O hf FU this p0 (0 : Int32) M h
  · replace h := ine hc h
    refine g_iconst (v := 0) (pc' := 16) O dX8_isAt_15 (by decide) rfl ?_
    replace h := ob h; obtain ⟨z4, ez4, h⟩ := h
    obtain ⟨hz4, ez4b⟩ := nz_spec ez4
    rw [ez4b] at h
    cases h
    exact g_ireturn O dX8_isAt_16 rfl (nz_nar hz4) hf (by decide) (by decide)
abbrev mX8_below1000At : MD := (cX8_below1000At, 5, RX8, (some .int), { frames := 4, cells := 0, slots := 0, locals := 88 }, "below1000At")
theorem hyX8_below1000At : yX8_below1000At.cls ≠ "java/lang/invoke/MethodHandle" ∧ yX8_below1000At.cls ≠ "java/lang/invoke/VarHandle" ∧ (parseMethodDescriptor yX8_below1000At.desc).map (fun d => d.parameters.length) = some 1 := by decide +kernel
def fX8_below1000At_50 (k7 : Nat → Int32 → Int32 → Int32 → Int32 → Mem → Option (Int32 × Mem)) (x0 : Nat) (x1 : Int32) (x2 : Int32) (x3 : Int32) (x4 : Int32) (M : Mem) : Option (Int32 × Mem) :=
  k7 x0 x1 x2 x3 (x4 + (1 : Int32)) M
set_option maxHeartbeats 4000000 in
set_option maxRecDepth 100000 in
theorem tX8_below1000At_50 {κ : KT} {p : Int32 × Mem} (O : OkK κ mX8_below1000At) (hf : κ.2.2.2.2.2.2.2.2.2.2.2.2.2 = (some (.int p.1), p.2)) {k7 : Nat → Int32 → Int32 → Int32 → Int32 → Mem → Option (Int32 × Mem)} (hk7 : ∀ (x0 : Nat) (x1 : Int32) (x2 : Int32) (x3 : Int32) (x4 : Int32) (M : Mem), k7 x0 x1 x2 x3 x4 M = some p → G κ mX8_below1000At 0 0 7 [(0, .ref x0), (1, .int x1), (2, .int x2), (3, .int x3), (4, .int x4)] [] M) {x0 : Nat} {x1 : Int32} {x2 : Int32} {x3 : Int32} {x4 : Int32} {M : Mem} (h : fX8_below1000At_50 k7 x0 x1 x2 x3 x4 M = some p) : G κ mX8_below1000At 0 0 50 [(0, .ref x0), (1, .int x1), (2, .int x2), (3, .int x3), (4, .int x4)] [] M := by
  unfold fX8_below1000At_50 at h
  refine g_iinc (q := 4) (v := x4 + (1 : Int32)) (lv' := [(4, .int (x4 + (1 : Int32))), (0, .ref x0), (1, .int x1), (2, .int x2), (3, .int x3)]) (pc' := 53) O dX8_below1000At_50 rfl rfl (by decide) rfl rfl ?_
  refine g_goto (pc' := 7) O dX8_below1000At_53 (by decide) ?_
  refine g_sub (lv' := [(0, .ref x0), (1, .int x1), (2, .int x2), (3, .int x3), (4, .int (x4 + (1 : Int32)))]) [1, 2, 3, 4, 0] rfl ?_
  exact hk7 x0 x1 x2 x3 (x4 + (1 : Int32)) M h
def fX8_below1000At_7  : Nat → Nat → Int32 → Int32 → Int32 → Int32 → Mem → Option (Int32 × Mem)
  | 0, _, _, _, _, _, _ => none
  | n + 1, x0, x1, x2, x3, x4, M =>
    if (1000 : Int32) ≤ x4 then ((pF M 5 x0 27 (.int (x1 + x3))).bind fun M1 =>
    some (x2, M1))
    else ((pF M 5 x0 26 (.int (0 : Int32))).bind fun M2 =>
    (ck M2 5 x0).bind fun u3 =>
    (fX8_sayBelow1000 x0 x4 M2).bind fun r4 =>
    (gI r4 5 x0 26).bind fun v5 =>
    if v5 ≤ x3 then (fX8_below1000At_50 (fX8_below1000At_7 n) x0 x1 x2 x3 x4 r4)
    else ((ck r4 5 x0).bind fun u6 =>
    (fX8_isAt x0 x1 r4).bind fun r7 =>
    if r7.1 = 0 then (fX8_below1000At_50 (fX8_below1000At_7 n) x0 x1 x2 x3 x4 r7.2)
    else ((gI r7.2 5 x0 26).bind fun v8 =>
    fX8_below1000At_50 (fX8_below1000At_7 n) x0 x1 x4 v8 x4 r7.2)))
set_option maxHeartbeats 4000000 in
set_option maxRecDepth 100000 in
theorem tX8_below1000At_7 {κ : KT} {p : Int32 × Mem} (O : OkK κ mX8_below1000At) (hf : κ.2.2.2.2.2.2.2.2.2.2.2.2.2 = (some (.int p.1), p.2))  : ∀ (n : Nat) (x0 : Nat) (x1 : Int32) (x2 : Int32) (x3 : Int32) (x4 : Int32) (M : Mem), fX8_below1000At_7  n x0 x1 x2 x3 x4 M = some p → G κ mX8_below1000At 0 0 7 [(0, .ref x0), (1, .int x1), (2, .int x2), (3, .int x3), (4, .int x4)] [] M := by
  intro n
  induction n with
  | zero => intro x0 x1 x2 x3 x4 M h; cases h
  | succ n ih =>
    intro x0 x1 x2 x3 x4 M h
    rw [fX8_below1000At_7] at h
    refine g_iload (pc' := 9) 4 O dX8_below1000At_7 rfl rfl ?_
    refine g_sipush (v := 1000) (pc' := 12) O dX8_below1000At_9 (by decide) rfl ?_
    refine g_icmp_ge (tgt := 56) (pc' := 15) O dX8_below1000At_12 (by decide) rfl (fun hc => ?_) (fun hc => ?_)
    · replace h := ip hc h
      refine g_aload_n (pc' := 57) 0 O dX8_below1000At_56 rfl rfl rfl ?_
      refine g_iload_n (pc' := 58) 1 O dX8_below1000At_57 rfl rfl rfl ?_
      refine g_iload_n (pc' := 59) 3 O dX8_below1000At_58 rfl rfl rfl ?_
      refine g_iadd (pc' := 60) O dX8_below1000At_59 rfl ?_
      replace h := ob h; obtain ⟨M1, eM1, h⟩ := h
      refine g_putF (C := RX8) (T := TX8) (N := 29) (ci := 5) (k := 27) (pc' := 63) O dX8_below1000At_60 rfl inX8 (by decide) tw_743 tyX8 tyX8_ok nmX8 rfl rfl rfl rfl eM1 rfl ?_
      refine g_iload_n (pc' := 64) 2 O dX8_below1000At_63 rfl rfl rfl ?_
      cases h
      exact g_ireturn O dX8_below1000At_64 rfl rfl hf (by decide) (by decide)
    · replace h := ine hc h
      refine g_aload_n (pc' := 16) 0 O dX8_below1000At_15 rfl rfl rfl ?_
      refine g_iconst (v := 0) (pc' := 17) O dX8_below1000At_16 (by decide) rfl ?_
      replace h := ob h; obtain ⟨M2, eM2, h⟩ := h
      refine g_putF (C := RX8) (T := TX8) (N := 29) (ci := 5) (k := 26) (pc' := 20) O dX8_below1000At_17 rfl inX8 (by decide) tw_742 tyX8 tyX8_ok nmX8 rfl rfl rfl rfl eM2 rfl ?_
      refine g_aload_n (pc' := 21) 0 O dX8_below1000At_20 rfl rfl rfl ?_
      refine g_iload (pc' := 23) 4 O dX8_below1000At_21 rfl rfl ?_
      replace h := ob h; obtain ⟨u3, eu3, h⟩ := h
      replace h := ob h; obtain ⟨r4, er4, h⟩ := h
      refine g_callV (y := yX8_sayBelow1000) (ν := mX8_sayBelow1000) (n := 1) (As := [.int x4]) (b := x0) (st := []) (M2 := r4) (r1 := none) (pc' := 26) O dX8_below1000At_23 tw_976 tw_58 tw_975 tw_43 tw_973 hyX8_sayBelow1000 rfl rfl eu3 (okX8_sayBelow1000 er4) (Nat.le_of_ble_eq_true rfl) ⟨Nat.le_of_ble_eq_true rfl, Nat.le_of_ble_eq_true rfl⟩ ⟨Nat.le_of_ble_eq_true rfl, Nat.le_of_ble_eq_true rfl⟩ rfl ?_
      show G κ mX8_below1000At 0 0 26 [(0, .ref x0), (1, .int x1), (2, .int x2), (3, .int x3), (4, .int x4)] [] r4
      refine g_aload_n (pc' := 27) 0 O dX8_below1000At_26 rfl rfl rfl ?_
      replace h := ob h; obtain ⟨v5, ev5, h⟩ := h
      refine g_getF (C := RX8) (T := TX8) (N := 29) (ci := 5) (k := 26) (pc' := 30) O dX8_below1000At_27 rfl inX8 (by decide) tw_742 (gI_F ev5) rfl ?_
      refine g_iload_n (pc' := 31) 3 O dX8_below1000At_30 rfl rfl rfl ?_
      refine g_icmp_le (tgt := 50) (pc' := 34) O dX8_below1000At_31 (by decide) rfl (fun hc => ?_) (fun hc => ?_)
      · replace h := ip hc h
        exact tX8_below1000At_50 O hf ih h
      · replace h := ine hc h
        refine g_aload_n (pc' := 35) 0 O dX8_below1000At_34 rfl rfl rfl ?_
        refine g_iload_n (pc' := 36) 1 O dX8_below1000At_35 rfl rfl rfl ?_
        replace h := ob h; obtain ⟨u6, eu6, h⟩ := h
        replace h := ob h; obtain ⟨r7, er7, h⟩ := h
        refine g_callV (y := yX8_isAt) (ν := mX8_isAt) (n := 1) (As := [.int x1]) (b := x0) (st := []) (M2 := r7.2) (r1 := (some (.int r7.1))) (pc' := 39) O dX8_below1000At_36 tw_1034 tw_58 tw_1033 tw_47 tw_1031 hyX8_isAt rfl rfl eu6 (okX8_isAt er7) (Nat.le_of_ble_eq_true rfl) ⟨Nat.le_of_ble_eq_true rfl, Nat.le_of_ble_eq_true rfl⟩ ⟨Nat.le_of_ble_eq_true rfl, Nat.le_of_ble_eq_true rfl⟩ rfl ?_
        show G κ mX8_below1000At 0 0 39 [(0, .ref x0), (1, .int x1), (2, .int x2), (3, .int x3), (4, .int x4)] [.int r7.1] r7.2
        refine g_if_eq (tgt := 50) (pc' := 42) O dX8_below1000At_39 (by decide) rfl (fun hc => ?_) (fun hc => ?_)
        · replace h := ip hc h
          exact tX8_below1000At_50 O hf ih h
        · replace h := ine hc h
          refine g_iload (pc' := 44) 4 O dX8_below1000At_42 rfl rfl ?_
          refine g_istore_n (lv' := [(2, .int x4), (0, .ref x0), (1, .int x1), (3, .int x3), (4, .int x4)]) (pc' := 45) O dX8_below1000At_44 rfl (by decide) rfl rfl ?_
          refine g_aload_n (pc' := 46) 1 O dX8_below1000At_45 rfl rfl rfl ?_
          replace h := ob h; obtain ⟨v8, ev8, h⟩ := h
          refine g_getF (C := RX8) (T := TX8) (N := 29) (ci := 5) (k := 26) (pc' := 49) O dX8_below1000At_46 rfl inX8 (by decide) tw_742 (gI_F ev8) rfl ?_
          refine g_istore_n (lv' := [(3, .int v8), (2, .int x4), (0, .ref x0), (1, .int x1), (4, .int x4)]) (pc' := 50) O dX8_below1000At_49 rfl (by decide) rfl rfl ?_
          refine g_sub (lv' := [(0, .ref x0), (1, .int x1), (2, .int x4), (3, .int v8), (4, .int x4)]) [2, 3, 1, 0, 4] rfl ?_
          exact tX8_below1000At_50 O hf ih h
def fX8_below1000At  (this : Nat) (p0 : Int32) (M : Mem) : Option (Int32 × Mem) :=
  fX8_below1000At_7 FU this p0 (0 : Int32) (0 : Int32) (1 : Int32) M
set_option maxHeartbeats 4000000 in
set_option maxRecDepth 100000 in
theorem okX8_below1000At {l : Launch} {p : Int32 × Mem} {this : Nat} {p0 : Int32} {M : Mem} (h : fX8_below1000At this p0 M = some p) : Cn l yX8_below1000At mX8_below1000At [.ref this, .int p0] M (some (.int p.1)) p.2 := by
  refine Cn.of [(0, .ref this), (1, .int p0)] (by decide) rfl rfl (Nat.le_of_ble_eq_true rfl) rfl (fun κ _ hf O => ?_)
  unfold fX8_below1000At at h
  refine g_iconst (v := 0) (pc' := 1) O dX8_below1000At_0 (by decide) rfl ?_
  refine g_istore_n (lv' := [(2, .int (0 : Int32)), (0, .ref this), (1, .int p0)]) (pc' := 2) O dX8_below1000At_1 rfl (by decide) rfl rfl ?_
  refine g_iconst (v := 0) (pc' := 3) O dX8_below1000At_2 (by decide) rfl ?_
  refine g_istore_n (lv' := [(3, .int (0 : Int32)), (2, .int (0 : Int32)), (0, .ref this), (1, .int p0)]) (pc' := 4) O dX8_below1000At_3 rfl (by decide) rfl rfl ?_
  refine g_iconst (v := 1) (pc' := 5) O dX8_below1000At_4 (by decide) rfl ?_
  refine g_istore (lv' := [(4, .int (1 : Int32)), (3, .int (0 : Int32)), (2, .int (0 : Int32)), (0, .ref this), (1, .int p0)]) (pc' := 7) O dX8_below1000At_5 (by decide) rfl rfl ?_
  refine g_sub (lv' := [(0, .ref this), (1, .int p0), (2, .int (0 : Int32)), (3, .int (0 : Int32)), (4, .int (1 : Int32))]) [3, 4, 2, 1, 0] rfl ?_
  exact tX8_below1000At_7 O hf FU this p0 (0 : Int32) (0 : Int32) (1 : Int32) M h
abbrev mX8_wordAt : MD := (cX8_wordAt, 4, RX8, (some .boolean), { frames := 2, cells := 0, slots := 0, locals := 45 }, "wordAt")
theorem hyX8_wordAt : yX8_wordAt.cls ≠ "java/lang/invoke/MethodHandle" ∧ yX8_wordAt.cls ≠ "java/lang/invoke/VarHandle" ∧ (parseMethodDescriptor yX8_wordAt.desc).map (fun d => d.parameters.length) = some 2 := by decide +kernel
def fX8_wordAt  (this : Nat) (p0 : Int32) (p1 : Int64) (M : Mem) : Option (Int32 × Mem) :=
  (pF M 5 this 26 (.int (0 : Int32))).bind fun M1 =>
  (ck M1 5 this).bind fun u2 =>
  (fX8_sayWord this p1 M1).bind fun r3 =>
  (ck r3 5 this).bind fun u4 =>
  (fX8_isAt this p0 r3).bind fun r5 =>
  (nz r5.1).bind fun z6 =>
  some (z6, r5.2)
set_option maxHeartbeats 4000000 in
set_option maxRecDepth 100000 in
theorem okX8_wordAt {l : Launch} {p : Int32 × Mem} {this : Nat} {p0 : Int32} {p1 : Int64} {M : Mem} (h : fX8_wordAt this p0 p1 M = some p) : Cn l yX8_wordAt mX8_wordAt [.ref this, .int p0, .long p1] M (some (.int p.1)) p.2 := by
  refine Cn.of [(0, .ref this), (1, .int p0), (2, .long p1)] (by decide) rfl rfl (Nat.le_of_ble_eq_true rfl) rfl (fun κ _ hf O => ?_)
  unfold fX8_wordAt at h
  refine g_aload_n (pc' := 1) 0 O dX8_wordAt_0 rfl rfl rfl ?_
  refine g_iconst (v := 0) (pc' := 2) O dX8_wordAt_1 (by decide) rfl ?_
  replace h := ob h; obtain ⟨M1, eM1, h⟩ := h
  refine g_putF (C := RX8) (T := TX8) (N := 29) (ci := 5) (k := 26) (pc' := 5) O dX8_wordAt_2 rfl inX8 (by decide) tw_742 tyX8 tyX8_ok nmX8 rfl rfl rfl rfl eM1 rfl ?_
  refine g_aload_n (pc' := 6) 0 O dX8_wordAt_5 rfl rfl rfl ?_
  refine g_lload_n (pc' := 7) 2 O dX8_wordAt_6 rfl rfl rfl ?_
  replace h := ob h; obtain ⟨u2, eu2, h⟩ := h
  replace h := ob h; obtain ⟨r3, er3, h⟩ := h
  refine g_callV (y := yX8_sayWord) (ν := mX8_sayWord) (n := 1) (As := [.long p1]) (b := this) (st := []) (M2 := r3) (r1 := none) (pc' := 10) O dX8_wordAt_7 tw_969 tw_58 tw_968 tw_42 tw_966 hyX8_sayWord rfl rfl eu2 (okX8_sayWord er3) (Nat.le_of_ble_eq_true rfl) ⟨Nat.le_of_ble_eq_true rfl, Nat.le_of_ble_eq_true rfl⟩ ⟨Nat.le_of_ble_eq_true rfl, Nat.le_of_ble_eq_true rfl⟩ rfl ?_
  show G κ mX8_wordAt 0 0 10 [(0, .ref this), (1, .int p0), (2, .long p1)] [] r3
  refine g_aload_n (pc' := 11) 0 O dX8_wordAt_10 rfl rfl rfl ?_
  refine g_iload_n (pc' := 12) 1 O dX8_wordAt_11 rfl rfl rfl ?_
  replace h := ob h; obtain ⟨u4, eu4, h⟩ := h
  replace h := ob h; obtain ⟨r5, er5, h⟩ := h
  refine g_callV (y := yX8_isAt) (ν := mX8_isAt) (n := 1) (As := [.int p0]) (b := this) (st := []) (M2 := r5.2) (r1 := (some (.int r5.1))) (pc' := 15) O dX8_wordAt_12 tw_1034 tw_58 tw_1033 tw_47 tw_1031 hyX8_isAt rfl rfl eu4 (okX8_isAt er5) (Nat.le_of_ble_eq_true rfl) ⟨Nat.le_of_ble_eq_true rfl, Nat.le_of_ble_eq_true rfl⟩ ⟨Nat.le_of_ble_eq_true rfl, Nat.le_of_ble_eq_true rfl⟩ rfl ?_
  show G κ mX8_wordAt 0 0 15 [(0, .ref this), (1, .int p0), (2, .long p1)] [.int r5.1] r5.2
  replace h := ob h; obtain ⟨z6, ez6, h⟩ := h
  obtain ⟨hz6, ez6b⟩ := nz_spec ez6
  rw [ez6b] at h
  cases h
  exact g_ireturn O dX8_wordAt_15 rfl (nz_nar hz6) hf (by decide) (by decide)
abbrev mX8_spoken : MD := (cX8_spoken, 9, RX8, (some .int), { frames := 5, cells := 0, slots := 0, locals := 112 }, "spoken")
theorem hyX8_spoken : yX8_spoken.cls ≠ "java/lang/invoke/MethodHandle" ∧ yX8_spoken.cls ≠ "java/lang/invoke/VarHandle" ∧ (parseMethodDescriptor yX8_spoken.desc).map (fun d => d.parameters.length) = some 0 := by decide +kernel
def fX8_spoken_205  (s0 : Int32) (M : Mem) : Option (Int32 × Mem) :=
  some (s0, M)
set_option maxHeartbeats 4000000 in
set_option maxRecDepth 100000 in
theorem tX8_spoken_205 {κ : KT} {p : Int32 × Mem} (O : OkK κ mX8_spoken) (hf : κ.2.2.2.2.2.2.2.2.2.2.2.2.2 = (some (.int p.1), p.2))  {s0 : Int32} {M : Mem} (h : fX8_spoken_205  s0 M = some p) : G κ mX8_spoken 0 0 205 [] [.int s0] M := by
  unfold fX8_spoken_205 at h
  cases h
  exact g_ireturn O dX8_spoken_205 rfl rfl hf (by decide) (by decide)
def fX8_spoken_204  (M : Mem) : Option (Int32 × Mem) :=
  fX8_spoken_205 (-1 : Int32) M
set_option maxHeartbeats 4000000 in
set_option maxRecDepth 100000 in
theorem tX8_spoken_204 {κ : KT} {p : Int32 × Mem} (O : OkK κ mX8_spoken) (hf : κ.2.2.2.2.2.2.2.2.2.2.2.2.2 = (some (.int p.1), p.2))  {M : Mem} (h : fX8_spoken_204  M = some p) : G κ mX8_spoken 0 0 204 [] [] M := by
  unfold fX8_spoken_204 at h
  refine g_iconst (v := -1) (pc' := 205) O dX8_spoken_204 (by decide) rfl ?_
  exact tX8_spoken_205 O hf h
def fX8_spoken_158  (x0 : Nat) (x3 : Int32) (x4 : Int32) (x5 : Int32) (M : Mem) : Option (Int32 × Mem) :=
  (ck M 5 x0).bind fun u1 =>
  (fX8_makeWords x0 ((((1000000 : Int32) * x3) + ((1000 : Int32) * x4)) + x5) M).bind fun r2 =>
  (gI r2 5 x0 26).bind fun v3 =>
  (gN r2 5 x0 10).bind fun v4 =>
  (aI r2 v4 (0 : Int32)).bind fun v5 =>
  if v3 = v5 then ((ck r2 5 x0).bind fun u6 =>
  (fX8_isAt x0 (0 : Int32) r2).bind fun r7 =>
  if r7.1 = 0 then (fX8_spoken_204 r7.2)
  else (fX8_spoken_205 ((((1000000 : Int32) * x3) + ((1000 : Int32) * x4)) + x5) r7.2))
  else (fX8_spoken_204 r2)
set_option maxHeartbeats 4000000 in
set_option maxRecDepth 100000 in
theorem tX8_spoken_158 {κ : KT} {p : Int32 × Mem} (O : OkK κ mX8_spoken) (hf : κ.2.2.2.2.2.2.2.2.2.2.2.2.2 = (some (.int p.1), p.2))  {x0 : Nat} {x3 : Int32} {x4 : Int32} {x5 : Int32} {M : Mem} (h : fX8_spoken_158  x0 x3 x4 x5 M = some p) : G κ mX8_spoken 0 0 158 [(0, .ref x0), (3, .int x3), (4, .int x4), (5, .int x5)] [] M := by
  unfold fX8_spoken_158 at h
  refine g_ldcw (v := 1000000) (pc' := 161) O dX8_spoken_158 tw_972 rfl ?_
  refine g_iload_n (pc' := 162) 1 O dX8_spoken_161 rfl rfl rfl ?_
  refine g_imul (pc' := 163) O dX8_spoken_162 rfl ?_
  refine g_sipush (v := 1000) (pc' := 166) O dX8_spoken_163 (by decide) rfl ?_
  refine g_iload (pc' := 168) 2 O dX8_spoken_166 rfl rfl ?_
  refine g_imul (pc' := 169) O dX8_spoken_168 rfl ?_
  refine g_iadd (pc' := 170) O dX8_spoken_169 rfl ?_
  refine g_iload (pc' := 172) 3 O dX8_spoken_170 rfl rfl ?_
  refine g_iadd (pc' := 173) O dX8_spoken_172 rfl ?_
  refine g_istore_n (lv' := [(2, .int ((((1000000 : Int32) * x3) + ((1000 : Int32) * x4)) + x5)), (0, .ref x0), (3, .int x3), (4, .int x4), (5, .int x5)]) (pc' := 174) O dX8_spoken_173 rfl (by decide) rfl rfl ?_
  refine g_aload_n (pc' := 175) 1 O dX8_spoken_174 rfl rfl rfl ?_
  refine g_iload_n (pc' := 176) 0 O dX8_spoken_175 rfl rfl rfl ?_
  replace h := ob h; obtain ⟨u1, eu1, h⟩ := h
  replace h := ob h; obtain ⟨r2, er2, h⟩ := h
  refine g_callV (y := yX8_makeWords) (ν := mX8_makeWords) (n := 1) (As := [.int ((((1000000 : Int32) * x3) + ((1000 : Int32) * x4)) + x5)]) (b := x0) (st := []) (M2 := r2) (r1 := none) (pc' := 179) O dX8_spoken_176 tw_964 tw_58 tw_963 tw_41 tw_961 hyX8_makeWords rfl rfl eu1 (okX8_makeWords er2) (Nat.le_of_ble_eq_true rfl) ⟨Nat.le_of_ble_eq_true rfl, Nat.le_of_ble_eq_true rfl⟩ ⟨Nat.le_of_ble_eq_true rfl, Nat.le_of_ble_eq_true rfl⟩ rfl ?_
  show G κ mX8_spoken 0 0 179 [(2, .int ((((1000000 : Int32) * x3) + ((1000 : Int32) * x4)) + x5)), (0, .ref x0), (3, .int x3), (4, .int x4), (5, .int x5)] [] r2
  refine g_aload_n (pc' := 180) 1 O dX8_spoken_179 rfl rfl rfl ?_
  replace h := ob h; obtain ⟨v3, ev3, h⟩ := h
  refine g_getF (C := RX8) (T := TX8) (N := 29) (ci := 5) (k := 26) (pc' := 183) O dX8_spoken_180 rfl inX8 (by decide) tw_742 (gI_F ev3) rfl ?_
  refine g_aload_n (pc' := 184) 1 O dX8_spoken_183 rfl rfl rfl ?_
  replace h := ob h; obtain ⟨v4, ev4, h⟩ := h
  refine g_getF (C := RX8) (T := TX8) (N := 29) (ci := 5) (k := 10) (pc' := 187) O dX8_spoken_184 rfl inX8 (by decide) tw_726 (gN_F ev4) rfl ?_
  refine g_iconst (v := 0) (pc' := 188) O dX8_spoken_187 (by decide) rfl ?_
  replace h := ob h; obtain ⟨v5, ev5, h⟩ := h
  refine g_iald (pc' := 189) O dX8_spoken_188 ev5 rfl ?_
  refine g_icmp_ne (tgt := 204) (pc' := 192) O dX8_spoken_189 (by decide) rfl (fun hc => ?_) (fun hc => ?_)
  · replace h := ine hc h
    refine g_sub (lv' := []) [] rfl ?_
    exact tX8_spoken_204 O hf h
  · replace h := ip hc h
    refine g_aload_n (pc' := 193) 1 O dX8_spoken_192 rfl rfl rfl ?_
    refine g_iconst (v := 0) (pc' := 194) O dX8_spoken_193 (by decide) rfl ?_
    replace h := ob h; obtain ⟨u6, eu6, h⟩ := h
    replace h := ob h; obtain ⟨r7, er7, h⟩ := h
    refine g_callV (y := yX8_isAt) (ν := mX8_isAt) (n := 1) (As := [.int (0 : Int32)]) (b := x0) (st := []) (M2 := r7.2) (r1 := (some (.int r7.1))) (pc' := 197) O dX8_spoken_194 tw_1034 tw_58 tw_1033 tw_47 tw_1031 hyX8_isAt rfl rfl eu6 (okX8_isAt er7) (Nat.le_of_ble_eq_true rfl) ⟨Nat.le_of_ble_eq_true rfl, Nat.le_of_ble_eq_true rfl⟩ ⟨Nat.le_of_ble_eq_true rfl, Nat.le_of_ble_eq_true rfl⟩ rfl ?_
    show G κ mX8_spoken 0 0 197 [(2, .int ((((1000000 : Int32) * x3) + ((1000 : Int32) * x4)) + x5)), (0, .ref x0), (3, .int x3), (4, .int x4), (5, .int x5)] [.int r7.1] r7.2
    refine g_if_eq (tgt := 204) (pc' := 200) O dX8_spoken_197 (by decide) rfl (fun hc => ?_) (fun hc => ?_)
    · replace h := ip hc h
      refine g_sub (lv' := []) [] rfl ?_
      exact tX8_spoken_204 O hf h
    · replace h := ine hc h
      refine g_iload_n (pc' := 201) 0 O dX8_spoken_200 rfl rfl rfl ?_
      refine g_goto (pc' := 205) O dX8_spoken_201 (by decide) ?_
      refine g_sub (lv' := []) [] rfl ?_
      exact tX8_spoken_205 O hf h
def fX8_spoken_152 (k31 : Nat → Int32 → Int32 → Int32 → Int32 → Int32 → Mem → Option (Int32 × Mem)) (x0 : Nat) (x1 : Int32) (x3 : Int32) (x4 : Int32) (x5 : Int32) (x6 : Int32) (M : Mem) : Option (Int32 × Mem) :=
  k31 x0 x1 x3 x4 x5 (x6 + (1 : Int32)) M
set_option maxHeartbeats 4000000 in
set_option maxRecDepth 100000 in
theorem tX8_spoken_152 {κ : KT} {p : Int32 × Mem} (O : OkK κ mX8_spoken) (hf : κ.2.2.2.2.2.2.2.2.2.2.2.2.2 = (some (.int p.1), p.2)) {k31 : Nat → Int32 → Int32 → Int32 → Int32 → Int32 → Mem → Option (Int32 × Mem)} (hk31 : ∀ (x0 : Nat) (x1 : Int32) (x3 : Int32) (x4 : Int32) (x5 : Int32) (x6 : Int32) (M : Mem), k31 x0 x1 x3 x4 x5 x6 M = some p → G κ mX8_spoken 0 0 31 [(0, .ref x0), (1, .int x1), (3, .int x3), (4, .int x4), (5, .int x5), (6, .int x6)] [] M) {x0 : Nat} {x1 : Int32} {x3 : Int32} {x4 : Int32} {x5 : Int32} {x6 : Int32} {M : Mem} (h : fX8_spoken_152 k31 x0 x1 x3 x4 x5 x6 M = some p) : G κ mX8_spoken 0 0 152 [(0, .ref x0), (1, .int x1), (3, .int x3), (4, .int x4), (5, .int x5), (6, .int x6)] [] M := by
  unfold fX8_spoken_152 at h
  refine g_iinc (q := 5) (v := x6 + (1 : Int32)) (lv' := [(6, .int (x6 + (1 : Int32))), (0, .ref x0), (1, .int x1), (3, .int x3), (4, .int x4), (5, .int x5)]) (pc' := 155) O dX8_spoken_152 rfl rfl (by decide) rfl rfl ?_
  refine g_goto (pc' := 31) O dX8_spoken_155 (by decide) ?_
  refine g_sub (lv' := [(0, .ref x0), (1, .int x1), (3, .int x3), (4, .int x4), (5, .int x5), (6, .int (x6 + (1 : Int32)))]) [1, 2, 3, 4, 5, 0] rfl ?_
  exact hk31 x0 x1 x3 x4 x5 (x6 + (1 : Int32)) M h
def fX8_spoken_141 (k31 : Nat → Int32 → Int32 → Int32 → Int32 → Int32 → Mem → Option (Int32 × Mem)) (x0 : Nat) (x3 : Int32) (x4 : Int32) (x6 : Int32) (x7 : Int32) (M : Mem) : Option (Int32 × Mem) :=
  (gN M 5 x0 10).bind fun v1 =>
  (aI M v1 (0 : Int32)).bind fun v2 =>
  fX8_spoken_152 k31 x0 v2 x3 x4 x7 x6 M
set_option maxHeartbeats 4000000 in
set_option maxRecDepth 100000 in
theorem tX8_spoken_141 {κ : KT} {p : Int32 × Mem} (O : OkK κ mX8_spoken) (hf : κ.2.2.2.2.2.2.2.2.2.2.2.2.2 = (some (.int p.1), p.2)) {k31 : Nat → Int32 → Int32 → Int32 → Int32 → Int32 → Mem → Option (Int32 × Mem)} (hk31 : ∀ (x0 : Nat) (x1 : Int32) (x3 : Int32) (x4 : Int32) (x5 : Int32) (x6 : Int32) (M : Mem), k31 x0 x1 x3 x4 x5 x6 M = some p → G κ mX8_spoken 0 0 31 [(0, .ref x0), (1, .int x1), (3, .int x3), (4, .int x4), (5, .int x5), (6, .int x6)] [] M) {x0 : Nat} {x3 : Int32} {x4 : Int32} {x6 : Int32} {x7 : Int32} {M : Mem} (h : fX8_spoken_141 k31 x0 x3 x4 x6 x7 M = some p) : G κ mX8_spoken 0 0 141 [(0, .ref x0), (3, .int x3), (4, .int x4), (6, .int x6), (7, .int x7)] [] M := by
  unfold fX8_spoken_141 at h
  refine g_iload (pc' := 143) 4 O dX8_spoken_141 rfl rfl ?_
  refine g_istore (lv' := [(5, .int x7), (0, .ref x0), (3, .int x3), (4, .int x4), (6, .int x6), (7, .int x7)]) (pc' := 145) O dX8_spoken_143 (by decide) rfl rfl ?_
  refine g_aload_n (pc' := 146) 1 O dX8_spoken_145 rfl rfl rfl ?_
  replace h := ob h; obtain ⟨v1, ev1, h⟩ := h
  refine g_getF (C := RX8) (T := TX8) (N := 29) (ci := 5) (k := 10) (pc' := 149) O dX8_spoken_146 rfl inX8 (by decide) tw_726 (gN_F ev1) rfl ?_
  refine g_iconst (v := 0) (pc' := 150) O dX8_spoken_149 (by decide) rfl ?_
  replace h := ob h; obtain ⟨v2, ev2, h⟩ := h
  refine g_iald (pc' := 151) O dX8_spoken_150 ev2 rfl ?_
  refine g_istore_n (lv' := [(1, .int v2), (5, .int x7), (0, .ref x0), (3, .int x3), (4, .int x4), (6, .int x6), (7, .int x7)]) (pc' := 152) O dX8_spoken_151 rfl (by decide) rfl rfl ?_
  refine g_sub (lv' := [(0, .ref x0), (1, .int v2), (3, .int x3), (4, .int x4), (5, .int x7), (6, .int x6)]) [2, 0, 3, 4, 1, 5] rfl ?_
  exact tX8_spoken_152 O hf hk31 h
def fX8_spoken_105 (k31 : Nat → Int32 → Int32 → Int32 → Int32 → Int32 → Mem → Option (Int32 × Mem)) (x0 : Nat) (x3 : Int32) (x4 : Int32) (x5 : Int32) (x6 : Int32) (x7 : Int32) (x8 : Int32) (M : Mem) : Option (Int32 × Mem) :=
  (gN M 5 x0 10).bind fun v1 =>
  (aI M v1 (0 : Int32)).bind fun v2 =>
  if v2 ≤ x8 then (fX8_spoken_141 k31 x0 x3 x4 x6 x7 M)
  else ((ck M 5 x0).bind fun u3 =>
  (fX8_wordAt x0 x8 (8388076856215170660 : Int64) M).bind fun r4 =>
  if r4.1 = 0 then (fX8_spoken_141 k31 x0 x3 x4 x6 x7 r4.2)
  else (fX8_spoken_152 k31 x0 (x8 + (9 : Int32)) x3 x7 x5 x6 r4.2))
set_option maxHeartbeats 4000000 in
set_option maxRecDepth 100000 in
theorem tX8_spoken_105 {κ : KT} {p : Int32 × Mem} (O : OkK κ mX8_spoken) (hf : κ.2.2.2.2.2.2.2.2.2.2.2.2.2 = (some (.int p.1), p.2)) {k31 : Nat → Int32 → Int32 → Int32 → Int32 → Int32 → Mem → Option (Int32 × Mem)} (hk31 : ∀ (x0 : Nat) (x1 : Int32) (x3 : Int32) (x4 : Int32) (x5 : Int32) (x6 : Int32) (M : Mem), k31 x0 x1 x3 x4 x5 x6 M = some p → G κ mX8_spoken 0 0 31 [(0, .ref x0), (1, .int x1), (3, .int x3), (4, .int x4), (5, .int x5), (6, .int x6)] [] M) {x0 : Nat} {x3 : Int32} {x4 : Int32} {x5 : Int32} {x6 : Int32} {x7 : Int32} {x8 : Int32} {M : Mem} (h : fX8_spoken_105 k31 x0 x3 x4 x5 x6 x7 x8 M = some p) : G κ mX8_spoken 0 0 105 [(0, .ref x0), (3, .int x3), (4, .int x4), (5, .int x5), (6, .int x6), (7, .int x7), (8, .int x8)] [] M := by
  unfold fX8_spoken_105 at h
  refine g_iload (pc' := 107) 6 O dX8_spoken_105 rfl rfl ?_
  refine g_aload_n (pc' := 108) 0 O dX8_spoken_107 rfl rfl rfl ?_
  replace h := ob h; obtain ⟨v1, ev1, h⟩ := h
  refine g_getF (C := RX8) (T := TX8) (N := 29) (ci := 5) (k := 10) (pc' := 111) O dX8_spoken_108 rfl inX8 (by decide) tw_726 (gN_F ev1) rfl ?_
  refine g_iconst (v := 0) (pc' := 112) O dX8_spoken_111 (by decide) rfl ?_
  replace h := ob h; obtain ⟨v2, ev2, h⟩ := h
  refine g_iald (pc' := 113) O dX8_spoken_112 ev2 rfl ?_
  refine g_icmp_ge (tgt := 141) (pc' := 116) O dX8_spoken_113 (by decide) rfl (fun hc => ?_) (fun hc => ?_)
  · replace h := ip hc h
    refine g_sub (lv' := [(0, .ref x0), (3, .int x3), (4, .int x4), (6, .int x6), (7, .int x7)]) [0, 1, 2, 4, 5] rfl ?_
    exact tX8_spoken_141 O hf hk31 h
  · replace h := ine hc h
    refine g_aload_n (pc' := 117) 0 O dX8_spoken_116 rfl rfl rfl ?_
    refine g_iload (pc' := 119) 6 O dX8_spoken_117 rfl rfl ?_
    refine g_ldc2 (v := 8388076856215170660) (pc' := 122) O dX8_spoken_119 tw_1014 rfl ?_
    replace h := ob h; obtain ⟨u3, eu3, h⟩ := h
    replace h := ob h; obtain ⟨r4, er4, h⟩ := h
    refine g_callV (y := yX8_wordAt) (ν := mX8_wordAt) (n := 2) (As := [.int x8, .long (8388076856215170660 : Int64)]) (b := x0) (st := []) (M2 := r4.2) (r1 := (some (.int r4.1))) (pc' := 125) O dX8_spoken_122 tw_1038 tw_58 tw_1037 tw_48 tw_1035 hyX8_wordAt rfl rfl eu3 (okX8_wordAt er4) (Nat.le_of_ble_eq_true rfl) ⟨Nat.le_of_ble_eq_true rfl, Nat.le_of_ble_eq_true rfl⟩ ⟨Nat.le_of_ble_eq_true rfl, Nat.le_of_ble_eq_true rfl⟩ rfl ?_
    show G κ mX8_spoken 0 0 125 [(0, .ref x0), (3, .int x3), (4, .int x4), (5, .int x5), (6, .int x6), (7, .int x7), (8, .int x8)] [.int r4.1] r4.2
    refine g_if_eq (tgt := 141) (pc' := 128) O dX8_spoken_125 (by decide) rfl (fun hc => ?_) (fun hc => ?_)
    · replace h := ip hc h
      refine g_sub (lv' := [(0, .ref x0), (3, .int x3), (4, .int x4), (6, .int x6), (7, .int x7)]) [0, 1, 2, 4, 5] rfl ?_
      exact tX8_spoken_141 O hf hk31 h
    · replace h := ine hc h
      refine g_iload (pc' := 130) 5 O dX8_spoken_128 rfl rfl ?_
      refine g_istore (lv' := [(4, .int x7), (0, .ref x0), (3, .int x3), (5, .int x5), (6, .int x6), (7, .int x7), (8, .int x8)]) (pc' := 132) O dX8_spoken_130 (by decide) rfl rfl ?_
      refine g_iload (pc' := 134) 6 O dX8_spoken_132 rfl rfl ?_
      refine g_bipush (v := 9) (pc' := 136) O dX8_spoken_134 (by decide) rfl ?_
      refine g_iadd (pc' := 137) O dX8_spoken_136 rfl ?_
      refine g_istore_n (lv' := [(1, .int (x8 + (9 : Int32))), (4, .int x7), (0, .ref x0), (3, .int x3), (5, .int x5), (6, .int x6), (7, .int x7), (8, .int x8)]) (pc' := 138) O dX8_spoken_137 rfl (by decide) rfl rfl ?_
      refine g_goto (pc' := 152) O dX8_spoken_138 (by decide) ?_
      refine g_sub (lv' := [(0, .ref x0), (1, .int (x8 + (9 : Int32))), (3, .int x3), (4, .int x7), (5, .int x5), (6, .int x6)]) [2, 0, 3, 1, 4, 5] rfl ?_
      exact tX8_spoken_152 O hf hk31 h
def fX8_spoken_31  : Nat → Nat → Int32 → Int32 → Int32 → Int32 → Int32 → Mem → Option (Int32 × Mem)
  | 0, _, _, _, _, _, _, _ => none
  | n + 1, x0, x1, x3, x4, x5, x6, M =>
    if (3 : Int32) ≤ x6 then (fX8_spoken_158 x0 x3 x4 x5 M)
    else ((gN M 5 x0 10).bind fun v1 =>
    (aI M v1 (0 : Int32)).bind fun v2 =>
    if v2 ≤ x1 then (fX8_spoken_158 x0 x3 x4 x5 M)
    else ((ck M 5 x0).bind fun u3 =>
    (fX8_below1000At x0 x1 M).bind fun r4 =>
    (gI r4.2 5 x0 27).bind fun v5 =>
    if r4.1 = 0 then (fX8_spoken_158 x0 x3 x4 x5 r4.2)
    else ((gN r4.2 5 x0 10).bind fun v6 =>
    (aI r4.2 v6 (0 : Int32)).bind fun v7 =>
    if v7 ≤ (v5 + (1 : Int32)) then (fX8_spoken_105 (fX8_spoken_31 n) x0 x3 x4 x5 x6 r4.1 (v5 + (1 : Int32)) r4.2)
    else ((ck r4.2 5 x0).bind fun u8 =>
    (fX8_wordAt x0 (v5 + (1 : Int32)) (30796686857695086 : Int64) r4.2).bind fun r9 =>
    if r9.1 = 0 then (fX8_spoken_105 (fX8_spoken_31 n) x0 x3 x4 x5 x6 r4.1 (v5 + (1 : Int32)) r9.2)
    else (fX8_spoken_152 (fX8_spoken_31 n) x0 ((v5 + (1 : Int32)) + (8 : Int32)) r4.1 x4 x5 x6 r9.2)))))
set_option maxHeartbeats 4000000 in
set_option maxRecDepth 100000 in
theorem tX8_spoken_31 {κ : KT} {p : Int32 × Mem} (O : OkK κ mX8_spoken) (hf : κ.2.2.2.2.2.2.2.2.2.2.2.2.2 = (some (.int p.1), p.2))  : ∀ (n : Nat) (x0 : Nat) (x1 : Int32) (x3 : Int32) (x4 : Int32) (x5 : Int32) (x6 : Int32) (M : Mem), fX8_spoken_31  n x0 x1 x3 x4 x5 x6 M = some p → G κ mX8_spoken 0 0 31 [(0, .ref x0), (1, .int x1), (3, .int x3), (4, .int x4), (5, .int x5), (6, .int x6)] [] M := by
  intro n
  induction n with
  | zero => intro x0 x1 x3 x4 x5 x6 M h; cases h
  | succ n ih =>
    intro x0 x1 x3 x4 x5 x6 M h
    rw [fX8_spoken_31] at h
    refine g_iload (pc' := 33) 5 O dX8_spoken_31 rfl rfl ?_
    refine g_iconst (v := 3) (pc' := 34) O dX8_spoken_33 (by decide) rfl ?_
    refine g_icmp_ge (tgt := 158) (pc' := 37) O dX8_spoken_34 (by decide) rfl (fun hc => ?_) (fun hc => ?_)
    · replace h := ip hc h
      refine g_sub (lv' := [(0, .ref x0), (3, .int x3), (4, .int x4), (5, .int x5)]) [0, 2, 3, 4] rfl ?_
      exact tX8_spoken_158 O hf h
    · replace h := ine hc h
      refine g_iload_n (pc' := 38) 1 O dX8_spoken_37 rfl rfl rfl ?_
      refine g_aload_n (pc' := 39) 0 O dX8_spoken_38 rfl rfl rfl ?_
      replace h := ob h; obtain ⟨v1, ev1, h⟩ := h
      refine g_getF (C := RX8) (T := TX8) (N := 29) (ci := 5) (k := 10) (pc' := 42) O dX8_spoken_39 rfl inX8 (by decide) tw_726 (gN_F ev1) rfl ?_
      refine g_iconst (v := 0) (pc' := 43) O dX8_spoken_42 (by decide) rfl ?_
      replace h := ob h; obtain ⟨v2, ev2, h⟩ := h
      refine g_iald (pc' := 44) O dX8_spoken_43 ev2 rfl ?_
      refine g_icmp_ge (tgt := 158) (pc' := 47) O dX8_spoken_44 (by decide) rfl (fun hc => ?_) (fun hc => ?_)
      · replace h := ip hc h
        refine g_sub (lv' := [(0, .ref x0), (3, .int x3), (4, .int x4), (5, .int x5)]) [0, 2, 3, 4] rfl ?_
        exact tX8_spoken_158 O hf h
      · replace h := ine hc h
        refine g_aload_n (pc' := 48) 0 O dX8_spoken_47 rfl rfl rfl ?_
        refine g_iload_n (pc' := 49) 1 O dX8_spoken_48 rfl rfl rfl ?_
        replace h := ob h; obtain ⟨u3, eu3, h⟩ := h
        replace h := ob h; obtain ⟨r4, er4, h⟩ := h
        refine g_callV (y := yX8_below1000At) (ν := mX8_below1000At) (n := 1) (As := [.int x1]) (b := x0) (st := []) (M2 := r4.2) (r1 := (some (.int r4.1))) (pc' := 52) O dX8_spoken_49 tw_1030 tw_58 tw_1029 tw_46 tw_1027 hyX8_below1000At rfl rfl eu3 (okX8_below1000At er4) (Nat.le_of_ble_eq_true rfl) ⟨Nat.le_of_ble_eq_true rfl, Nat.le_of_ble_eq_true rfl⟩ ⟨Nat.le_of_ble_eq_true rfl, Nat.le_of_ble_eq_true rfl⟩ rfl ?_
        show G κ mX8_spoken 0 0 52 [(0, .ref x0), (1, .int x1), (3, .int x3), (4, .int x4), (5, .int x5), (6, .int x6)] [.int r4.1] r4.2
        refine g_istore (lv' := [(7, .int r4.1), (0, .ref x0), (1, .int x1), (3, .int x3), (4, .int x4), (5, .int x5), (6, .int x6)]) (pc' := 54) O dX8_spoken_52 (by decide) rfl rfl ?_
        refine g_aload_n (pc' := 55) 1 O dX8_spoken_54 rfl rfl rfl ?_
        replace h := ob h; obtain ⟨v5, ev5, h⟩ := h
        refine g_getF (C := RX8) (T := TX8) (N := 29) (ci := 5) (k := 27) (pc' := 58) O dX8_spoken_55 rfl inX8 (by decide) tw_743 (gI_F ev5) rfl ?_
        refine g_iconst (v := 1) (pc' := 59) O dX8_spoken_58 (by decide) rfl ?_
        refine g_iadd (pc' := 60) O dX8_spoken_59 rfl ?_
        refine g_istore (lv' := [(8, .int (v5 + (1 : Int32))), (7, .int r4.1), (0, .ref x0), (1, .int x1), (3, .int x3), (4, .int x4), (5, .int x5), (6, .int x6)]) (pc' := 62) O dX8_spoken_60 (by decide) rfl rfl ?_
        refine g_iload (pc' := 64) 1 O dX8_spoken_62 rfl rfl ?_
        refine g_if_ne (tgt := 70) (pc' := 67) O dX8_spoken_64 (by decide) rfl (fun hc => ?_) (fun hc => ?_)
        · replace h := ine hc h
          refine g_iload (pc' := 72) 0 O dX8_spoken_70 rfl rfl ?_
          refine g_aload_n (pc' := 73) 2 O dX8_spoken_72 rfl rfl rfl ?_
          replace h := ob h; obtain ⟨v6, ev6, h⟩ := h
          refine g_getF (C := RX8) (T := TX8) (N := 29) (ci := 5) (k := 10) (pc' := 76) O dX8_spoken_73 rfl inX8 (by decide) tw_726 (gN_F ev6) rfl ?_
          refine g_iconst (v := 0) (pc' := 77) O dX8_spoken_76 (by decide) rfl ?_
          replace h := ob h; obtain ⟨v7, ev7, h⟩ := h
          refine g_iald (pc' := 78) O dX8_spoken_77 ev7 rfl ?_
          refine g_icmp_ge (tgt := 105) (pc' := 81) O dX8_spoken_78 (by decide) rfl (fun hc => ?_) (fun hc => ?_)
          · replace h := ip hc h
            refine g_sub (lv' := [(0, .ref x0), (3, .int x3), (4, .int x4), (5, .int x5), (6, .int x6), (7, .int r4.1), (8, .int (v5 + (1 : Int32)))]) [2, 4, 5, 6, 7, 1, 0] rfl ?_
            exact tX8_spoken_105 O hf ih h
          · replace h := ine hc h
            refine g_aload_n (pc' := 82) 2 O dX8_spoken_81 rfl rfl rfl ?_
            refine g_iload (pc' := 84) 0 O dX8_spoken_82 rfl rfl ?_
            refine g_ldc2 (v := 30796686857695086) (pc' := 87) O dX8_spoken_84 tw_1013 rfl ?_
            replace h := ob h; obtain ⟨u8, eu8, h⟩ := h
            replace h := ob h; obtain ⟨r9, er9, h⟩ := h
            refine g_callV (y := yX8_wordAt) (ν := mX8_wordAt) (n := 2) (As := [.int (v5 + (1 : Int32)), .long (30796686857695086 : Int64)]) (b := x0) (st := []) (M2 := r9.2) (r1 := (some (.int r9.1))) (pc' := 90) O dX8_spoken_87 tw_1038 tw_58 tw_1037 tw_48 tw_1035 hyX8_wordAt rfl rfl eu8 (okX8_wordAt er9) (Nat.le_of_ble_eq_true rfl) ⟨Nat.le_of_ble_eq_true rfl, Nat.le_of_ble_eq_true rfl⟩ ⟨Nat.le_of_ble_eq_true rfl, Nat.le_of_ble_eq_true rfl⟩ rfl ?_
            show G κ mX8_spoken 0 0 90 [(8, .int (v5 + (1 : Int32))), (7, .int r4.1), (0, .ref x0), (1, .int x1), (3, .int x3), (4, .int x4), (5, .int x5), (6, .int x6)] [.int r9.1] r9.2
            refine g_if_eq (tgt := 105) (pc' := 93) O dX8_spoken_90 (by decide) rfl (fun hc => ?_) (fun hc => ?_)
            · replace h := ip hc h
              refine g_sub (lv' := [(0, .ref x0), (3, .int x3), (4, .int x4), (5, .int x5), (6, .int x6), (7, .int r4.1), (8, .int (v5 + (1 : Int32)))]) [2, 4, 5, 6, 7, 1, 0] rfl ?_
              exact tX8_spoken_105 O hf ih h
            · replace h := ine hc h
              refine g_iload (pc' := 95) 1 O dX8_spoken_93 rfl rfl ?_
              refine g_istore_n (lv' := [(3, .int r4.1), (8, .int (v5 + (1 : Int32))), (7, .int r4.1), (0, .ref x0), (1, .int x1), (4, .int x4), (5, .int x5), (6, .int x6)]) (pc' := 96) O dX8_spoken_95 rfl (by decide) rfl rfl ?_
              refine g_iload (pc' := 98) 1 O dX8_spoken_96 rfl rfl ?_
              refine g_bipush (v := 8) (pc' := 100) O dX8_spoken_98 (by decide) rfl ?_
              refine g_iadd (pc' := 101) O dX8_spoken_100 rfl ?_
              refine g_istore_n (lv' := [(1, .int ((v5 + (1 : Int32)) + (8 : Int32))), (3, .int r4.1), (8, .int (v5 + (1 : Int32))), (7, .int r4.1), (0, .ref x0), (4, .int x4), (5, .int x5), (6, .int x6)]) (pc' := 102) O dX8_spoken_101 rfl (by decide) rfl rfl ?_
              refine g_goto (pc' := 152) O dX8_spoken_102 (by decide) ?_
              refine g_sub (lv' := [(0, .ref x0), (1, .int ((v5 + (1 : Int32)) + (8 : Int32))), (3, .int r4.1), (4, .int x4), (5, .int x5), (6, .int x6)]) [4, 0, 1, 5, 6, 7] rfl ?_
              exact tX8_spoken_152 O hf ih h
        · replace h := ip hc h
          refine g_goto (pc' := 158) O dX8_spoken_67 (by decide) ?_
          refine g_sub (lv' := [(0, .ref x0), (3, .int x3), (4, .int x4), (5, .int x5)]) [2, 4, 5, 6] rfl ?_
          exact tX8_spoken_158 O hf h
def fX8_spoken  (this : Nat) (M : Mem) : Option (Int32 × Mem) :=
  (pF M 5 this 0 (.int (0 : Int32))).bind fun M1 =>
  (gN M1 5 this 10).bind fun v2 =>
  (aI M1 v2 (0 : Int32)).bind fun v3 =>
  if v3 = 0 then (some ((-1 : Int32), M1))
  else (fX8_spoken_31 FU this (0 : Int32) (0 : Int32) (0 : Int32) (0 : Int32) (0 : Int32) M1)
set_option maxHeartbeats 4000000 in
set_option maxRecDepth 100000 in
theorem okX8_spoken {l : Launch} {p : Int32 × Mem} {this : Nat} {M : Mem} (h : fX8_spoken this M = some p) : Cn l yX8_spoken mX8_spoken [.ref this] M (some (.int p.1)) p.2 := by
  refine Cn.of [(0, .ref this)] (by decide) rfl rfl (Nat.le_of_ble_eq_true rfl) rfl (fun κ _ hf O => ?_)
  unfold fX8_spoken at h
  refine g_aload_n (pc' := 1) 0 O dX8_spoken_0 rfl rfl rfl ?_
  refine g_iconst (v := 0) (pc' := 2) O dX8_spoken_1 (by decide) rfl ?_
  replace h := ob h; obtain ⟨M1, eM1, h⟩ := h
  refine g_putF (C := RX8) (T := TX8) (N := 29) (ci := 5) (k := 0) (pc' := 5) O dX8_spoken_2 rfl inX8 (by decide) tw_716 tyX8 tyX8_ok nmX8 rfl rfl rfl rfl eM1 rfl ?_
  refine g_aload_n (pc' := 6) 0 O dX8_spoken_5 rfl rfl rfl ?_
  replace h := ob h; obtain ⟨v2, ev2, h⟩ := h
  refine g_getF (C := RX8) (T := TX8) (N := 29) (ci := 5) (k := 10) (pc' := 9) O dX8_spoken_6 rfl inX8 (by decide) tw_726 (gN_F ev2) rfl ?_
  refine g_iconst (v := 0) (pc' := 10) O dX8_spoken_9 (by decide) rfl ?_
  replace h := ob h; obtain ⟨v3, ev3, h⟩ := h
  refine g_iald (pc' := 11) O dX8_spoken_10 ev3 rfl ?_
  refine g_if_ne (tgt := 16) (pc' := 14) O dX8_spoken_11 (by decide) rfl (fun hc => ?_) (fun hc => ?_)
  · replace h := ine hc h
    refine g_iconst (v := 0) (pc' := 17) O dX8_spoken_16 (by decide) rfl ?_
    refine g_istore_n (lv' := [(1, .int (0 : Int32)), (0, .ref this)]) (pc' := 18) O dX8_spoken_17 rfl (by decide) rfl rfl ?_
    refine g_iconst (v := 0) (pc' := 19) O dX8_spoken_18 (by decide) rfl ?_
    refine g_istore_n (lv' := [(2, .int (0 : Int32)), (1, .int (0 : Int32)), (0, .ref this)]) (pc' := 20) O dX8_spoken_19 rfl (by decide) rfl rfl ?_
    refine g_iconst (v := 0) (pc' := 21) O dX8_spoken_20 (by decide) rfl ?_
    refine g_istore_n (lv' := [(3, .int (0 : Int32)), (2, .int (0 : Int32)), (1, .int (0 : Int32)), (0, .ref this)]) (pc' := 22) O dX8_spoken_21 rfl (by decide) rfl rfl ?_
    refine g_iconst (v := 0) (pc' := 23) O dX8_spoken_22 (by decide) rfl ?_
    refine g_istore (lv' := [(4, .int (0 : Int32)), (3, .int (0 : Int32)), (2, .int (0 : Int32)), (1, .int (0 : Int32)), (0, .ref this)]) (pc' := 25) O dX8_spoken_23 (by decide) rfl rfl ?_
    refine g_iconst (v := 0) (pc' := 26) O dX8_spoken_25 (by decide) rfl ?_
    refine g_istore (lv' := [(5, .int (0 : Int32)), (4, .int (0 : Int32)), (3, .int (0 : Int32)), (2, .int (0 : Int32)), (1, .int (0 : Int32)), (0, .ref this)]) (pc' := 28) O dX8_spoken_26 (by decide) rfl rfl ?_
    refine g_iconst (v := 0) (pc' := 29) O dX8_spoken_28 (by decide) rfl ?_
    refine g_istore (lv' := [(6, .int (0 : Int32)), (5, .int (0 : Int32)), (4, .int (0 : Int32)), (3, .int (0 : Int32)), (2, .int (0 : Int32)), (1, .int (0 : Int32)), (0, .ref this)]) (pc' := 31) O dX8_spoken_29 (by decide) rfl rfl ?_
    refine g_sub (lv' := [(0, .ref this), (1, .int (0 : Int32)), (3, .int (0 : Int32)), (4, .int (0 : Int32)), (5, .int (0 : Int32)), (6, .int (0 : Int32))]) [6, 5, 3, 2, 1, 0] rfl ?_
    exact tX8_spoken_31 O hf FU this (0 : Int32) (0 : Int32) (0 : Int32) (0 : Int32) (0 : Int32) M1 h
  · replace h := ip hc h
    refine g_iconst (v := -1) (pc' := 15) O dX8_spoken_14 (by decide) rfl ?_
    cases h
    exact g_ireturn O dX8_spoken_15 rfl rfl hf (by decide) (by decide)
abbrev mX8_other : MD := (cX8_other, 8, RX8, (some .long), { frames := 5, cells := 0, slots := 0, locals := 132 }, "other")
theorem hyX8_other : yX8_other.cls ≠ "java/lang/invoke/MethodHandle" ∧ yX8_other.cls ≠ "java/lang/invoke/VarHandle" ∧ (parseMethodDescriptor yX8_other.desc).map (fun d => d.parameters.length) = some 5 := by decide +kernel
def fX8_other_94  (s0 : Int64) (M : Mem) : Option (Int64 × Mem) :=
  some (s0, M)
set_option maxHeartbeats 4000000 in
set_option maxRecDepth 100000 in
theorem tX8_other_94 {κ : KT} {p : Int64 × Mem} (O : OkK κ mX8_other) (hf : κ.2.2.2.2.2.2.2.2.2.2.2.2.2 = (some (.long p.1), p.2))  {s0 : Int64} {M : Mem} (h : fX8_other_94  s0 M = some p) : G κ mX8_other 0 0 94 [] [.long s0] M := by
  unfold fX8_other_94 at h
  cases h
  exact g_lreturn O dX8_other_94 rfl hf (by decide) (by decide)
def fX8_other_41  : Nat → Nat → Int32 → Int32 → Int32 → Mem → Option (Int64 × Mem)
  | 0, _, _, _, _, _ => none
  | n + 1, x0, x2, x3, x7, M =>
    (gI M 5 x0 26).bind fun v1 =>
    if v1 ≤ x7 then ((gI M 5 x0 20).bind fun v2 =>
    (ck M 5 x0).bind fun u3 =>
    (fX8_held x0 x2 x3 v2 M).bind fun r4 =>
    if r4.1 = (2 : Int32) then ((gL r4.2 5 x0 24).bind fun v5 =>
    fX8_other_94 v5 r4.2)
    else (fX8_other_94 (-9223372036854775808 : Int64) r4.2))
    else ((gN M 5 x0 19).bind fun v6 =>
    (gN M 5 x0 25).bind fun v7 =>
    (aI M v7 x7).bind fun v8 =>
    (sI M v6 x7 v8).bind fun M9 =>
    fX8_other_41 n x0 x2 x3 (x7 + (1 : Int32)) M9)
set_option maxHeartbeats 4000000 in
set_option maxRecDepth 100000 in
theorem tX8_other_41 {κ : KT} {p : Int64 × Mem} (O : OkK κ mX8_other) (hf : κ.2.2.2.2.2.2.2.2.2.2.2.2.2 = (some (.long p.1), p.2))  : ∀ (n : Nat) (x0 : Nat) (x2 : Int32) (x3 : Int32) (x7 : Int32) (M : Mem), fX8_other_41  n x0 x2 x3 x7 M = some p → G κ mX8_other 0 0 41 [(0, .ref x0), (2, .int x2), (3, .int x3), (7, .int x7)] [] M := by
  intro n
  induction n with
  | zero => intro x0 x2 x3 x7 M h; cases h
  | succ n ih =>
    intro x0 x2 x3 x7 M h
    rw [fX8_other_41] at h
    refine g_iload (pc' := 43) 3 O dX8_other_41 rfl rfl ?_
    refine g_aload_n (pc' := 44) 0 O dX8_other_43 rfl rfl rfl ?_
    replace h := ob h; obtain ⟨v1, ev1, h⟩ := h
    refine g_getF (C := RX8) (T := TX8) (N := 29) (ci := 5) (k := 26) (pc' := 47) O dX8_other_44 rfl inX8 (by decide) tw_742 (gI_F ev1) rfl ?_
    refine g_icmp_ge (tgt := 70) (pc' := 50) O dX8_other_47 (by decide) rfl (fun hc => ?_) (fun hc => ?_)
    · replace h := ip hc h
      refine g_aload_n (pc' := 71) 0 O dX8_other_70 rfl rfl rfl ?_
      refine g_iload_n (pc' := 72) 1 O dX8_other_71 rfl rfl rfl ?_
      refine g_iload_n (pc' := 73) 2 O dX8_other_72 rfl rfl rfl ?_
      refine g_aload_n (pc' := 74) 0 O dX8_other_73 rfl rfl rfl ?_
      replace h := ob h; obtain ⟨v2, ev2, h⟩ := h
      refine g_getF (C := RX8) (T := TX8) (N := 29) (ci := 5) (k := 20) (pc' := 77) O dX8_other_74 rfl inX8 (by decide) tw_736 (gI_F ev2) rfl ?_
      replace h := ob h; obtain ⟨u3, eu3, h⟩ := h
      replace h := ob h; obtain ⟨r4, er4, h⟩ := h
      refine g_callV (y := yX8_held) (ν := mX8_held) (n := 3) (As := [.int x2, .int x3, .int v2]) (b := x0) (st := []) (M2 := r4.2) (r1 := (some (.int r4.1))) (pc' := 80) O dX8_other_77 tw_847 tw_58 tw_846 tw_22 tw_844 hyX8_held rfl rfl eu3 (okX8_held er4) (Nat.le_of_ble_eq_true rfl) ⟨Nat.le_of_ble_eq_true rfl, Nat.le_of_ble_eq_true rfl⟩ ⟨Nat.le_of_ble_eq_true rfl, Nat.le_of_ble_eq_true rfl⟩ rfl ?_
      show G κ mX8_other 0 0 80 [(0, .ref x0), (2, .int x2), (3, .int x3), (7, .int x7)] [.int r4.1] r4.2
      refine g_iconst (v := 2) (pc' := 81) O dX8_other_80 (by decide) rfl ?_
      refine g_icmp_ne (tgt := 91) (pc' := 84) O dX8_other_81 (by decide) rfl (fun hc => ?_) (fun hc => ?_)
      · replace h := ine hc h
        refine g_ldc2 (v := -9223372036854775808) (pc' := 94) O dX8_other_91 tw_714 rfl ?_
        refine g_sub (lv' := []) [] rfl ?_
        exact tX8_other_94 O hf h
      · replace h := ip hc h
        refine g_aload_n (pc' := 85) 0 O dX8_other_84 rfl rfl rfl ?_
        replace h := ob h; obtain ⟨v5, ev5, h⟩ := h
        refine g_getF (C := RX8) (T := TX8) (N := 29) (ci := 5) (k := 24) (pc' := 88) O dX8_other_85 rfl inX8 (by decide) tw_740 (gL_F ev5) rfl ?_
        refine g_goto (pc' := 94) O dX8_other_88 (by decide) ?_
        refine g_sub (lv' := []) [] rfl ?_
        exact tX8_other_94 O hf h
    · replace h := ine hc h
      refine g_aload_n (pc' := 51) 0 O dX8_other_50 rfl rfl rfl ?_
      replace h := ob h; obtain ⟨v6, ev6, h⟩ := h
      refine g_getF (C := RX8) (T := TX8) (N := 29) (ci := 5) (k := 19) (pc' := 54) O dX8_other_51 rfl inX8 (by decide) tw_735 (gN_F ev6) rfl ?_
      refine g_iload (pc' := 56) 3 O dX8_other_54 rfl rfl ?_
      refine g_aload_n (pc' := 57) 0 O dX8_other_56 rfl rfl rfl ?_
      replace h := ob h; obtain ⟨v7, ev7, h⟩ := h
      refine g_getF (C := RX8) (T := TX8) (N := 29) (ci := 5) (k := 25) (pc' := 60) O dX8_other_57 rfl inX8 (by decide) tw_741 (gN_F ev7) rfl ?_
      refine g_iload (pc' := 62) 3 O dX8_other_60 rfl rfl ?_
      replace h := ob h; obtain ⟨v8, ev8, h⟩ := h
      refine g_iald (pc' := 63) O dX8_other_62 ev8 rfl ?_
      replace h := ob h; obtain ⟨M9, eM9, h⟩ := h
      refine g_iast (pc' := 64) O dX8_other_63 eM9 rfl ?_
      refine g_iinc (q := 3) (v := x7 + (1 : Int32)) (lv' := [(7, .int (x7 + (1 : Int32))), (0, .ref x0), (2, .int x2), (3, .int x3)]) (pc' := 67) O dX8_other_64 rfl rfl (by decide) rfl rfl ?_
      refine g_goto (pc' := 41) O dX8_other_67 (by decide) ?_
      refine g_sub (lv' := [(0, .ref x0), (2, .int x2), (3, .int x3), (7, .int (x7 + (1 : Int32)))]) [1, 2, 3, 0] rfl ?_
      exact ih x0 x2 x3 (x7 + (1 : Int32)) M9 h
def fX8_other_26  (M : Mem) : Option (Int64 × Mem) :=
  some ((-9223372036854775808 : Int64), M)
set_option maxHeartbeats 4000000 in
set_option maxRecDepth 100000 in
theorem tX8_other_26 {κ : KT} {p : Int64 × Mem} (O : OkK κ mX8_other) (hf : κ.2.2.2.2.2.2.2.2.2.2.2.2.2 = (some (.long p.1), p.2))  {M : Mem} (h : fX8_other_26  M = some p) : G κ mX8_other 0 0 26 [] [] M := by
  unfold fX8_other_26 at h
  refine g_ldc2 (v := -9223372036854775808) (pc' := 29) O dX8_other_26 tw_714 rfl ?_
  cases h
  exact g_lreturn O dX8_other_29 rfl hf (by decide) (by decide)
def fX8_other  (this : Nat) (p0 : Int32) (p1 : Int32) (p2 : Int32) (p3 : Int64) (p4 : Int32) (M : Mem) : Option (Int64 × Mem) :=
  (pF M 5 this 0 (.int (0 : Int32))).bind fun M1 =>
  (ck M1 5 this).bind fun u2 =>
  (fX8_isLand this p1 M1).bind fun r3 =>
  if r3.1 = 0 then (fX8_other_26 r3.2)
  else ((ck r3.2 5 this).bind fun u4 =>
  (fX8_make this p0 p2 p3 p4 r3.2).bind fun r5 =>
  if r5.1 = 0 then (fX8_other_26 r5.2)
  else ((gI r5.2 5 this 26).bind fun v6 =>
  (pF r5.2 5 this 20 (.int v6)).bind fun M7 =>
  fX8_other_41 FU this p1 p2 (0 : Int32) M7))
set_option maxHeartbeats 4000000 in
set_option maxRecDepth 100000 in
theorem okX8_other {l : Launch} {p : Int64 × Mem} {this : Nat} {p0 : Int32} {p1 : Int32} {p2 : Int32} {p3 : Int64} {p4 : Int32} {M : Mem} (h : fX8_other this p0 p1 p2 p3 p4 M = some p) : Cn l yX8_other mX8_other [.ref this, .int p0, .int p1, .int p2, .long p3, .int p4] M (some (.long p.1)) p.2 := by
  refine Cn.of [(0, .ref this), (1, .int p0), (2, .int p1), (3, .int p2), (4, .long p3), (6, .int p4)] (by decide) rfl rfl (Nat.le_of_ble_eq_true rfl) rfl (fun κ _ hf O => ?_)
  unfold fX8_other at h
  refine g_aload_n (pc' := 1) 0 O dX8_other_0 rfl rfl rfl ?_
  refine g_iconst (v := 0) (pc' := 2) O dX8_other_1 (by decide) rfl ?_
  replace h := ob h; obtain ⟨M1, eM1, h⟩ := h
  refine g_putF (C := RX8) (T := TX8) (N := 29) (ci := 5) (k := 0) (pc' := 5) O dX8_other_2 rfl inX8 (by decide) tw_716 tyX8 tyX8_ok nmX8 rfl rfl rfl rfl eM1 rfl ?_
  refine g_aload_n (pc' := 6) 0 O dX8_other_5 rfl rfl rfl ?_
  refine g_iload_n (pc' := 7) 2 O dX8_other_6 rfl rfl rfl ?_
  replace h := ob h; obtain ⟨u2, eu2, h⟩ := h
  replace h := ob h; obtain ⟨r3, er3, h⟩ := h
  refine g_callV (y := yX8_isLand) (ν := mX8_isLand) (n := 1) (As := [.int p1]) (b := this) (st := []) (M2 := r3.2) (r1 := (some (.int r3.1))) (pc' := 10) O dX8_other_7 tw_835 tw_58 tw_834 tw_19 tw_832 hyX8_isLand rfl rfl eu2 (okX8_isLand er3) (Nat.le_of_ble_eq_true rfl) ⟨Nat.le_of_ble_eq_true rfl, Nat.le_of_ble_eq_true rfl⟩ ⟨Nat.le_of_ble_eq_true rfl, Nat.le_of_ble_eq_true rfl⟩ rfl ?_
  show G κ mX8_other 0 0 10 [(0, .ref this), (1, .int p0), (2, .int p1), (3, .int p2), (4, .long p3), (6, .int p4)] [.int r3.1] r3.2
  refine g_if_eq (tgt := 26) (pc' := 13) O dX8_other_10 (by decide) rfl (fun hc => ?_) (fun hc => ?_)
  · replace h := ip hc h
    refine g_sub (lv' := []) [] rfl ?_
    exact tX8_other_26 O hf h
  · replace h := ine hc h
    refine g_aload_n (pc' := 14) 0 O dX8_other_13 rfl rfl rfl ?_
    refine g_iload_n (pc' := 15) 1 O dX8_other_14 rfl rfl rfl ?_
    refine g_iload_n (pc' := 16) 3 O dX8_other_15 rfl rfl rfl ?_
    refine g_lload (pc' := 18) 4 O dX8_other_16 rfl rfl ?_
    refine g_iload (pc' := 20) 5 O dX8_other_18 rfl rfl ?_
    replace h := ob h; obtain ⟨u4, eu4, h⟩ := h
    replace h := ob h; obtain ⟨r5, er5, h⟩ := h
    refine g_callV (y := yX8_make) (ν := mX8_make) (n := 4) (As := [.int p0, .int p2, .long p3, .int p4]) (b := this) (st := []) (M2 := r5.2) (r1 := (some (.int r5.1))) (pc' := 23) O dX8_other_20 tw_926 tw_58 tw_925 tw_34 tw_923 hyX8_make rfl rfl eu4 (okX8_make er5) (Nat.le_of_ble_eq_true rfl) ⟨Nat.le_of_ble_eq_true rfl, Nat.le_of_ble_eq_true rfl⟩ ⟨Nat.le_of_ble_eq_true rfl, Nat.le_of_ble_eq_true rfl⟩ rfl ?_
    show G κ mX8_other 0 0 23 [(0, .ref this), (1, .int p0), (2, .int p1), (3, .int p2), (4, .long p3), (6, .int p4)] [.int r5.1] r5.2
    refine g_if_ne (tgt := 30) (pc' := 26) O dX8_other_23 (by decide) rfl (fun hc => ?_) (fun hc => ?_)
    · replace h := ine hc h
      refine g_aload_n (pc' := 31) 0 O dX8_other_30 rfl rfl rfl ?_
      refine g_aload_n (pc' := 32) 0 O dX8_other_31 rfl rfl rfl ?_
      replace h := ob h; obtain ⟨v6, ev6, h⟩ := h
      refine g_getF (C := RX8) (T := TX8) (N := 29) (ci := 5) (k := 26) (pc' := 35) O dX8_other_32 rfl inX8 (by decide) tw_742 (gI_F ev6) rfl ?_
      replace h := ob h; obtain ⟨M7, eM7, h⟩ := h
      refine g_putF (C := RX8) (T := TX8) (N := 29) (ci := 5) (k := 20) (pc' := 38) O dX8_other_35 rfl inX8 (by decide) tw_736 tyX8 tyX8_ok nmX8 rfl rfl rfl rfl eM7 rfl ?_
      refine g_iconst (v := 0) (pc' := 39) O dX8_other_38 (by decide) rfl ?_
      refine g_istore (lv' := [(7, .int (0 : Int32)), (0, .ref this), (1, .int p0), (2, .int p1), (3, .int p2), (4, .long p3), (6, .int p4)]) (pc' := 41) O dX8_other_39 (by decide) rfl rfl ?_
      refine g_sub (lv' := [(0, .ref this), (2, .int p1), (3, .int p2), (7, .int (0 : Int32))]) [1, 3, 4, 0] rfl ?_
      exact tX8_other_41 O hf FU this p1 p2 (0 : Int32) M7 h
    · replace h := ip hc h
      refine g_sub (lv' := []) [] rfl ?_
      exact tX8_other_26 O hf h
abbrev mX8_row : MD := (cX8_row, 3, RX8, (some .int), { frames := 0, cells := 0, slots := 0, locals := 0 }, "row")
theorem hyX8_row : yX8_row.cls ≠ "java/lang/invoke/MethodHandle" ∧ yX8_row.cls ≠ "java/lang/invoke/VarHandle" ∧ (parseMethodDescriptor yX8_row.desc).map (fun d => d.parameters.length) = some 0 := by decide +kernel
def fX8_row_49  : Nat → Nat → Int32 → Int32 → Mem → Option (Int32 × Mem)
  | 0, _, _, _, _ => none
  | n + 1, x0, x1, x2, M =>
    (gN M 5 x0 10).bind fun v1 =>
    (aI M v1 (0 : Int32)).bind fun v2 =>
    if v2 ≤ x2 then ((gN M 5 x0 10).bind fun v3 =>
    (sI M v3 (0 : Int32) (0 : Int32)).bind fun M4 =>
    some (x1, M4))
    else ((gN M 5 x0 16).bind fun v5 =>
    (gN M 5 x0 11).bind fun v6 =>
    (aI M v6 x2).bind fun v7 =>
    (sB M v5 (((60 : Int32) * x1) + x2) (v7.toInt8.toInt32)).bind fun M8 =>
    fX8_row_49 n x0 x1 (x2 + (1 : Int32)) M8)
set_option maxHeartbeats 4000000 in
set_option maxRecDepth 100000 in
theorem tX8_row_49 {κ : KT} {p : Int32 × Mem} (O : OkK κ mX8_row) (hf : κ.2.2.2.2.2.2.2.2.2.2.2.2.2 = (some (.int p.1), p.2))  : ∀ (n : Nat) (x0 : Nat) (x1 : Int32) (x2 : Int32) (M : Mem), fX8_row_49  n x0 x1 x2 M = some p → G κ mX8_row 0 0 49 [(0, .ref x0), (1, .int x1), (2, .int x2)] [] M := by
  intro n
  induction n with
  | zero => intro x0 x1 x2 M h; cases h
  | succ n ih =>
    intro x0 x1 x2 M h
    rw [fX8_row_49] at h
    refine g_iload_n (pc' := 50) 2 O dX8_row_49 rfl rfl rfl ?_
    refine g_aload_n (pc' := 51) 0 O dX8_row_50 rfl rfl rfl ?_
    replace h := ob h; obtain ⟨v1, ev1, h⟩ := h
    refine g_getF (C := RX8) (T := TX8) (N := 29) (ci := 5) (k := 10) (pc' := 54) O dX8_row_51 rfl inX8 (by decide) tw_726 (gN_F ev1) rfl ?_
    refine g_iconst (v := 0) (pc' := 55) O dX8_row_54 (by decide) rfl ?_
    replace h := ob h; obtain ⟨v2, ev2, h⟩ := h
    refine g_iald (pc' := 56) O dX8_row_55 ev2 rfl ?_
    refine g_icmp_ge (tgt := 83) (pc' := 59) O dX8_row_56 (by decide) rfl (fun hc => ?_) (fun hc => ?_)
    · replace h := ip hc h
      refine g_aload_n (pc' := 84) 0 O dX8_row_83 rfl rfl rfl ?_
      replace h := ob h; obtain ⟨v3, ev3, h⟩ := h
      refine g_getF (C := RX8) (T := TX8) (N := 29) (ci := 5) (k := 10) (pc' := 87) O dX8_row_84 rfl inX8 (by decide) tw_726 (gN_F ev3) rfl ?_
      refine g_iconst (v := 0) (pc' := 88) O dX8_row_87 (by decide) rfl ?_
      refine g_iconst (v := 0) (pc' := 89) O dX8_row_88 (by decide) rfl ?_
      replace h := ob h; obtain ⟨M4, eM4, h⟩ := h
      refine g_iast (pc' := 90) O dX8_row_89 eM4 rfl ?_
      refine g_iload_n (pc' := 91) 1 O dX8_row_90 rfl rfl rfl ?_
      cases h
      exact g_ireturn O dX8_row_91 rfl rfl hf (by decide) (by decide)
    · replace h := ine hc h
      refine g_aload_n (pc' := 60) 0 O dX8_row_59 rfl rfl rfl ?_
      replace h := ob h; obtain ⟨v5, ev5, h⟩ := h
      refine g_getF (C := RX8) (T := TX8) (N := 29) (ci := 5) (k := 16) (pc' := 63) O dX8_row_60 rfl inX8 (by decide) tw_732 (gN_F ev5) rfl ?_
      refine g_bipush (v := 60) (pc' := 65) O dX8_row_63 (by decide) rfl ?_
      refine g_iload_n (pc' := 66) 1 O dX8_row_65 rfl rfl rfl ?_
      refine g_imul (pc' := 67) O dX8_row_66 rfl ?_
      refine g_iload_n (pc' := 68) 2 O dX8_row_67 rfl rfl rfl ?_
      refine g_iadd (pc' := 69) O dX8_row_68 rfl ?_
      refine g_aload_n (pc' := 70) 0 O dX8_row_69 rfl rfl rfl ?_
      replace h := ob h; obtain ⟨v6, ev6, h⟩ := h
      refine g_getF (C := RX8) (T := TX8) (N := 29) (ci := 5) (k := 11) (pc' := 73) O dX8_row_70 rfl inX8 (by decide) tw_727 (gN_F ev6) rfl ?_
      refine g_iload_n (pc' := 74) 2 O dX8_row_73 rfl rfl rfl ?_
      replace h := ob h; obtain ⟨v7, ev7, h⟩ := h
      refine g_iald (pc' := 75) O dX8_row_74 ev7 rfl ?_
      refine g_i2b (pc' := 76) O dX8_row_75 rfl ?_
      replace h := ob h; obtain ⟨M8, eM8, h⟩ := h
      refine g_bast (pc' := 77) O dX8_row_76 eM8 rfl ?_
      refine g_iinc (q := 2) (v := x2 + (1 : Int32)) (lv' := [(2, .int (x2 + (1 : Int32))), (0, .ref x0), (1, .int x1)]) (pc' := 80) O dX8_row_77 rfl rfl (by decide) rfl rfl ?_
      refine g_goto (pc' := 49) O dX8_row_80 (by decide) ?_
      refine g_sub (lv' := [(0, .ref x0), (1, .int x1), (2, .int (x2 + (1 : Int32)))]) [1, 2, 0] rfl ?_
      exact ih x0 x1 (x2 + (1 : Int32)) M8 h
def fX8_row  (this : Nat) (M : Mem) : Option (Int32 × Mem) :=
  (pF M 5 this 0 (.int (0 : Int32))).bind fun M1 =>
  (gN M1 5 this 14).bind fun v2 =>
  (aI M1 v2 (0 : Int32)).bind fun v3 =>
  if v3 = (30 : Int32) then (some ((-1 : Int32), M1))
  else ((gN M1 5 this 14).bind fun v4 =>
  (aI M1 v4 (0 : Int32)).bind fun v5 =>
  (gN M1 5 this 14).bind fun v6 =>
  (aI M1 v6 (0 : Int32)).bind fun v7 =>
  (sI M1 v6 (0 : Int32) (v7 + (1 : Int32))).bind fun M8 =>
  (gN M8 5 this 15).bind fun v9 =>
  (gN M8 5 this 10).bind fun v10 =>
  (aI M8 v10 (0 : Int32)).bind fun v11 =>
  (sI M8 v9 v5 v11).bind fun M12 =>
  fX8_row_49 FU this v5 (0 : Int32) M12)
set_option maxHeartbeats 4000000 in
set_option maxRecDepth 100000 in
theorem okX8_row {l : Launch} {p : Int32 × Mem} {this : Nat} {M : Mem} (h : fX8_row this M = some p) : Cn l yX8_row mX8_row [.ref this] M (some (.int p.1)) p.2 := by
  refine Cn.of [(0, .ref this)] (by decide) rfl rfl (Nat.le_of_ble_eq_true rfl) rfl (fun κ _ hf O => ?_)
  unfold fX8_row at h
  refine g_aload_n (pc' := 1) 0 O dX8_row_0 rfl rfl rfl ?_
  refine g_iconst (v := 0) (pc' := 2) O dX8_row_1 (by decide) rfl ?_
  replace h := ob h; obtain ⟨M1, eM1, h⟩ := h
  refine g_putF (C := RX8) (T := TX8) (N := 29) (ci := 5) (k := 0) (pc' := 5) O dX8_row_2 rfl inX8 (by decide) tw_716 tyX8 tyX8_ok nmX8 rfl rfl rfl rfl eM1 rfl ?_
  refine g_aload_n (pc' := 6) 0 O dX8_row_5 rfl rfl rfl ?_
  replace h := ob h; obtain ⟨v2, ev2, h⟩ := h
  refine g_getF (C := RX8) (T := TX8) (N := 29) (ci := 5) (k := 14) (pc' := 9) O dX8_row_6 rfl inX8 (by decide) tw_730 (gN_F ev2) rfl ?_
  refine g_iconst (v := 0) (pc' := 10) O dX8_row_9 (by decide) rfl ?_
  replace h := ob h; obtain ⟨v3, ev3, h⟩ := h
  refine g_iald (pc' := 11) O dX8_row_10 ev3 rfl ?_
  refine g_bipush (v := 30) (pc' := 13) O dX8_row_11 (by decide) rfl ?_
  refine g_icmp_ne (tgt := 18) (pc' := 16) O dX8_row_13 (by decide) rfl (fun hc => ?_) (fun hc => ?_)
  · replace h := ine hc h
    refine g_aload_n (pc' := 19) 0 O dX8_row_18 rfl rfl rfl ?_
    replace h := ob h; obtain ⟨v4, ev4, h⟩ := h
    refine g_getF (C := RX8) (T := TX8) (N := 29) (ci := 5) (k := 14) (pc' := 22) O dX8_row_19 rfl inX8 (by decide) tw_730 (gN_F ev4) rfl ?_
    refine g_iconst (v := 0) (pc' := 23) O dX8_row_22 (by decide) rfl ?_
    replace h := ob h; obtain ⟨v5, ev5, h⟩ := h
    refine g_iald (pc' := 24) O dX8_row_23 ev5 rfl ?_
    refine g_istore_n (lv' := [(1, .int v5), (0, .ref this)]) (pc' := 25) O dX8_row_24 rfl (by decide) rfl rfl ?_
    refine g_aload_n (pc' := 26) 1 O dX8_row_25 rfl rfl rfl ?_
    replace h := ob h; obtain ⟨v6, ev6, h⟩ := h
    refine g_getF (C := RX8) (T := TX8) (N := 29) (ci := 5) (k := 14) (pc' := 29) O dX8_row_26 rfl inX8 (by decide) tw_730 (gN_F ev6) rfl ?_
    refine g_iconst (v := 0) (pc' := 30) O dX8_row_29 (by decide) rfl ?_
    refine g_dup2 (pc' := 31) O dX8_row_30 rfl rfl rfl ?_
    replace h := ob h; obtain ⟨v7, ev7, h⟩ := h
    refine g_iald (pc' := 32) O dX8_row_31 ev7 rfl ?_
    refine g_iconst (v := 1) (pc' := 33) O dX8_row_32 (by decide) rfl ?_
    refine g_iadd (pc' := 34) O dX8_row_33 rfl ?_
    replace h := ob h; obtain ⟨M8, eM8, h⟩ := h
    refine g_iast (pc' := 35) O dX8_row_34 eM8 rfl ?_
    refine g_aload_n (pc' := 36) 1 O dX8_row_35 rfl rfl rfl ?_
    replace h := ob h; obtain ⟨v9, ev9, h⟩ := h
    refine g_getF (C := RX8) (T := TX8) (N := 29) (ci := 5) (k := 15) (pc' := 39) O dX8_row_36 rfl inX8 (by decide) tw_731 (gN_F ev9) rfl ?_
    refine g_iload_n (pc' := 40) 0 O dX8_row_39 rfl rfl rfl ?_
    refine g_aload_n (pc' := 41) 1 O dX8_row_40 rfl rfl rfl ?_
    replace h := ob h; obtain ⟨v10, ev10, h⟩ := h
    refine g_getF (C := RX8) (T := TX8) (N := 29) (ci := 5) (k := 10) (pc' := 44) O dX8_row_41 rfl inX8 (by decide) tw_726 (gN_F ev10) rfl ?_
    refine g_iconst (v := 0) (pc' := 45) O dX8_row_44 (by decide) rfl ?_
    replace h := ob h; obtain ⟨v11, ev11, h⟩ := h
    refine g_iald (pc' := 46) O dX8_row_45 ev11 rfl ?_
    replace h := ob h; obtain ⟨M12, eM12, h⟩ := h
    refine g_iast (pc' := 47) O dX8_row_46 eM12 rfl ?_
    refine g_iconst (v := 0) (pc' := 48) O dX8_row_47 (by decide) rfl ?_
    refine g_istore_n (lv' := [(2, .int (0 : Int32)), (1, .int v5), (0, .ref this)]) (pc' := 49) O dX8_row_48 rfl (by decide) rfl rfl ?_
    refine g_sub (lv' := [(0, .ref this), (1, .int v5), (2, .int (0 : Int32))]) [2, 1, 0] rfl ?_
    exact tX8_row_49 O hf FU this v5 (0 : Int32) M12 h
  · replace h := ip hc h
    refine g_iconst (v := -1) (pc' := 17) O dX8_row_16 (by decide) rfl ?_
    cases h
    exact g_ireturn O dX8_row_17 rfl rfl hf (by decide) (by decide)
abbrev mX8_clear : MD := (cX8_clear, 1, RX8, none, { frames := 0, cells := 0, slots := 0, locals := 0 }, "clear")
theorem hyX8_clear : yX8_clear.cls ≠ "java/lang/invoke/MethodHandle" ∧ yX8_clear.cls ≠ "java/lang/invoke/VarHandle" ∧ (parseMethodDescriptor yX8_clear.desc).map (fun d => d.parameters.length) = some 0 := by decide +kernel
def fX8_clear  (this : Nat) (M : Mem) : Option (Mem) :=
  (pF M 5 this 0 (.int (0 : Int32))).bind fun M1 =>
  (gN M1 5 this 14).bind fun v2 =>
  (sI M1 v2 (0 : Int32) (0 : Int32)).bind fun M3 =>
  some M3
set_option maxHeartbeats 4000000 in
set_option maxRecDepth 100000 in
theorem okX8_clear {l : Launch} {p : Mem} {this : Nat} {M : Mem} (h : fX8_clear this M = some p) : Cn l yX8_clear mX8_clear [.ref this] M none p := by
  refine Cn.of [(0, .ref this)] (by decide) rfl rfl (Nat.le_of_ble_eq_true rfl) rfl (fun κ _ hf O => ?_)
  unfold fX8_clear at h
  refine g_aload_n (pc' := 1) 0 O dX8_clear_0 rfl rfl rfl ?_
  refine g_iconst (v := 0) (pc' := 2) O dX8_clear_1 (by decide) rfl ?_
  replace h := ob h; obtain ⟨M1, eM1, h⟩ := h
  refine g_putF (C := RX8) (T := TX8) (N := 29) (ci := 5) (k := 0) (pc' := 5) O dX8_clear_2 rfl inX8 (by decide) tw_716 tyX8 tyX8_ok nmX8 rfl rfl rfl rfl eM1 rfl ?_
  refine g_aload_n (pc' := 6) 0 O dX8_clear_5 rfl rfl rfl ?_
  replace h := ob h; obtain ⟨v2, ev2, h⟩ := h
  refine g_getF (C := RX8) (T := TX8) (N := 29) (ci := 5) (k := 14) (pc' := 9) O dX8_clear_6 rfl inX8 (by decide) tw_730 (gN_F ev2) rfl ?_
  refine g_iconst (v := 0) (pc' := 10) O dX8_clear_9 (by decide) rfl ?_
  refine g_iconst (v := 0) (pc' := 11) O dX8_clear_10 (by decide) rfl ?_
  replace h := ob h; obtain ⟨M3, eM3, h⟩ := h
  refine g_iast (pc' := 12) O dX8_clear_11 eM3 rfl ?_
  cases h
  exact g_vreturn O dX8_clear_12 rfl hf (by decide) (by decide)
abbrev mX8_firstMisfit : MD := (cX8_firstMisfit, 4, RX8, (some .int), { frames := 6, cells := 0, slots := 0, locals := 154 }, "firstMisfit")
theorem hyX8_firstMisfit : yX8_firstMisfit.cls ≠ "java/lang/invoke/MethodHandle" ∧ yX8_firstMisfit.cls ≠ "java/lang/invoke/VarHandle" ∧ (parseMethodDescriptor yX8_firstMisfit.desc).map (fun d => d.parameters.length) = some 2 := by decide +kernel
def fX8_firstMisfit_2  : Nat → Nat → Int32 → Int32 → Int32 → Mem → Option (Int32 × Mem)
  | 0, _, _, _, _, _ => none
  | n + 1, x0, x1, x2, x3, M =>
    (gN M 5 x0 14).bind fun v1 =>
    (aI M v1 (0 : Int32)).bind fun v2 =>
    if v2 ≤ x3 then (some ((-1 : Int32), M))
    else ((ck M 5 x0).bind fun u3 =>
    (fX8_rowText x0 x3 M).bind fun r4 =>
    (ck r4 5 x0).bind fun u5 =>
    (fX8_countsNow x0 x1 x2 r4).bind fun r6 =>
    if r6.1 = 0 then (some (x3, r6.2))
    else (fX8_firstMisfit_2 n x0 x1 x2 (x3 + (1 : Int32)) r6.2))
set_option maxHeartbeats 4000000 in
set_option maxRecDepth 100000 in
theorem tX8_firstMisfit_2 {κ : KT} {p : Int32 × Mem} (O : OkK κ mX8_firstMisfit) (hf : κ.2.2.2.2.2.2.2.2.2.2.2.2.2 = (some (.int p.1), p.2))  : ∀ (n : Nat) (x0 : Nat) (x1 : Int32) (x2 : Int32) (x3 : Int32) (M : Mem), fX8_firstMisfit_2  n x0 x1 x2 x3 M = some p → G κ mX8_firstMisfit 0 0 2 [(0, .ref x0), (1, .int x1), (2, .int x2), (3, .int x3)] [] M := by
  intro n
  induction n with
  | zero => intro x0 x1 x2 x3 M h; cases h
  | succ n ih =>
    intro x0 x1 x2 x3 M h
    rw [fX8_firstMisfit_2] at h
    refine g_iload_n (pc' := 3) 3 O dX8_firstMisfit_2 rfl rfl rfl ?_
    refine g_aload_n (pc' := 4) 0 O dX8_firstMisfit_3 rfl rfl rfl ?_
    replace h := ob h; obtain ⟨v1, ev1, h⟩ := h
    refine g_getF (C := RX8) (T := TX8) (N := 29) (ci := 5) (k := 14) (pc' := 7) O dX8_firstMisfit_4 rfl inX8 (by decide) tw_730 (gN_F ev1) rfl ?_
    refine g_iconst (v := 0) (pc' := 8) O dX8_firstMisfit_7 (by decide) rfl ?_
    replace h := ob h; obtain ⟨v2, ev2, h⟩ := h
    refine g_iald (pc' := 9) O dX8_firstMisfit_8 ev2 rfl ?_
    refine g_icmp_ge (tgt := 34) (pc' := 12) O dX8_firstMisfit_9 (by decide) rfl (fun hc => ?_) (fun hc => ?_)
    · replace h := ip hc h
      refine g_iconst (v := -1) (pc' := 35) O dX8_firstMisfit_34 (by decide) rfl ?_
      cases h
      exact g_ireturn O dX8_firstMisfit_35 rfl rfl hf (by decide) (by decide)
    · replace h := ine hc h
      refine g_aload_n (pc' := 13) 0 O dX8_firstMisfit_12 rfl rfl rfl ?_
      refine g_iload_n (pc' := 14) 3 O dX8_firstMisfit_13 rfl rfl rfl ?_
      replace h := ob h; obtain ⟨u3, eu3, h⟩ := h
      replace h := ob h; obtain ⟨r4, er4, h⟩ := h
      refine g_callV (y := yX8_rowText) (ν := mX8_rowText) (n := 1) (As := [.int x3]) (b := x0) (st := []) (M2 := r4) (r1 := none) (pc' := 17) O dX8_firstMisfit_14 tw_1062 tw_58 tw_1061 tw_50 tw_1059 hyX8_rowText rfl rfl eu3 (okX8_rowText er4) (Nat.le_of_ble_eq_true rfl) ⟨Nat.le_of_ble_eq_true rfl, Nat.le_of_ble_eq_true rfl⟩ ⟨Nat.le_of_ble_eq_true rfl, Nat.le_of_ble_eq_true rfl⟩ rfl ?_
      show G κ mX8_firstMisfit 0 0 17 [(0, .ref x0), (1, .int x1), (2, .int x2), (3, .int x3)] [] r4
      refine g_aload_n (pc' := 18) 0 O dX8_firstMisfit_17 rfl rfl rfl ?_
      refine g_iload_n (pc' := 19) 1 O dX8_firstMisfit_18 rfl rfl rfl ?_
      refine g_iload_n (pc' := 20) 2 O dX8_firstMisfit_19 rfl rfl rfl ?_
      replace h := ob h; obtain ⟨u5, eu5, h⟩ := h
      replace h := ob h; obtain ⟨r6, er6, h⟩ := h
      refine g_callV (y := yX8_countsNow) (ν := mX8_countsNow) (n := 2) (As := [.int x1, .int x2]) (b := x0) (st := []) (M2 := r6.2) (r1 := (some (.int r6.1))) (pc' := 23) O dX8_firstMisfit_20 tw_843 tw_58 tw_842 tw_21 tw_840 hyX8_countsNow rfl rfl eu5 (okX8_countsNow er6) (Nat.le_of_ble_eq_true rfl) ⟨Nat.le_of_ble_eq_true rfl, Nat.le_of_ble_eq_true rfl⟩ ⟨Nat.le_of_ble_eq_true rfl, Nat.le_of_ble_eq_true rfl⟩ rfl ?_
      show G κ mX8_firstMisfit 0 0 23 [(0, .ref x0), (1, .int x1), (2, .int x2), (3, .int x3)] [.int r6.1] r6.2
      refine g_if_ne (tgt := 28) (pc' := 26) O dX8_firstMisfit_23 (by decide) rfl (fun hc => ?_) (fun hc => ?_)
      · replace h := ine hc h
        refine g_iinc (q := 3) (v := x3 + (1 : Int32)) (lv' := [(3, .int (x3 + (1 : Int32))), (0, .ref x0), (1, .int x1), (2, .int x2)]) (pc' := 31) O dX8_firstMisfit_28 rfl rfl (by decide) rfl rfl ?_
        refine g_goto (pc' := 2) O dX8_firstMisfit_31 (by decide) ?_
        refine g_sub (lv' := [(0, .ref x0), (1, .int x1), (2, .int x2), (3, .int (x3 + (1 : Int32)))]) [1, 2, 3, 0] rfl ?_
        exact ih x0 x1 x2 (x3 + (1 : Int32)) r6.2 h
      · replace h := ip hc h
        refine g_iload_n (pc' := 27) 3 O dX8_firstMisfit_26 rfl rfl rfl ?_
        cases h
        exact g_ireturn O dX8_firstMisfit_27 rfl rfl hf (by decide) (by decide)
def fX8_firstMisfit  (this : Nat) (p0 : Int32) (p1 : Int32) (M : Mem) : Option (Int32 × Mem) :=
  fX8_firstMisfit_2 FU this p0 p1 (0 : Int32) M
set_option maxHeartbeats 4000000 in
set_option maxRecDepth 100000 in
theorem okX8_firstMisfit {l : Launch} {p : Int32 × Mem} {this : Nat} {p0 : Int32} {p1 : Int32} {M : Mem} (h : fX8_firstMisfit this p0 p1 M = some p) : Cn l yX8_firstMisfit mX8_firstMisfit [.ref this, .int p0, .int p1] M (some (.int p.1)) p.2 := by
  refine Cn.of [(0, .ref this), (1, .int p0), (2, .int p1)] (by decide) rfl rfl (Nat.le_of_ble_eq_true rfl) rfl (fun κ _ hf O => ?_)
  unfold fX8_firstMisfit at h
  refine g_iconst (v := 0) (pc' := 1) O dX8_firstMisfit_0 (by decide) rfl ?_
  refine g_istore_n (lv' := [(3, .int (0 : Int32)), (0, .ref this), (1, .int p0), (2, .int p1)]) (pc' := 2) O dX8_firstMisfit_1 rfl (by decide) rfl rfl ?_
  refine g_sub (lv' := [(0, .ref this), (1, .int p0), (2, .int p1), (3, .int (0 : Int32))]) [1, 2, 3, 0] rfl ?_
  exact tX8_firstMisfit_2 O hf FU this p0 p1 (0 : Int32) M h
