abbrev mX8_open : MD := (cX8_open, 3, RX8, (some .boolean), { frames := 5, cells := 0, slots := 0, locals := 132 }, "open")
theorem hyX8_open : yX8_open.cls ≠ "java/lang/invoke/MethodHandle" ∧ yX8_open.cls ≠ "java/lang/invoke/VarHandle" ∧ (parseMethodDescriptor yX8_open.desc).map (fun d => d.parameters.length) = some 2 := by decide +kernel
def fX8_open_45  (s0 : Int32) (M : Mem) : Option (Int32 × Mem) :=
  (nz s0).bind fun z1 =>
  some (z1, M)
set_option maxHeartbeats 4000000 in
set_option maxRecDepth 100000 in
theorem tX8_open_45 {κ : KT} {p : Int32 × Mem} (O : OkK κ mX8_open) (hf : κ.2.2.2.2.2.2.2.2.2.2.2.2.2 = (some (.int p.1), p.2))  {s0 : Int32} {M : Mem} (h : fX8_open_45  s0 M = some p) : G κ mX8_open 0 0 45 [] [.int s0] M := by
  unfold fX8_open_45 at h
  replace h := ob h; obtain ⟨z1, ez1, h⟩ := h
  obtain ⟨hz1, ez1b⟩ := nz_spec ez1
  rw [ez1b] at h
  cases h
  exact g_ireturn O dX8_open_45 rfl (nz_nar hz1) hf (by decide) (by decide)
def fX8_open_44  (M : Mem) : Option (Int32 × Mem) :=
  fX8_open_45 (0 : Int32) M
set_option maxHeartbeats 4000000 in
set_option maxRecDepth 100000 in
theorem tX8_open_44 {κ : KT} {p : Int32 × Mem} (O : OkK κ mX8_open) (hf : κ.2.2.2.2.2.2.2.2.2.2.2.2.2 = (some (.int p.1), p.2))  {M : Mem} (h : fX8_open_44  M = some p) : G κ mX8_open 0 0 44 [] [] M := by
  unfold fX8_open_44 at h
  refine g_iconst (v := 0) (pc' := 45) O dX8_open_44 (by decide) rfl ?_
  exact tX8_open_45 O hf h
def fX8_open  (this : Nat) (p0 : Int32) (p1 : Int32) (M : Mem) : Option (Int32 × Mem) :=
  (pF M 5 this 0 (.int (0 : Int32))).bind fun M1 =>
  (ck M1 5 this).bind fun u2 =>
  (fX8_lineText this M1).bind fun r3 =>
  (ck r3 5 this).bind fun u4 =>
  (fX8_isLand this p0 r3).bind fun r5 =>
  if r5.1 = 0 then (fX8_open_44 r5.2)
  else ((fX8_in p1 (0 : Int32) (2 : Int32) r5.2).bind fun r6 =>
  if r6.1 = 0 then (fX8_open_44 r6.2)
  else ((gI r6.2 5 this 20).bind fun v7 =>
  (ck r6.2 5 this).bind fun u8 =>
  (fX8_held this p0 p1 v7 r6.2).bind fun r9 =>
  if r9.1 = (1 : Int32) then (fX8_open_45 (1 : Int32) r9.2)
  else (fX8_open_44 r9.2)))
set_option maxHeartbeats 4000000 in
set_option maxRecDepth 100000 in
theorem okX8_open {l : Launch} {p : Int32 × Mem} {this : Nat} {p0 : Int32} {p1 : Int32} {M : Mem} (h : fX8_open this p0 p1 M = some p) : Cn l yX8_open mX8_open [.ref this, .int p0, .int p1] M (some (.int p.1)) p.2 := by
  refine Cn.of [(0, .ref this), (1, .int p0), (2, .int p1)] (by decide) rfl rfl (Nat.le_of_ble_eq_true rfl) rfl (fun κ _ hf O => ?_)
  unfold fX8_open at h
  refine g_aload_n (pc' := 1) 0 O dX8_open_0 rfl rfl rfl ?_
  refine g_iconst (v := 0) (pc' := 2) O dX8_open_1 (by decide) rfl ?_
  replace h := ob h; obtain ⟨M1, eM1, h⟩ := h
  refine g_putF (C := RX8) (T := TX8) (N := 29) (ci := 5) (k := 0) (pc' := 5) O dX8_open_2 rfl inX8 (by decide) tw_716 tyX8 tyX8_ok nmX8 rfl rfl rfl rfl eM1 rfl ?_
  refine g_aload_n (pc' := 6) 0 O dX8_open_5 rfl rfl rfl ?_
  replace h := ob h; obtain ⟨u2, eu2, h⟩ := h
  replace h := ob h; obtain ⟨r3, er3, h⟩ := h
  refine g_callV (y := yX8_lineText) (ν := mX8_lineText) (n := 0) (As := []) (b := this) (st := []) (M2 := r3) (r1 := none) (pc' := 9) O dX8_open_6 tw_839 tw_58 tw_838 tw_20 tw_836 hyX8_lineText rfl rfl eu2 (okX8_lineText er3) (Nat.le_of_ble_eq_true rfl) ⟨Nat.le_of_ble_eq_true rfl, Nat.le_of_ble_eq_true rfl⟩ ⟨Nat.le_of_ble_eq_true rfl, Nat.le_of_ble_eq_true rfl⟩ rfl ?_
  show G κ mX8_open 0 0 9 [(0, .ref this), (1, .int p0), (2, .int p1)] [] r3
  refine g_aload_n (pc' := 10) 0 O dX8_open_9 rfl rfl rfl ?_
  refine g_iload_n (pc' := 11) 1 O dX8_open_10 rfl rfl rfl ?_
  replace h := ob h; obtain ⟨u4, eu4, h⟩ := h
  replace h := ob h; obtain ⟨r5, er5, h⟩ := h
  refine g_callV (y := yX8_isLand) (ν := mX8_isLand) (n := 1) (As := [.int p0]) (b := this) (st := []) (M2 := r5.2) (r1 := (some (.int r5.1))) (pc' := 14) O dX8_open_11 tw_835 tw_58 tw_834 tw_19 tw_832 hyX8_isLand rfl rfl eu4 (okX8_isLand er5) (Nat.le_of_ble_eq_true rfl) ⟨Nat.le_of_ble_eq_true rfl, Nat.le_of_ble_eq_true rfl⟩ ⟨Nat.le_of_ble_eq_true rfl, Nat.le_of_ble_eq_true rfl⟩ rfl ?_
  show G κ mX8_open 0 0 14 [(0, .ref this), (1, .int p0), (2, .int p1)] [.int r5.1] r5.2
  refine g_if_eq (tgt := 44) (pc' := 17) O dX8_open_14 (by decide) rfl (fun hc => ?_) (fun hc => ?_)
  · replace h := ip hc h
    refine g_sub (lv' := []) [] rfl ?_
    exact tX8_open_44 O hf h
  · replace h := ine hc h
    refine g_iload_n (pc' := 18) 2 O dX8_open_17 rfl rfl rfl ?_
    refine g_iconst (v := 0) (pc' := 19) O dX8_open_18 (by decide) rfl ?_
    refine g_iconst (v := 2) (pc' := 20) O dX8_open_19 (by decide) rfl ?_
    replace h := ob h; obtain ⟨r6, er6, h⟩ := h
    refine g_callS (y := yX8_in) (ν := mX8_in) (n := 3) (As := [.int p1, .int (0 : Int32), .int (2 : Int32)]) (b := 0) (st := []) (M2 := r6.2) (r1 := (some (.int r6.1))) (pc' := 23) O dX8_open_20 tw_811 tw_58 tw_810 tw_809 hyX8_in rfl (okX8_in er6) (Nat.le_of_ble_eq_true rfl) ⟨Nat.le_of_ble_eq_true rfl, Nat.le_of_ble_eq_true rfl⟩ ⟨Nat.le_of_ble_eq_true rfl, Nat.le_of_ble_eq_true rfl⟩ rfl ?_
    show G κ mX8_open 0 0 23 [(0, .ref this), (1, .int p0), (2, .int p1)] [.int r6.1] r6.2
    refine g_if_eq (tgt := 44) (pc' := 26) O dX8_open_23 (by decide) rfl (fun hc => ?_) (fun hc => ?_)
    · replace h := ip hc h
      refine g_sub (lv' := []) [] rfl ?_
      exact tX8_open_44 O hf h
    · replace h := ine hc h
      refine g_aload_n (pc' := 27) 0 O dX8_open_26 rfl rfl rfl ?_
      refine g_iload_n (pc' := 28) 1 O dX8_open_27 rfl rfl rfl ?_
      refine g_iload_n (pc' := 29) 2 O dX8_open_28 rfl rfl rfl ?_
      refine g_aload_n (pc' := 30) 0 O dX8_open_29 rfl rfl rfl ?_
      replace h := ob h; obtain ⟨v7, ev7, h⟩ := h
      refine g_getF (C := RX8) (T := TX8) (N := 29) (ci := 5) (k := 20) (pc' := 33) O dX8_open_30 rfl inX8 (by decide) tw_736 (gI_F ev7) rfl ?_
      replace h := ob h; obtain ⟨u8, eu8, h⟩ := h
      replace h := ob h; obtain ⟨r9, er9, h⟩ := h
      refine g_callV (y := yX8_held) (ν := mX8_held) (n := 3) (As := [.int p0, .int p1, .int v7]) (b := this) (st := []) (M2 := r9.2) (r1 := (some (.int r9.1))) (pc' := 36) O dX8_open_33 tw_847 tw_58 tw_846 tw_22 tw_844 hyX8_held rfl rfl eu8 (okX8_held er9) (Nat.le_of_ble_eq_true rfl) ⟨Nat.le_of_ble_eq_true rfl, Nat.le_of_ble_eq_true rfl⟩ ⟨Nat.le_of_ble_eq_true rfl, Nat.le_of_ble_eq_true rfl⟩ rfl ?_
      show G κ mX8_open 0 0 36 [(0, .ref this), (1, .int p0), (2, .int p1)] [.int r9.1] r9.2
      refine g_iconst (v := 1) (pc' := 37) O dX8_open_36 (by decide) rfl ?_
      refine g_icmp_ne (tgt := 44) (pc' := 40) O dX8_open_37 (by decide) rfl (fun hc => ?_) (fun hc => ?_)
      · replace h := ine hc h
        refine g_sub (lv' := []) [] rfl ?_
        exact tX8_open_44 O hf h
      · replace h := ip hc h
        refine g_iconst (v := 1) (pc' := 41) O dX8_open_40 (by decide) rfl ?_
        refine g_goto (pc' := 45) O dX8_open_41 (by decide) ?_
        refine g_sub (lv' := []) [] rfl ?_
        exact tX8_open_45 O hf h
abbrev mX8_good : MD := (cX8_good, 4, RX8, (some .int), { frames := 5, cells := 0, slots := 0, locals := 132 }, "good")
theorem hyX8_good : yX8_good.cls ≠ "java/lang/invoke/MethodHandle" ∧ yX8_good.cls ≠ "java/lang/invoke/VarHandle" ∧ (parseMethodDescriptor yX8_good.desc).map (fun d => d.parameters.length) = some 2 := by decide +kernel
def fX8_good_56  (x3 : Int32) (M : Mem) : Option (Int32 × Mem) :=
  some (x3, M)
set_option maxHeartbeats 4000000 in
set_option maxRecDepth 100000 in
theorem tX8_good_56 {κ : KT} {p : Int32 × Mem} (O : OkK κ mX8_good) (hf : κ.2.2.2.2.2.2.2.2.2.2.2.2.2 = (some (.int p.1), p.2))  {x3 : Int32} {M : Mem} (h : fX8_good_56  x3 M = some p) : G κ mX8_good 0 0 56 [(3, .int x3)] [] M := by
  unfold fX8_good_56 at h
  refine g_iload_n (pc' := 57) 0 O dX8_good_56 rfl rfl rfl ?_
  cases h
  exact g_ireturn O dX8_good_57 rfl rfl hf (by decide) (by decide)
def fX8_good_30  : Nat → Nat → Int32 → Int32 → Int32 → Mem → Option (Int32 × Mem)
  | 0, _, _, _, _, _ => none
  | n + 1, x0, x1, x2, x3, M =>
    (gI M 5 x0 20).bind fun v1 =>
    if v1 ≤ x3 then (fX8_good_56 x3 M)
    else ((ck M 5 x0).bind fun u2 =>
    (fX8_held x0 x1 x2 (x3 + (1 : Int32)) M).bind fun r3 =>
    if r3.1 ≤ 0 then (fX8_good_56 x3 r3.2)
    else (fX8_good_30 n x0 x1 x2 (x3 + (1 : Int32)) r3.2))
set_option maxHeartbeats 4000000 in
set_option maxRecDepth 100000 in
theorem tX8_good_30 {κ : KT} {p : Int32 × Mem} (O : OkK κ mX8_good) (hf : κ.2.2.2.2.2.2.2.2.2.2.2.2.2 = (some (.int p.1), p.2))  : ∀ (n : Nat) (x0 : Nat) (x1 : Int32) (x2 : Int32) (x3 : Int32) (M : Mem), fX8_good_30  n x0 x1 x2 x3 M = some p → G κ mX8_good 0 0 30 [(0, .ref x0), (1, .int x1), (2, .int x2), (3, .int x3)] [] M := by
  intro n
  induction n with
  | zero => intro x0 x1 x2 x3 M h; cases h
  | succ n ih =>
    intro x0 x1 x2 x3 M h
    rw [fX8_good_30] at h
    refine g_iload_n (pc' := 31) 3 O dX8_good_30 rfl rfl rfl ?_
    refine g_aload_n (pc' := 32) 0 O dX8_good_31 rfl rfl rfl ?_
    replace h := ob h; obtain ⟨v1, ev1, h⟩ := h
    refine g_getF (C := RX8) (T := TX8) (N := 29) (ci := 5) (k := 20) (pc' := 35) O dX8_good_32 rfl inX8 (by decide) tw_736 (gI_F ev1) rfl ?_
    refine g_icmp_ge (tgt := 56) (pc' := 38) O dX8_good_35 (by decide) rfl (fun hc => ?_) (fun hc => ?_)
    · replace h := ip hc h
      refine g_sub (lv' := [(3, .int x3)]) [3] rfl ?_
      exact tX8_good_56 O hf h
    · replace h := ine hc h
      refine g_aload_n (pc' := 39) 0 O dX8_good_38 rfl rfl rfl ?_
      refine g_iload_n (pc' := 40) 1 O dX8_good_39 rfl rfl rfl ?_
      refine g_iload_n (pc' := 41) 2 O dX8_good_40 rfl rfl rfl ?_
      refine g_iload_n (pc' := 42) 3 O dX8_good_41 rfl rfl rfl ?_
      refine g_iconst (v := 1) (pc' := 43) O dX8_good_42 (by decide) rfl ?_
      refine g_iadd (pc' := 44) O dX8_good_43 rfl ?_
      replace h := ob h; obtain ⟨u2, eu2, h⟩ := h
      replace h := ob h; obtain ⟨r3, er3, h⟩ := h
      refine g_callV (y := yX8_held) (ν := mX8_held) (n := 3) (As := [.int x1, .int x2, .int (x3 + (1 : Int32))]) (b := x0) (st := []) (M2 := r3.2) (r1 := (some (.int r3.1))) (pc' := 47) O dX8_good_44 tw_847 tw_58 tw_846 tw_22 tw_844 hyX8_held rfl rfl eu2 (okX8_held er3) (Nat.le_of_ble_eq_true rfl) ⟨Nat.le_of_ble_eq_true rfl, Nat.le_of_ble_eq_true rfl⟩ ⟨Nat.le_of_ble_eq_true rfl, Nat.le_of_ble_eq_true rfl⟩ rfl ?_
      show G κ mX8_good 0 0 47 [(0, .ref x0), (1, .int x1), (2, .int x2), (3, .int x3)] [.int r3.1] r3.2
      refine g_if_le (tgt := 56) (pc' := 50) O dX8_good_47 (by decide) rfl (fun hc => ?_) (fun hc => ?_)
      · replace h := ip hc h
        refine g_sub (lv' := [(3, .int x3)]) [3] rfl ?_
        exact tX8_good_56 O hf h
      · replace h := ine hc h
        refine g_iinc (q := 3) (v := x3 + (1 : Int32)) (lv' := [(3, .int (x3 + (1 : Int32))), (0, .ref x0), (1, .int x1), (2, .int x2)]) (pc' := 53) O dX8_good_50 rfl rfl (by decide) rfl rfl ?_
        refine g_goto (pc' := 30) O dX8_good_53 (by decide) ?_
        refine g_sub (lv' := [(0, .ref x0), (1, .int x1), (2, .int x2), (3, .int (x3 + (1 : Int32)))]) [1, 2, 3, 0] rfl ?_
        exact ih x0 x1 x2 (x3 + (1 : Int32)) r3.2 h
def fX8_good_22  (M : Mem) : Option (Int32 × Mem) :=
  some ((-1 : Int32), M)
set_option maxHeartbeats 4000000 in
set_option maxRecDepth 100000 in
theorem tX8_good_22 {κ : KT} {p : Int32 × Mem} (O : OkK κ mX8_good) (hf : κ.2.2.2.2.2.2.2.2.2.2.2.2.2 = (some (.int p.1), p.2))  {M : Mem} (h : fX8_good_22  M = some p) : G κ mX8_good 0 0 22 [] [] M := by
  unfold fX8_good_22 at h
  refine g_iconst (v := -1) (pc' := 23) O dX8_good_22 (by decide) rfl ?_
  cases h
  exact g_ireturn O dX8_good_23 rfl rfl hf (by decide) (by decide)
def fX8_good  (this : Nat) (p0 : Int32) (p1 : Int32) (M : Mem) : Option (Int32 × Mem) :=
  (pF M 5 this 0 (.int (0 : Int32))).bind fun M1 =>
  (ck M1 5 this).bind fun u2 =>
  (fX8_isLand this p0 M1).bind fun r3 =>
  if r3.1 = 0 then (fX8_good_22 r3.2)
  else ((fX8_in p1 (0 : Int32) (2 : Int32) r3.2).bind fun r4 =>
  if r4.1 = 0 then (fX8_good_22 r4.2)
  else ((ck r4.2 5 this).bind fun u5 =>
  (fX8_lineText this r4.2).bind fun r6 =>
  fX8_good_30 FU this p0 p1 (0 : Int32) r6))
set_option maxHeartbeats 4000000 in
set_option maxRecDepth 100000 in
theorem okX8_good {l : Launch} {p : Int32 × Mem} {this : Nat} {p0 : Int32} {p1 : Int32} {M : Mem} (h : fX8_good this p0 p1 M = some p) : Cn l yX8_good mX8_good [.ref this, .int p0, .int p1] M (some (.int p.1)) p.2 := by
  refine Cn.of [(0, .ref this), (1, .int p0), (2, .int p1)] (by decide) rfl rfl (Nat.le_of_ble_eq_true rfl) rfl (fun κ _ hf O => ?_)
  unfold fX8_good at h
  refine g_aload_n (pc' := 1) 0 O dX8_good_0 rfl rfl rfl ?_
  refine g_iconst (v := 0) (pc' := 2) O dX8_good_1 (by decide) rfl ?_
  replace h := ob h; obtain ⟨M1, eM1, h⟩ := h
  refine g_putF (C := RX8) (T := TX8) (N := 29) (ci := 5) (k := 0) (pc' := 5) O dX8_good_2 rfl inX8 (by decide) tw_716 tyX8 tyX8_ok nmX8 rfl rfl rfl rfl eM1 rfl ?_
  refine g_aload_n (pc' := 6) 0 O dX8_good_5 rfl rfl rfl ?_
  refine g_iload_n (pc' := 7) 1 O dX8_good_6 rfl rfl rfl ?_
  replace h := ob h; obtain ⟨u2, eu2, h⟩ := h
  replace h := ob h; obtain ⟨r3, er3, h⟩ := h
  refine g_callV (y := yX8_isLand) (ν := mX8_isLand) (n := 1) (As := [.int p0]) (b := this) (st := []) (M2 := r3.2) (r1 := (some (.int r3.1))) (pc' := 10) O dX8_good_7 tw_835 tw_58 tw_834 tw_19 tw_832 hyX8_isLand rfl rfl eu2 (okX8_isLand er3) (Nat.le_of_ble_eq_true rfl) ⟨Nat.le_of_ble_eq_true rfl, Nat.le_of_ble_eq_true rfl⟩ ⟨Nat.le_of_ble_eq_true rfl, Nat.le_of_ble_eq_true rfl⟩ rfl ?_
  show G κ mX8_good 0 0 10 [(0, .ref this), (1, .int p0), (2, .int p1)] [.int r3.1] r3.2
  refine g_if_eq (tgt := 22) (pc' := 13) O dX8_good_10 (by decide) rfl (fun hc => ?_) (fun hc => ?_)
  · replace h := ip hc h
    refine g_sub (lv' := []) [] rfl ?_
    exact tX8_good_22 O hf h
  · replace h := ine hc h
    refine g_iload_n (pc' := 14) 2 O dX8_good_13 rfl rfl rfl ?_
    refine g_iconst (v := 0) (pc' := 15) O dX8_good_14 (by decide) rfl ?_
    refine g_iconst (v := 2) (pc' := 16) O dX8_good_15 (by decide) rfl ?_
    replace h := ob h; obtain ⟨r4, er4, h⟩ := h
    refine g_callS (y := yX8_in) (ν := mX8_in) (n := 3) (As := [.int p1, .int (0 : Int32), .int (2 : Int32)]) (b := 0) (st := []) (M2 := r4.2) (r1 := (some (.int r4.1))) (pc' := 19) O dX8_good_16 tw_811 tw_58 tw_810 tw_809 hyX8_in rfl (okX8_in er4) (Nat.le_of_ble_eq_true rfl) ⟨Nat.le_of_ble_eq_true rfl, Nat.le_of_ble_eq_true rfl⟩ ⟨Nat.le_of_ble_eq_true rfl, Nat.le_of_ble_eq_true rfl⟩ rfl ?_
    show G κ mX8_good 0 0 19 [(0, .ref this), (1, .int p0), (2, .int p1)] [.int r4.1] r4.2
    refine g_if_ne (tgt := 24) (pc' := 22) O dX8_good_19 (by decide) rfl (fun hc => ?_) (fun hc => ?_)
    · replace h := ine hc h
      refine g_aload_n (pc' := 25) 0 O dX8_good_24 rfl rfl rfl ?_
      replace h := ob h; obtain ⟨u5, eu5, h⟩ := h
      replace h := ob h; obtain ⟨r6, er6, h⟩ := h
      refine g_callV (y := yX8_lineText) (ν := mX8_lineText) (n := 0) (As := []) (b := this) (st := []) (M2 := r6) (r1 := none) (pc' := 28) O dX8_good_25 tw_839 tw_58 tw_838 tw_20 tw_836 hyX8_lineText rfl rfl eu5 (okX8_lineText er6) (Nat.le_of_ble_eq_true rfl) ⟨Nat.le_of_ble_eq_true rfl, Nat.le_of_ble_eq_true rfl⟩ ⟨Nat.le_of_ble_eq_true rfl, Nat.le_of_ble_eq_true rfl⟩ rfl ?_
      show G κ mX8_good 0 0 28 [(0, .ref this), (1, .int p0), (2, .int p1)] [] r6
      refine g_iconst (v := 0) (pc' := 29) O dX8_good_28 (by decide) rfl ?_
      refine g_istore_n (lv' := [(3, .int (0 : Int32)), (0, .ref this), (1, .int p0), (2, .int p1)]) (pc' := 30) O dX8_good_29 rfl (by decide) rfl rfl ?_
      refine g_sub (lv' := [(0, .ref this), (1, .int p0), (2, .int p1), (3, .int (0 : Int32))]) [1, 2, 3, 0] rfl ?_
      exact tX8_good_30 O hf FU this p0 p1 (0 : Int32) r6 h
    · replace h := ip hc h
      refine g_sub (lv' := []) [] rfl ?_
      exact tX8_good_22 O hf h
abbrev mX8_state : MD := (cX8_state, 11, RX8, (some .int), { frames := 5, cells := 0, slots := 0, locals := 132 }, "state")
theorem hyX8_state : yX8_state.cls ≠ "java/lang/invoke/MethodHandle" ∧ yX8_state.cls ≠ "java/lang/invoke/VarHandle" ∧ (parseMethodDescriptor yX8_state.desc).map (fun d => d.parameters.length) = some 2 := by decide +kernel
def fX8_state_209  (s0 : Int32) (M : Mem) : Option (Int32 × Mem) :=
  some (s0, M)
set_option maxHeartbeats 4000000 in
set_option maxRecDepth 100000 in
theorem tX8_state_209 {κ : KT} {p : Int32 × Mem} (O : OkK κ mX8_state) (hf : κ.2.2.2.2.2.2.2.2.2.2.2.2.2 = (some (.int p.1), p.2))  {s0 : Int32} {M : Mem} (h : fX8_state_209  s0 M = some p) : G κ mX8_state 0 0 209 [] [.int s0] M := by
  unfold fX8_state_209 at h
  cases h
  exact g_ireturn O dX8_state_209 rfl rfl hf (by decide) (by decide)
def fX8_state_176 (k34 : Nat → Int32 → Int32 → Int32 → Int32 → Int32 → Int64 → Int32 → Mem → Option (Int32 × Mem)) (x0 : Nat) (x1 : Int32) (x2 : Int32) (x3 : Int32) (x4 : Int32) (x5 : Int32) (x6 : Int64) (x8 : Int32) (M : Mem) : Option (Int32 × Mem) :=
  k34 x0 x1 x2 x3 x4 x5 x6 (x8 + (1 : Int32)) M
set_option maxHeartbeats 4000000 in
set_option maxRecDepth 100000 in
theorem tX8_state_176 {κ : KT} {p : Int32 × Mem} (O : OkK κ mX8_state) (hf : κ.2.2.2.2.2.2.2.2.2.2.2.2.2 = (some (.int p.1), p.2)) {k34 : Nat → Int32 → Int32 → Int32 → Int32 → Int32 → Int64 → Int32 → Mem → Option (Int32 × Mem)} (hk34 : ∀ (x0 : Nat) (x1 : Int32) (x2 : Int32) (x3 : Int32) (x4 : Int32) (x5 : Int32) (x6 : Int64) (x8 : Int32) (M : Mem), k34 x0 x1 x2 x3 x4 x5 x6 x8 M = some p → G κ mX8_state 0 0 34 [(0, .ref x0), (1, .int x1), (2, .int x2), (3, .int x3), (4, .int x4), (5, .int x5), (6, .long x6), (8, .int x8)] [] M) {x0 : Nat} {x1 : Int32} {x2 : Int32} {x3 : Int32} {x4 : Int32} {x5 : Int32} {x6 : Int64} {x8 : Int32} {M : Mem} (h : fX8_state_176 k34 x0 x1 x2 x3 x4 x5 x6 x8 M = some p) : G κ mX8_state 0 0 176 [(0, .ref x0), (1, .int x1), (2, .int x2), (3, .int x3), (4, .int x4), (5, .int x5), (6, .long x6), (8, .int x8)] [] M := by
  unfold fX8_state_176 at h
  refine g_iinc (q := 7) (v := x8 + (1 : Int32)) (lv' := [(8, .int (x8 + (1 : Int32))), (0, .ref x0), (1, .int x1), (2, .int x2), (3, .int x3), (4, .int x4), (5, .int x5), (6, .long x6)]) (pc' := 179) O dX8_state_176 rfl rfl (by decide) rfl rfl ?_
  refine g_goto (pc' := 34) O dX8_state_179 (by decide) ?_
  refine g_sub (lv' := [(0, .ref x0), (1, .int x1), (2, .int x2), (3, .int x3), (4, .int x4), (5, .int x5), (6, .long x6), (8, .int (x8 + (1 : Int32)))]) [1, 2, 3, 4, 5, 6, 7, 0] rfl ?_
  exact hk34 x0 x1 x2 x3 x4 x5 x6 (x8 + (1 : Int32)) M h
def fX8_state_172 (k34 : Nat → Int32 → Int32 → Int32 → Int32 → Int32 → Int64 → Int32 → Mem → Option (Int32 × Mem)) (x0 : Nat) (x1 : Int32) (x2 : Int32) (x4 : Int32) (x5 : Int32) (x8 : Int32) (s0 : Int64) (M : Mem) : Option (Int32 × Mem) :=
  fX8_state_176 k34 x0 x1 x2 (1 : Int32) x4 x5 s0 x8 M
set_option maxHeartbeats 4000000 in
set_option maxRecDepth 100000 in
theorem tX8_state_172 {κ : KT} {p : Int32 × Mem} (O : OkK κ mX8_state) (hf : κ.2.2.2.2.2.2.2.2.2.2.2.2.2 = (some (.int p.1), p.2)) {k34 : Nat → Int32 → Int32 → Int32 → Int32 → Int32 → Int64 → Int32 → Mem → Option (Int32 × Mem)} (hk34 : ∀ (x0 : Nat) (x1 : Int32) (x2 : Int32) (x3 : Int32) (x4 : Int32) (x5 : Int32) (x6 : Int64) (x8 : Int32) (M : Mem), k34 x0 x1 x2 x3 x4 x5 x6 x8 M = some p → G κ mX8_state 0 0 34 [(0, .ref x0), (1, .int x1), (2, .int x2), (3, .int x3), (4, .int x4), (5, .int x5), (6, .long x6), (8, .int x8)] [] M) {x0 : Nat} {x1 : Int32} {x2 : Int32} {x4 : Int32} {x5 : Int32} {x8 : Int32} {s0 : Int64} {M : Mem} (h : fX8_state_172 k34 x0 x1 x2 x4 x5 x8 s0 M = some p) : G κ mX8_state 0 0 172 [(0, .ref x0), (1, .int x1), (2, .int x2), (4, .int x4), (5, .int x5), (8, .int x8)] [.long s0] M := by
  unfold fX8_state_172 at h
  refine g_lstore (lv' := [(6, .long s0), (0, .ref x0), (1, .int x1), (2, .int x2), (4, .int x4), (5, .int x5), (8, .int x8)]) (pc' := 174) O dX8_state_172 (by decide) rfl rfl ?_
  refine g_iconst (v := 1) (pc' := 175) O dX8_state_174 (by decide) rfl ?_
  refine g_istore_n (lv' := [(3, .int (1 : Int32)), (6, .long s0), (0, .ref x0), (1, .int x1), (2, .int x2), (4, .int x4), (5, .int x5), (8, .int x8)]) (pc' := 176) O dX8_state_175 rfl (by decide) rfl rfl ?_
  refine g_sub (lv' := [(0, .ref x0), (1, .int x1), (2, .int x2), (3, .int (1 : Int32)), (4, .int x4), (5, .int x5), (6, .long s0), (8, .int x8)]) [2, 3, 4, 0, 5, 6, 1, 7] rfl ?_
  exact tX8_state_176 O hf hk34 h
def fX8_state_157 (k34 : Nat → Int32 → Int32 → Int32 → Int32 → Int32 → Int64 → Int32 → Mem → Option (Int32 × Mem)) (x0 : Nat) (x1 : Int32) (x2 : Int32) (x3 : Int32) (x5 : Int32) (x6 : Int64) (x8 : Int32) (s0 : Int32) (M : Mem) : Option (Int32 × Mem) :=
  if x3 = 0 then ((gL M 5 x0 24).bind fun v1 =>
  fX8_state_172 k34 x0 x1 x2 s0 x5 x8 v1 M)
  else (fX8_state_172 k34 x0 x1 x2 s0 x5 x8 x6 M)
set_option maxHeartbeats 4000000 in
set_option maxRecDepth 100000 in
theorem tX8_state_157 {κ : KT} {p : Int32 × Mem} (O : OkK κ mX8_state) (hf : κ.2.2.2.2.2.2.2.2.2.2.2.2.2 = (some (.int p.1), p.2)) {k34 : Nat → Int32 → Int32 → Int32 → Int32 → Int32 → Int64 → Int32 → Mem → Option (Int32 × Mem)} (hk34 : ∀ (x0 : Nat) (x1 : Int32) (x2 : Int32) (x3 : Int32) (x4 : Int32) (x5 : Int32) (x6 : Int64) (x8 : Int32) (M : Mem), k34 x0 x1 x2 x3 x4 x5 x6 x8 M = some p → G κ mX8_state 0 0 34 [(0, .ref x0), (1, .int x1), (2, .int x2), (3, .int x3), (4, .int x4), (5, .int x5), (6, .long x6), (8, .int x8)] [] M) {x0 : Nat} {x1 : Int32} {x2 : Int32} {x3 : Int32} {x5 : Int32} {x6 : Int64} {x8 : Int32} {s0 : Int32} {M : Mem} (h : fX8_state_157 k34 x0 x1 x2 x3 x5 x6 x8 s0 M = some p) : G κ mX8_state 0 0 157 [(0, .ref x0), (1, .int x1), (2, .int x2), (3, .int x3), (5, .int x5), (6, .long x6), (8, .int x8)] [.int s0] M := by
  unfold fX8_state_157 at h
  refine g_istore (lv' := [(4, .int s0), (0, .ref x0), (1, .int x1), (2, .int x2), (3, .int x3), (5, .int x5), (6, .long x6), (8, .int x8)]) (pc' := 159) O dX8_state_157 (by decide) rfl rfl ?_
  refine g_iload_n (pc' := 160) 4 O dX8_state_159 rfl rfl rfl ?_
  refine g_if_eq (tgt := 168) (pc' := 163) O dX8_state_160 (by decide) rfl (fun hc => ?_) (fun hc => ?_)
  · replace h := ip hc h
    refine g_aload_n (pc' := 169) 1 O dX8_state_168 rfl rfl rfl ?_
    replace h := ob h; obtain ⟨v1, ev1, h⟩ := h
    refine g_getF (C := RX8) (T := TX8) (N := 29) (ci := 5) (k := 24) (pc' := 172) O dX8_state_169 rfl inX8 (by decide) tw_740 (gL_F ev1) rfl ?_
    refine g_sub (lv' := [(0, .ref x0), (1, .int x1), (2, .int x2), (4, .int s0), (5, .int x5), (8, .int x8)]) [1, 2, 3, 0, 5, 7] rfl ?_
    exact tX8_state_172 O hf hk34 h
  · replace h := ine hc h
    refine g_lload (pc' := 165) 6 O dX8_state_163 rfl rfl ?_
    refine g_goto (pc' := 172) O dX8_state_165 (by decide) ?_
    refine g_sub (lv' := [(0, .ref x0), (1, .int x1), (2, .int x2), (4, .int s0), (5, .int x5), (8, .int x8)]) [1, 2, 3, 0, 5, 7] rfl ?_
    exact tX8_state_172 O hf hk34 h
def fX8_state_156 (k34 : Nat → Int32 → Int32 → Int32 → Int32 → Int32 → Int64 → Int32 → Mem → Option (Int32 × Mem)) (x0 : Nat) (x1 : Int32) (x2 : Int32) (x3 : Int32) (x5 : Int32) (x6 : Int64) (x8 : Int32) (M : Mem) : Option (Int32 × Mem) :=
  fX8_state_157 k34 x0 x1 x2 x3 x5 x6 x8 (0 : Int32) M
set_option maxHeartbeats 4000000 in
set_option maxRecDepth 100000 in
theorem tX8_state_156 {κ : KT} {p : Int32 × Mem} (O : OkK κ mX8_state) (hf : κ.2.2.2.2.2.2.2.2.2.2.2.2.2 = (some (.int p.1), p.2)) {k34 : Nat → Int32 → Int32 → Int32 → Int32 → Int32 → Int64 → Int32 → Mem → Option (Int32 × Mem)} (hk34 : ∀ (x0 : Nat) (x1 : Int32) (x2 : Int32) (x3 : Int32) (x4 : Int32) (x5 : Int32) (x6 : Int64) (x8 : Int32) (M : Mem), k34 x0 x1 x2 x3 x4 x5 x6 x8 M = some p → G κ mX8_state 0 0 34 [(0, .ref x0), (1, .int x1), (2, .int x2), (3, .int x3), (4, .int x4), (5, .int x5), (6, .long x6), (8, .int x8)] [] M) {x0 : Nat} {x1 : Int32} {x2 : Int32} {x3 : Int32} {x5 : Int32} {x6 : Int64} {x8 : Int32} {M : Mem} (h : fX8_state_156 k34 x0 x1 x2 x3 x5 x6 x8 M = some p) : G κ mX8_state 0 0 156 [(0, .ref x0), (1, .int x1), (2, .int x2), (3, .int x3), (5, .int x5), (6, .long x6), (8, .int x8)] [] M := by
  unfold fX8_state_156 at h
  refine g_iconst (v := 0) (pc' := 157) O dX8_state_156 (by decide) rfl ?_
  exact tX8_state_157 O hf hk34 h
def fX8_state_152 (k34 : Nat → Int32 → Int32 → Int32 → Int32 → Int32 → Int64 → Int32 → Mem → Option (Int32 × Mem)) (x0 : Nat) (x1 : Int32) (x2 : Int32) (x3 : Int32) (x5 : Int32) (x6 : Int64) (x8 : Int32) (M : Mem) : Option (Int32 × Mem) :=
  fX8_state_157 k34 x0 x1 x2 x3 x5 x6 x8 (1 : Int32) M
set_option maxHeartbeats 4000000 in
set_option maxRecDepth 100000 in
theorem tX8_state_152 {κ : KT} {p : Int32 × Mem} (O : OkK κ mX8_state) (hf : κ.2.2.2.2.2.2.2.2.2.2.2.2.2 = (some (.int p.1), p.2)) {k34 : Nat → Int32 → Int32 → Int32 → Int32 → Int32 → Int64 → Int32 → Mem → Option (Int32 × Mem)} (hk34 : ∀ (x0 : Nat) (x1 : Int32) (x2 : Int32) (x3 : Int32) (x4 : Int32) (x5 : Int32) (x6 : Int64) (x8 : Int32) (M : Mem), k34 x0 x1 x2 x3 x4 x5 x6 x8 M = some p → G κ mX8_state 0 0 34 [(0, .ref x0), (1, .int x1), (2, .int x2), (3, .int x3), (4, .int x4), (5, .int x5), (6, .long x6), (8, .int x8)] [] M) {x0 : Nat} {x1 : Int32} {x2 : Int32} {x3 : Int32} {x5 : Int32} {x6 : Int64} {x8 : Int32} {M : Mem} (h : fX8_state_152 k34 x0 x1 x2 x3 x5 x6 x8 M = some p) : G κ mX8_state 0 0 152 [(0, .ref x0), (1, .int x1), (2, .int x2), (3, .int x3), (5, .int x5), (6, .long x6), (8, .int x8)] [] M := by
  unfold fX8_state_152 at h
  refine g_iconst (v := 1) (pc' := 153) O dX8_state_152 (by decide) rfl ?_
  refine g_goto (pc' := 157) O dX8_state_153 (by decide) ?_
  exact tX8_state_157 O hf hk34 h
def fX8_state_126 (k34 : Nat → Int32 → Int32 → Int32 → Int32 → Int32 → Int64 → Int32 → Mem → Option (Int32 × Mem)) (x0 : Nat) (x1 : Int32) (x2 : Int32) (x3 : Int32) (x4 : Int32) (x6 : Int64) (x8 : Int32) (x10 : Int32) (s0 : Int32) (M : Mem) : Option (Int32 × Mem) :=
  if x10 = 0 then (fX8_state_176 k34 x0 x1 x2 x3 x4 s0 x6 x8 M)
  else (if x4 = 0 then (if x3 = 0 then (fX8_state_156 k34 x0 x1 x2 x3 s0 x6 x8 M)
  else ((gL M 5 x0 24).bind fun v1 =>
  if (lg_cmp v1 x6) = 0 then (fX8_state_156 k34 x0 x1 x2 x3 s0 x6 x8 M)
  else (fX8_state_152 k34 x0 x1 x2 x3 s0 x6 x8 M)))
  else (fX8_state_152 k34 x0 x1 x2 x3 s0 x6 x8 M))
set_option maxHeartbeats 4000000 in
set_option maxRecDepth 100000 in
theorem tX8_state_126 {κ : KT} {p : Int32 × Mem} (O : OkK κ mX8_state) (hf : κ.2.2.2.2.2.2.2.2.2.2.2.2.2 = (some (.int p.1), p.2)) {k34 : Nat → Int32 → Int32 → Int32 → Int32 → Int32 → Int64 → Int32 → Mem → Option (Int32 × Mem)} (hk34 : ∀ (x0 : Nat) (x1 : Int32) (x2 : Int32) (x3 : Int32) (x4 : Int32) (x5 : Int32) (x6 : Int64) (x8 : Int32) (M : Mem), k34 x0 x1 x2 x3 x4 x5 x6 x8 M = some p → G κ mX8_state 0 0 34 [(0, .ref x0), (1, .int x1), (2, .int x2), (3, .int x3), (4, .int x4), (5, .int x5), (6, .long x6), (8, .int x8)] [] M) {x0 : Nat} {x1 : Int32} {x2 : Int32} {x3 : Int32} {x4 : Int32} {x6 : Int64} {x8 : Int32} {x10 : Int32} {s0 : Int32} {M : Mem} (h : fX8_state_126 k34 x0 x1 x2 x3 x4 x6 x8 x10 s0 M = some p) : G κ mX8_state 0 0 126 [(0, .ref x0), (1, .int x1), (2, .int x2), (3, .int x3), (4, .int x4), (6, .long x6), (8, .int x8), (10, .int x10)] [.int s0] M := by
  unfold fX8_state_126 at h
  refine g_istore (lv' := [(5, .int s0), (0, .ref x0), (1, .int x1), (2, .int x2), (3, .int x3), (4, .int x4), (6, .long x6), (8, .int x8), (10, .int x10)]) (pc' := 128) O dX8_state_126 (by decide) rfl rfl ?_
  refine g_iload (pc' := 130) 8 O dX8_state_128 rfl rfl ?_
  refine g_if_eq (tgt := 176) (pc' := 133) O dX8_state_130 (by decide) rfl (fun hc => ?_) (fun hc => ?_)
  · replace h := ip hc h
    refine g_sub (lv' := [(0, .ref x0), (1, .int x1), (2, .int x2), (3, .int x3), (4, .int x4), (5, .int s0), (6, .long x6), (8, .int x8)]) [1, 2, 3, 4, 5, 0, 6, 7] rfl ?_
    exact tX8_state_176 O hf hk34 h
  · replace h := ine hc h
    refine g_iload (pc' := 135) 5 O dX8_state_133 rfl rfl ?_
    refine g_if_ne (tgt := 152) (pc' := 138) O dX8_state_135 (by decide) rfl (fun hc => ?_) (fun hc => ?_)
    · replace h := ine hc h
      refine g_sub (lv' := [(0, .ref x0), (1, .int x1), (2, .int x2), (3, .int x3), (5, .int s0), (6, .long x6), (8, .int x8)]) [1, 2, 3, 4, 0, 6, 7] rfl ?_
      exact tX8_state_152 O hf hk34 h
    · replace h := ip hc h
      refine g_iload_n (pc' := 139) 4 O dX8_state_138 rfl rfl rfl ?_
      refine g_if_eq (tgt := 156) (pc' := 142) O dX8_state_139 (by decide) rfl (fun hc => ?_) (fun hc => ?_)
      · replace h := ip hc h
        refine g_sub (lv' := [(0, .ref x0), (1, .int x1), (2, .int x2), (3, .int x3), (5, .int s0), (6, .long x6), (8, .int x8)]) [1, 2, 3, 4, 0, 6, 7] rfl ?_
        exact tX8_state_156 O hf hk34 h
      · replace h := ine hc h
        refine g_aload_n (pc' := 143) 1 O dX8_state_142 rfl rfl rfl ?_
        replace h := ob h; obtain ⟨v1, ev1, h⟩ := h
        refine g_getF (C := RX8) (T := TX8) (N := 29) (ci := 5) (k := 24) (pc' := 146) O dX8_state_143 rfl inX8 (by decide) tw_740 (gL_F ev1) rfl ?_
        refine g_lload (pc' := 148) 6 O dX8_state_146 rfl rfl ?_
        refine g_lcmp (pc' := 149) O dX8_state_148 rfl ?_
        refine g_if_eq (tgt := 156) (pc' := 152) O dX8_state_149 (by decide) rfl (fun hc => ?_) (fun hc => ?_)
        · replace h := ip hc h
          refine g_sub (lv' := [(0, .ref x0), (1, .int x1), (2, .int x2), (3, .int x3), (5, .int s0), (6, .long x6), (8, .int x8)]) [1, 2, 3, 4, 0, 6, 7] rfl ?_
          exact tX8_state_156 O hf hk34 h
        · replace h := ine hc h
          refine g_sub (lv' := [(0, .ref x0), (1, .int x1), (2, .int x2), (3, .int x3), (5, .int s0), (6, .long x6), (8, .int x8)]) [1, 2, 3, 4, 0, 6, 7] rfl ?_
          exact tX8_state_152 O hf hk34 h
def fX8_state_121 (k34 : Nat → Int32 → Int32 → Int32 → Int32 → Int32 → Int64 → Int32 → Mem → Option (Int32 × Mem)) (x0 : Nat) (x1 : Int32) (x2 : Int32) (x3 : Int32) (x4 : Int32) (x6 : Int64) (x8 : Int32) (x10 : Int32) (M : Mem) : Option (Int32 × Mem) :=
  fX8_state_126 k34 x0 x1 x2 x3 x4 x6 x8 x10 (1 : Int32) M
set_option maxHeartbeats 4000000 in
set_option maxRecDepth 100000 in
theorem tX8_state_121 {κ : KT} {p : Int32 × Mem} (O : OkK κ mX8_state) (hf : κ.2.2.2.2.2.2.2.2.2.2.2.2.2 = (some (.int p.1), p.2)) {k34 : Nat → Int32 → Int32 → Int32 → Int32 → Int32 → Int64 → Int32 → Mem → Option (Int32 × Mem)} (hk34 : ∀ (x0 : Nat) (x1 : Int32) (x2 : Int32) (x3 : Int32) (x4 : Int32) (x5 : Int32) (x6 : Int64) (x8 : Int32) (M : Mem), k34 x0 x1 x2 x3 x4 x5 x6 x8 M = some p → G κ mX8_state 0 0 34 [(0, .ref x0), (1, .int x1), (2, .int x2), (3, .int x3), (4, .int x4), (5, .int x5), (6, .long x6), (8, .int x8)] [] M) {x0 : Nat} {x1 : Int32} {x2 : Int32} {x3 : Int32} {x4 : Int32} {x6 : Int64} {x8 : Int32} {x10 : Int32} {M : Mem} (h : fX8_state_121 k34 x0 x1 x2 x3 x4 x6 x8 x10 M = some p) : G κ mX8_state 0 0 121 [(0, .ref x0), (1, .int x1), (2, .int x2), (3, .int x3), (4, .int x4), (6, .long x6), (8, .int x8), (10, .int x10)] [] M := by
  unfold fX8_state_121 at h
  refine g_iconst (v := 1) (pc' := 122) O dX8_state_121 (by decide) rfl ?_
  refine g_goto (pc' := 126) O dX8_state_122 (by decide) ?_
  exact tX8_state_126 O hf hk34 h
def fX8_state_109 (k34 : Nat → Int32 → Int32 → Int32 → Int32 → Int32 → Int64 → Int32 → Mem → Option (Int32 × Mem)) (x0 : Nat) (x1 : Int32) (x2 : Int32) (x3 : Int32) (x4 : Int32) (x5 : Int32) (x6 : Int64) (x8 : Int32) (x9 : Int32) (s0 : Int32) (M : Mem) : Option (Int32 × Mem) :=
  if x5 = 0 then (if x9 ≤ 0 then (fX8_state_126 k34 x0 x1 x2 x3 x4 x6 x8 s0 (0 : Int32) M)
  else (fX8_state_121 k34 x0 x1 x2 x3 x4 x6 x8 s0 M))
  else (fX8_state_121 k34 x0 x1 x2 x3 x4 x6 x8 s0 M)
set_option maxHeartbeats 4000000 in
set_option maxRecDepth 100000 in
theorem tX8_state_109 {κ : KT} {p : Int32 × Mem} (O : OkK κ mX8_state) (hf : κ.2.2.2.2.2.2.2.2.2.2.2.2.2 = (some (.int p.1), p.2)) {k34 : Nat → Int32 → Int32 → Int32 → Int32 → Int32 → Int64 → Int32 → Mem → Option (Int32 × Mem)} (hk34 : ∀ (x0 : Nat) (x1 : Int32) (x2 : Int32) (x3 : Int32) (x4 : Int32) (x5 : Int32) (x6 : Int64) (x8 : Int32) (M : Mem), k34 x0 x1 x2 x3 x4 x5 x6 x8 M = some p → G κ mX8_state 0 0 34 [(0, .ref x0), (1, .int x1), (2, .int x2), (3, .int x3), (4, .int x4), (5, .int x5), (6, .long x6), (8, .int x8)] [] M) {x0 : Nat} {x1 : Int32} {x2 : Int32} {x3 : Int32} {x4 : Int32} {x5 : Int32} {x6 : Int64} {x8 : Int32} {x9 : Int32} {s0 : Int32} {M : Mem} (h : fX8_state_109 k34 x0 x1 x2 x3 x4 x5 x6 x8 x9 s0 M = some p) : G κ mX8_state 0 0 109 [(0, .ref x0), (1, .int x1), (2, .int x2), (3, .int x3), (4, .int x4), (5, .int x5), (6, .long x6), (8, .int x8), (9, .int x9)] [.int s0] M := by
  unfold fX8_state_109 at h
  refine g_istore (lv' := [(10, .int s0), (0, .ref x0), (1, .int x1), (2, .int x2), (3, .int x3), (4, .int x4), (5, .int x5), (6, .long x6), (8, .int x8), (9, .int x9)]) (pc' := 111) O dX8_state_109 (by decide) rfl rfl ?_
  refine g_iload (pc' := 113) 6 O dX8_state_111 rfl rfl ?_
  refine g_if_ne (tgt := 121) (pc' := 116) O dX8_state_113 (by decide) rfl (fun hc => ?_) (fun hc => ?_)
  · replace h := ine hc h
    refine g_sub (lv' := [(0, .ref x0), (1, .int x1), (2, .int x2), (3, .int x3), (4, .int x4), (6, .long x6), (8, .int x8), (10, .int s0)]) [1, 2, 3, 4, 5, 7, 8, 0] rfl ?_
    exact tX8_state_121 O hf hk34 h
  · replace h := ip hc h
    refine g_iload (pc' := 118) 9 O dX8_state_116 rfl rfl ?_
    refine g_if_le (tgt := 125) (pc' := 121) O dX8_state_118 (by decide) rfl (fun hc => ?_) (fun hc => ?_)
    · replace h := ip hc h
      refine g_iconst (v := 0) (pc' := 126) O dX8_state_125 (by decide) rfl ?_
      refine g_sub (lv' := [(0, .ref x0), (1, .int x1), (2, .int x2), (3, .int x3), (4, .int x4), (6, .long x6), (8, .int x8), (10, .int s0)]) [1, 2, 3, 4, 5, 7, 8, 0] rfl ?_
      exact tX8_state_126 O hf hk34 h
    · replace h := ine hc h
      refine g_sub (lv' := [(0, .ref x0), (1, .int x1), (2, .int x2), (3, .int x3), (4, .int x4), (6, .long x6), (8, .int x8), (10, .int s0)]) [1, 2, 3, 4, 5, 7, 8, 0] rfl ?_
      exact tX8_state_121 O hf hk34 h
def fX8_state_108 (k34 : Nat → Int32 → Int32 → Int32 → Int32 → Int32 → Int64 → Int32 → Mem → Option (Int32 × Mem)) (x0 : Nat) (x1 : Int32) (x2 : Int32) (x3 : Int32) (x4 : Int32) (x5 : Int32) (x6 : Int64) (x8 : Int32) (x9 : Int32) (M : Mem) : Option (Int32 × Mem) :=
  fX8_state_109 k34 x0 x1 x2 x3 x4 x5 x6 x8 x9 (0 : Int32) M
set_option maxHeartbeats 4000000 in
set_option maxRecDepth 100000 in
theorem tX8_state_108 {κ : KT} {p : Int32 × Mem} (O : OkK κ mX8_state) (hf : κ.2.2.2.2.2.2.2.2.2.2.2.2.2 = (some (.int p.1), p.2)) {k34 : Nat → Int32 → Int32 → Int32 → Int32 → Int32 → Int64 → Int32 → Mem → Option (Int32 × Mem)} (hk34 : ∀ (x0 : Nat) (x1 : Int32) (x2 : Int32) (x3 : Int32) (x4 : Int32) (x5 : Int32) (x6 : Int64) (x8 : Int32) (M : Mem), k34 x0 x1 x2 x3 x4 x5 x6 x8 M = some p → G κ mX8_state 0 0 34 [(0, .ref x0), (1, .int x1), (2, .int x2), (3, .int x3), (4, .int x4), (5, .int x5), (6, .long x6), (8, .int x8)] [] M) {x0 : Nat} {x1 : Int32} {x2 : Int32} {x3 : Int32} {x4 : Int32} {x5 : Int32} {x6 : Int64} {x8 : Int32} {x9 : Int32} {M : Mem} (h : fX8_state_108 k34 x0 x1 x2 x3 x4 x5 x6 x8 x9 M = some p) : G κ mX8_state 0 0 108 [(0, .ref x0), (1, .int x1), (2, .int x2), (3, .int x3), (4, .int x4), (5, .int x5), (6, .long x6), (8, .int x8), (9, .int x9)] [] M := by
  unfold fX8_state_108 at h
  refine g_iconst (v := 0) (pc' := 109) O dX8_state_108 (by decide) rfl ?_
  exact tX8_state_109 O hf hk34 h
def fX8_state_34  : Nat → Nat → Int32 → Int32 → Int32 → Int32 → Int32 → Int64 → Int32 → Mem → Option (Int32 × Mem)
  | 0, _, _, _, _, _, _, _, _, _ => none
  | n + 1, x0, x1, x2, x3, x4, x5, x6, x8, M =>
    (gN M 5 x0 1).bind fun v1 =>
    (aI M v1 (0 : Int32)).bind fun v2 =>
    if v2 ≤ x8 then (if x3 = 0 then (if x5 = 0 then (fX8_state_209 (3 : Int32) M)
    else (fX8_state_209 (1 : Int32) M))
    else (if x4 = 0 then (fX8_state_209 (0 : Int32) M)
    else (fX8_state_209 (2 : Int32) M)))
    else (if ((x1 >>> (x8 &&& 31)) &&& (1 : Int32)) = 0 then (fX8_state_176 (fX8_state_34 n) x0 x1 x2 x3 x4 x5 x6 x8 M)
    else ((gI M 5 x0 20).bind fun v3 =>
    (ck M 5 x0).bind fun u4 =>
    (fX8_held x0 x8 x2 v3 M).bind fun r5 =>
    if r5.1 = (2 : Int32) then ((gL r5.2 5 x0 24).bind fun v6 =>
    (gN r5.2 5 x0 12).bind fun v7 =>
    (aL r5.2 v7 x2).bind fun v8 =>
    if (lg_cmp v6 v8) < 0 then (fX8_state_108 (fX8_state_34 n) x0 x1 x2 x3 x4 x5 x6 x8 r5.1 r5.2)
    else ((gL r5.2 5 x0 24).bind fun v9 =>
    (gN r5.2 5 x0 13).bind fun v10 =>
    (aL r5.2 v10 x2).bind fun v11 =>
    if 0 < (lg_cmp v9 v11) then (fX8_state_108 (fX8_state_34 n) x0 x1 x2 x3 x4 x5 x6 x8 r5.1 r5.2)
    else (fX8_state_109 (fX8_state_34 n) x0 x1 x2 x3 x4 x5 x6 x8 r5.1 (1 : Int32) r5.2)))
    else (fX8_state_108 (fX8_state_34 n) x0 x1 x2 x3 x4 x5 x6 x8 r5.1 r5.2)))
set_option maxHeartbeats 4000000 in
set_option maxRecDepth 100000 in
theorem tX8_state_34 {κ : KT} {p : Int32 × Mem} (O : OkK κ mX8_state) (hf : κ.2.2.2.2.2.2.2.2.2.2.2.2.2 = (some (.int p.1), p.2))  : ∀ (n : Nat) (x0 : Nat) (x1 : Int32) (x2 : Int32) (x3 : Int32) (x4 : Int32) (x5 : Int32) (x6 : Int64) (x8 : Int32) (M : Mem), fX8_state_34  n x0 x1 x2 x3 x4 x5 x6 x8 M = some p → G κ mX8_state 0 0 34 [(0, .ref x0), (1, .int x1), (2, .int x2), (3, .int x3), (4, .int x4), (5, .int x5), (6, .long x6), (8, .int x8)] [] M := by
  intro n
  induction n with
  | zero => intro x0 x1 x2 x3 x4 x5 x6 x8 M h; cases h
  | succ n ih =>
    intro x0 x1 x2 x3 x4 x5 x6 x8 M h
    rw [fX8_state_34] at h
    refine g_iload (pc' := 36) 7 O dX8_state_34 rfl rfl ?_
    refine g_aload_n (pc' := 37) 0 O dX8_state_36 rfl rfl rfl ?_
    replace h := ob h; obtain ⟨v1, ev1, h⟩ := h
    refine g_getF (C := RX8) (T := TX8) (N := 29) (ci := 5) (k := 1) (pc' := 40) O dX8_state_37 rfl inX8 (by decide) tw_717 (gN_F ev1) rfl ?_
    refine g_iconst (v := 0) (pc' := 41) O dX8_state_40 (by decide) rfl ?_
    replace h := ob h; obtain ⟨v2, ev2, h⟩ := h
    refine g_iald (pc' := 42) O dX8_state_41 ev2 rfl ?_
    refine g_icmp_ge (tgt := 182) (pc' := 45) O dX8_state_42 (by decide) rfl (fun hc => ?_) (fun hc => ?_)
    · replace h := ip hc h
      refine g_iload_n (pc' := 183) 3 O dX8_state_182 rfl rfl rfl ?_
      refine g_if_eq (tgt := 199) (pc' := 186) O dX8_state_183 (by decide) rfl (fun hc => ?_) (fun hc => ?_)
      · replace h := ip hc h
        refine g_iload (pc' := 201) 5 O dX8_state_199 rfl rfl ?_
        refine g_if_eq (tgt := 208) (pc' := 204) O dX8_state_201 (by decide) rfl (fun hc => ?_) (fun hc => ?_)
        · replace h := ip hc h
          refine g_iconst (v := 3) (pc' := 209) O dX8_state_208 (by decide) rfl ?_
          refine g_sub (lv' := []) [] rfl ?_
          exact tX8_state_209 O hf h
        · replace h := ine hc h
          refine g_iconst (v := 1) (pc' := 205) O dX8_state_204 (by decide) rfl ?_
          refine g_goto (pc' := 209) O dX8_state_205 (by decide) ?_
          refine g_sub (lv' := []) [] rfl ?_
          exact tX8_state_209 O hf h
      · replace h := ine hc h
        refine g_iload (pc' := 188) 4 O dX8_state_186 rfl rfl ?_
        refine g_if_eq (tgt := 195) (pc' := 191) O dX8_state_188 (by decide) rfl (fun hc => ?_) (fun hc => ?_)
        · replace h := ip hc h
          refine g_iconst (v := 0) (pc' := 196) O dX8_state_195 (by decide) rfl ?_
          refine g_goto (pc' := 209) O dX8_state_196 (by decide) ?_
          refine g_sub (lv' := []) [] rfl ?_
          exact tX8_state_209 O hf h
        · replace h := ine hc h
          refine g_iconst (v := 2) (pc' := 192) O dX8_state_191 (by decide) rfl ?_
          refine g_goto (pc' := 209) O dX8_state_192 (by decide) ?_
          refine g_sub (lv' := []) [] rfl ?_
          exact tX8_state_209 O hf h
    · replace h := ine hc h
      refine g_iload_n (pc' := 46) 1 O dX8_state_45 rfl rfl rfl ?_
      refine g_iload (pc' := 48) 7 O dX8_state_46 rfl rfl ?_
      refine g_ishr (pc' := 49) O dX8_state_48 rfl ?_
      refine g_iconst (v := 1) (pc' := 50) O dX8_state_49 (by decide) rfl ?_
      refine g_iand (pc' := 51) O dX8_state_50 rfl ?_
      refine g_if_ne (tgt := 57) (pc' := 54) O dX8_state_51 (by decide) rfl (fun hc => ?_) (fun hc => ?_)
      · replace h := ine hc h
        refine g_aload_n (pc' := 58) 0 O dX8_state_57 rfl rfl rfl ?_
        refine g_iload (pc' := 60) 7 O dX8_state_58 rfl rfl ?_
        refine g_iload_n (pc' := 61) 2 O dX8_state_60 rfl rfl rfl ?_
        refine g_aload_n (pc' := 62) 0 O dX8_state_61 rfl rfl rfl ?_
        replace h := ob h; obtain ⟨v3, ev3, h⟩ := h
        refine g_getF (C := RX8) (T := TX8) (N := 29) (ci := 5) (k := 20) (pc' := 65) O dX8_state_62 rfl inX8 (by decide) tw_736 (gI_F ev3) rfl ?_
        replace h := ob h; obtain ⟨u4, eu4, h⟩ := h
        replace h := ob h; obtain ⟨r5, er5, h⟩ := h
        refine g_callV (y := yX8_held) (ν := mX8_held) (n := 3) (As := [.int x8, .int x2, .int v3]) (b := x0) (st := []) (M2 := r5.2) (r1 := (some (.int r5.1))) (pc' := 68) O dX8_state_65 tw_847 tw_58 tw_846 tw_22 tw_844 hyX8_held rfl rfl eu4 (okX8_held er5) (Nat.le_of_ble_eq_true rfl) ⟨Nat.le_of_ble_eq_true rfl, Nat.le_of_ble_eq_true rfl⟩ ⟨Nat.le_of_ble_eq_true rfl, Nat.le_of_ble_eq_true rfl⟩ rfl ?_
        show G κ mX8_state 0 0 68 [(0, .ref x0), (1, .int x1), (2, .int x2), (3, .int x3), (4, .int x4), (5, .int x5), (6, .long x6), (8, .int x8)] [.int r5.1] r5.2
        refine g_istore (lv' := [(9, .int r5.1), (0, .ref x0), (1, .int x1), (2, .int x2), (3, .int x3), (4, .int x4), (5, .int x5), (6, .long x6), (8, .int x8)]) (pc' := 70) O dX8_state_68 (by decide) rfl rfl ?_
        refine g_iload (pc' := 72) 0 O dX8_state_70 rfl rfl ?_
        refine g_iconst (v := 2) (pc' := 73) O dX8_state_72 (by decide) rfl ?_
        refine g_icmp_ne (tgt := 108) (pc' := 76) O dX8_state_73 (by decide) rfl (fun hc => ?_) (fun hc => ?_)
        · replace h := ine hc h
          refine g_sub (lv' := [(0, .ref x0), (1, .int x1), (2, .int x2), (3, .int x3), (4, .int x4), (5, .int x5), (6, .long x6), (8, .int x8), (9, .int r5.1)]) [1, 2, 3, 4, 5, 6, 7, 8, 0] rfl ?_
          exact tX8_state_108 O hf ih h
        · replace h := ip hc h
          refine g_aload_n (pc' := 77) 1 O dX8_state_76 rfl rfl rfl ?_
          replace h := ob h; obtain ⟨v6, ev6, h⟩ := h
          refine g_getF (C := RX8) (T := TX8) (N := 29) (ci := 5) (k := 24) (pc' := 80) O dX8_state_77 rfl inX8 (by decide) tw_740 (gL_F ev6) rfl ?_
          refine g_aload_n (pc' := 81) 1 O dX8_state_80 rfl rfl rfl ?_
          replace h := ob h; obtain ⟨v7, ev7, h⟩ := h
          refine g_getF (C := RX8) (T := TX8) (N := 29) (ci := 5) (k := 12) (pc' := 84) O dX8_state_81 rfl inX8 (by decide) tw_728 (gN_F ev7) rfl ?_
          refine g_iload_n (pc' := 85) 3 O dX8_state_84 rfl rfl rfl ?_
          replace h := ob h; obtain ⟨v8, ev8, h⟩ := h
          refine g_lald (pc' := 86) O dX8_state_85 ev8 rfl ?_
          refine g_lcmp (pc' := 87) O dX8_state_86 rfl ?_
          refine g_if_lt (tgt := 108) (pc' := 90) O dX8_state_87 (by decide) rfl (fun hc => ?_) (fun hc => ?_)
          · replace h := ip hc h
            refine g_sub (lv' := [(0, .ref x0), (1, .int x1), (2, .int x2), (3, .int x3), (4, .int x4), (5, .int x5), (6, .long x6), (8, .int x8), (9, .int r5.1)]) [1, 2, 3, 4, 5, 6, 7, 8, 0] rfl ?_
            exact tX8_state_108 O hf ih h
          · replace h := ine hc h
            refine g_aload_n (pc' := 91) 1 O dX8_state_90 rfl rfl rfl ?_
            replace h := ob h; obtain ⟨v9, ev9, h⟩ := h
            refine g_getF (C := RX8) (T := TX8) (N := 29) (ci := 5) (k := 24) (pc' := 94) O dX8_state_91 rfl inX8 (by decide) tw_740 (gL_F ev9) rfl ?_
            refine g_aload_n (pc' := 95) 1 O dX8_state_94 rfl rfl rfl ?_
            replace h := ob h; obtain ⟨v10, ev10, h⟩ := h
            refine g_getF (C := RX8) (T := TX8) (N := 29) (ci := 5) (k := 13) (pc' := 98) O dX8_state_95 rfl inX8 (by decide) tw_729 (gN_F ev10) rfl ?_
            refine g_iload_n (pc' := 99) 3 O dX8_state_98 rfl rfl rfl ?_
            replace h := ob h; obtain ⟨v11, ev11, h⟩ := h
            refine g_lald (pc' := 100) O dX8_state_99 ev11 rfl ?_
            refine g_lcmp (pc' := 101) O dX8_state_100 rfl ?_
            refine g_if_gt (tgt := 108) (pc' := 104) O dX8_state_101 (by decide) rfl (fun hc => ?_) (fun hc => ?_)
            · replace h := ip hc h
              refine g_sub (lv' := [(0, .ref x0), (1, .int x1), (2, .int x2), (3, .int x3), (4, .int x4), (5, .int x5), (6, .long x6), (8, .int x8), (9, .int r5.1)]) [1, 2, 3, 4, 5, 6, 7, 8, 0] rfl ?_
              exact tX8_state_108 O hf ih h
            · replace h := ine hc h
              refine g_iconst (v := 1) (pc' := 105) O dX8_state_104 (by decide) rfl ?_
              refine g_goto (pc' := 109) O dX8_state_105 (by decide) ?_
              refine g_sub (lv' := [(0, .ref x0), (1, .int x1), (2, .int x2), (3, .int x3), (4, .int x4), (5, .int x5), (6, .long x6), (8, .int x8), (9, .int r5.1)]) [1, 2, 3, 4, 5, 6, 7, 8, 0] rfl ?_
              exact tX8_state_109 O hf ih h
      · replace h := ip hc h
        refine g_goto (pc' := 176) O dX8_state_54 (by decide) ?_
        exact tX8_state_176 O hf ih h
def fX8_state  (this : Nat) (p0 : Int32) (p1 : Int32) (M : Mem) : Option (Int32 × Mem) :=
  (pF M 5 this 0 (.int (0 : Int32))).bind fun M1 =>
  (fX8_in p1 (0 : Int32) (2 : Int32) M1).bind fun r2 =>
  if r2.1 = 0 then (some ((-1 : Int32), r2.2))
  else ((ck r2.2 5 this).bind fun u3 =>
  (fX8_lineText this r2.2).bind fun r4 =>
  fX8_state_34 FU this p0 p1 (0 : Int32) (0 : Int32) (0 : Int32) (0 : Int64) (0 : Int32) r4)
set_option maxHeartbeats 4000000 in
set_option maxRecDepth 100000 in
theorem okX8_state {l : Launch} {p : Int32 × Mem} {this : Nat} {p0 : Int32} {p1 : Int32} {M : Mem} (h : fX8_state this p0 p1 M = some p) : Cn l yX8_state mX8_state [.ref this, .int p0, .int p1] M (some (.int p.1)) p.2 := by
  refine Cn.of [(0, .ref this), (1, .int p0), (2, .int p1)] (by decide) rfl rfl (Nat.le_of_ble_eq_true rfl) rfl (fun κ _ hf O => ?_)
  unfold fX8_state at h
  refine g_aload_n (pc' := 1) 0 O dX8_state_0 rfl rfl rfl ?_
  refine g_iconst (v := 0) (pc' := 2) O dX8_state_1 (by decide) rfl ?_
  replace h := ob h; obtain ⟨M1, eM1, h⟩ := h
  refine g_putF (C := RX8) (T := TX8) (N := 29) (ci := 5) (k := 0) (pc' := 5) O dX8_state_2 rfl inX8 (by decide) tw_716 tyX8 tyX8_ok nmX8 rfl rfl rfl rfl eM1 rfl ?_
  refine g_iload_n (pc' := 6) 2 O dX8_state_5 rfl rfl rfl ?_
  refine g_iconst (v := 0) (pc' := 7) O dX8_state_6 (by decide) rfl ?_
  refine g_iconst (v := 2) (pc' := 8) O dX8_state_7 (by decide) rfl ?_
  replace h := ob h; obtain ⟨r2, er2, h⟩ := h
  refine g_callS (y := yX8_in) (ν := mX8_in) (n := 3) (As := [.int p1, .int (0 : Int32), .int (2 : Int32)]) (b := 0) (st := []) (M2 := r2.2) (r1 := (some (.int r2.1))) (pc' := 11) O dX8_state_8 tw_811 tw_58 tw_810 tw_809 hyX8_in rfl (okX8_in er2) (Nat.le_of_ble_eq_true rfl) ⟨Nat.le_of_ble_eq_true rfl, Nat.le_of_ble_eq_true rfl⟩ ⟨Nat.le_of_ble_eq_true rfl, Nat.le_of_ble_eq_true rfl⟩ rfl ?_
  show G κ mX8_state 0 0 11 [(0, .ref this), (1, .int p0), (2, .int p1)] [.int r2.1] r2.2
  refine g_if_ne (tgt := 16) (pc' := 14) O dX8_state_11 (by decide) rfl (fun hc => ?_) (fun hc => ?_)
  · replace h := ine hc h
    refine g_aload_n (pc' := 17) 0 O dX8_state_16 rfl rfl rfl ?_
    replace h := ob h; obtain ⟨u3, eu3, h⟩ := h
    replace h := ob h; obtain ⟨r4, er4, h⟩ := h
    refine g_callV (y := yX8_lineText) (ν := mX8_lineText) (n := 0) (As := []) (b := this) (st := []) (M2 := r4) (r1 := none) (pc' := 20) O dX8_state_17 tw_839 tw_58 tw_838 tw_20 tw_836 hyX8_lineText rfl rfl eu3 (okX8_lineText er4) (Nat.le_of_ble_eq_true rfl) ⟨Nat.le_of_ble_eq_true rfl, Nat.le_of_ble_eq_true rfl⟩ ⟨Nat.le_of_ble_eq_true rfl, Nat.le_of_ble_eq_true rfl⟩ rfl ?_
    show G κ mX8_state 0 0 20 [(0, .ref this), (1, .int p0), (2, .int p1)] [] r4
    refine g_iconst (v := 0) (pc' := 21) O dX8_state_20 (by decide) rfl ?_
    refine g_istore_n (lv' := [(3, .int (0 : Int32)), (0, .ref this), (1, .int p0), (2, .int p1)]) (pc' := 22) O dX8_state_21 rfl (by decide) rfl rfl ?_
    refine g_iconst (v := 0) (pc' := 23) O dX8_state_22 (by decide) rfl ?_
    refine g_istore (lv' := [(4, .int (0 : Int32)), (3, .int (0 : Int32)), (0, .ref this), (1, .int p0), (2, .int p1)]) (pc' := 25) O dX8_state_23 (by decide) rfl rfl ?_
    refine g_iconst (v := 0) (pc' := 26) O dX8_state_25 (by decide) rfl ?_
    refine g_istore (lv' := [(5, .int (0 : Int32)), (4, .int (0 : Int32)), (3, .int (0 : Int32)), (0, .ref this), (1, .int p0), (2, .int p1)]) (pc' := 28) O dX8_state_26 (by decide) rfl rfl ?_
    refine g_lconst (v := 0) (pc' := 29) O dX8_state_28 (by decide) rfl ?_
    refine g_lstore (lv' := [(6, .long (0 : Int64)), (5, .int (0 : Int32)), (4, .int (0 : Int32)), (3, .int (0 : Int32)), (0, .ref this), (1, .int p0), (2, .int p1)]) (pc' := 31) O dX8_state_29 (by decide) rfl rfl ?_
    refine g_iconst (v := 0) (pc' := 32) O dX8_state_31 (by decide) rfl ?_
    refine g_istore (lv' := [(8, .int (0 : Int32)), (6, .long (0 : Int64)), (5, .int (0 : Int32)), (4, .int (0 : Int32)), (3, .int (0 : Int32)), (0, .ref this), (1, .int p0), (2, .int p1)]) (pc' := 34) O dX8_state_32 (by decide) rfl rfl ?_
    refine g_sub (lv' := [(0, .ref this), (1, .int p0), (2, .int p1), (3, .int (0 : Int32)), (4, .int (0 : Int32)), (5, .int (0 : Int32)), (6, .long (0 : Int64)), (8, .int (0 : Int32))]) [5, 6, 7, 4, 3, 2, 1, 0] rfl ?_
    exact tX8_state_34 O hf FU this p0 p1 (0 : Int32) (0 : Int32) (0 : Int32) (0 : Int64) (0 : Int32) r4 h
  · replace h := ip hc h
    refine g_iconst (v := -1) (pc' := 15) O dX8_state_14 (by decide) rfl ?_
    cases h
    exact g_ireturn O dX8_state_15 rfl rfl hf (by decide) (by decide)
abbrev mX8_say : MD := (cX8_say, 2, RX8, none, { frames := 0, cells := 0, slots := 0, locals := 0 }, "say")
theorem hyX8_say : yX8_say.cls ≠ "java/lang/invoke/MethodHandle" ∧ yX8_say.cls ≠ "java/lang/invoke/VarHandle" ∧ (parseMethodDescriptor yX8_say.desc).map (fun d => d.parameters.length) = some 1 := by decide +kernel
def fX8_say  (this : Nat) (p0 : Int32) (M : Mem) : Option (Mem) :=
  (gN M 5 this 25).bind fun v1 =>
  (gI M 5 this 26).bind fun v2 =>
  (sI M v1 v2 p0).bind fun M3 =>
  (gI M3 5 this 26).bind fun v4 =>
  (pF M3 5 this 26 (.int (v4 + (1 : Int32)))).bind fun M5 =>
  some M5
set_option maxHeartbeats 4000000 in
set_option maxRecDepth 100000 in
theorem okX8_say {l : Launch} {p : Mem} {this : Nat} {p0 : Int32} {M : Mem} (h : fX8_say this p0 M = some p) : Cn l yX8_say mX8_say [.ref this, .int p0] M none p := by
  refine Cn.of [(0, .ref this), (1, .int p0)] (by decide) rfl rfl (Nat.le_of_ble_eq_true rfl) rfl (fun κ _ hf O => ?_)
  unfold fX8_say at h
  refine g_aload_n (pc' := 1) 0 O dX8_say_0 rfl rfl rfl ?_
  replace h := ob h; obtain ⟨v1, ev1, h⟩ := h
  refine g_getF (C := RX8) (T := TX8) (N := 29) (ci := 5) (k := 25) (pc' := 4) O dX8_say_1 rfl inX8 (by decide) tw_741 (gN_F ev1) rfl ?_
  refine g_aload_n (pc' := 5) 0 O dX8_say_4 rfl rfl rfl ?_
  replace h := ob h; obtain ⟨v2, ev2, h⟩ := h
  refine g_getF (C := RX8) (T := TX8) (N := 29) (ci := 5) (k := 26) (pc' := 8) O dX8_say_5 rfl inX8 (by decide) tw_742 (gI_F ev2) rfl ?_
  refine g_iload_n (pc' := 9) 1 O dX8_say_8 rfl rfl rfl ?_
  replace h := ob h; obtain ⟨M3, eM3, h⟩ := h
  refine g_iast (pc' := 10) O dX8_say_9 eM3 rfl ?_
  refine g_aload_n (pc' := 11) 0 O dX8_say_10 rfl rfl rfl ?_
  refine g_dup (pc' := 12) O dX8_say_11 rfl rfl ?_
  replace h := ob h; obtain ⟨v4, ev4, h⟩ := h
  refine g_getF (C := RX8) (T := TX8) (N := 29) (ci := 5) (k := 26) (pc' := 15) O dX8_say_12 rfl inX8 (by decide) tw_742 (gI_F ev4) rfl ?_
  refine g_iconst (v := 1) (pc' := 16) O dX8_say_15 (by decide) rfl ?_
  refine g_iadd (pc' := 17) O dX8_say_16 rfl ?_
  replace h := ob h; obtain ⟨M5, eM5, h⟩ := h
  refine g_putF (C := RX8) (T := TX8) (N := 29) (ci := 5) (k := 26) (pc' := 20) O dX8_say_17 rfl inX8 (by decide) tw_742 tyX8 tyX8_ok nmX8 rfl rfl rfl rfl eM5 rfl ?_
  cases h
  exact g_vreturn O dX8_say_20 rfl hf (by decide) (by decide)
abbrev mX8_sayMark : MD := (cX8_sayMark, 2, RX8, none, { frames := 1, cells := 0, slots := 0, locals := 21 }, "sayMark")
theorem hyX8_sayMark : yX8_sayMark.cls ≠ "java/lang/invoke/MethodHandle" ∧ yX8_sayMark.cls ≠ "java/lang/invoke/VarHandle" ∧ (parseMethodDescriptor yX8_sayMark.desc).map (fun d => d.parameters.length) = some 1 := by decide +kernel
def fX8_sayMark  (this : Nat) (p0 : Int32) (M : Mem) : Option (Mem) :=
  (gN M 5 this 6).bind fun v1 =>
  (aI M v1 p0).bind fun v2 =>
  (ck M 5 this).bind fun u3 =>
  (fX8_say this ((v2 >>> ((16 : Int32) &&& 31)) &&& (255 : Int32)) M).bind fun r4 =>
  (gN r4 5 this 6).bind fun v5 =>
  (aI r4 v5 p0).bind fun v6 =>
  (ck r4 5 this).bind fun u7 =>
  (fX8_say this ((v6 >>> ((8 : Int32) &&& 31)) &&& (255 : Int32)) r4).bind fun r8 =>
  (gN r8 5 this 6).bind fun v9 =>
  (aI r8 v9 p0).bind fun v10 =>
  (ck r8 5 this).bind fun u11 =>
  (fX8_say this (v10 &&& (255 : Int32)) r8).bind fun r12 =>
  some r12
set_option maxHeartbeats 4000000 in
set_option maxRecDepth 100000 in
theorem okX8_sayMark {l : Launch} {p : Mem} {this : Nat} {p0 : Int32} {M : Mem} (h : fX8_sayMark this p0 M = some p) : Cn l yX8_sayMark mX8_sayMark [.ref this, .int p0] M none p := by
  refine Cn.of [(0, .ref this), (1, .int p0)] (by decide) rfl rfl (Nat.le_of_ble_eq_true rfl) rfl (fun κ _ hf O => ?_)
  unfold fX8_sayMark at h
  refine g_aload_n (pc' := 1) 0 O dX8_sayMark_0 rfl rfl rfl ?_
  refine g_aload_n (pc' := 2) 0 O dX8_sayMark_1 rfl rfl rfl ?_
  replace h := ob h; obtain ⟨v1, ev1, h⟩ := h
  refine g_getF (C := RX8) (T := TX8) (N := 29) (ci := 5) (k := 6) (pc' := 5) O dX8_sayMark_2 rfl inX8 (by decide) tw_722 (gN_F ev1) rfl ?_
  refine g_iload_n (pc' := 6) 1 O dX8_sayMark_5 rfl rfl rfl ?_
  replace h := ob h; obtain ⟨v2, ev2, h⟩ := h
  refine g_iald (pc' := 7) O dX8_sayMark_6 ev2 rfl ?_
  refine g_bipush (v := 16) (pc' := 9) O dX8_sayMark_7 (by decide) rfl ?_
  refine g_ishr (pc' := 10) O dX8_sayMark_9 rfl ?_
  refine g_sipush (v := 255) (pc' := 13) O dX8_sayMark_10 (by decide) rfl ?_
  refine g_iand (pc' := 14) O dX8_sayMark_13 rfl ?_
  replace h := ob h; obtain ⟨u3, eu3, h⟩ := h
  replace h := ob h; obtain ⟨r4, er4, h⟩ := h
  refine g_callV (y := yX8_say) (ν := mX8_say) (n := 1) (As := [.int ((v2 >>> ((16 : Int32) &&& 31)) &&& (255 : Int32))]) (b := this) (st := []) (M2 := r4) (r1 := none) (pc' := 17) O dX8_sayMark_14 tw_939 tw_58 tw_938 tw_37 tw_936 hyX8_say rfl rfl eu3 (okX8_say er4) (Nat.le_of_ble_eq_true rfl) ⟨Nat.le_of_ble_eq_true rfl, Nat.le_of_ble_eq_true rfl⟩ ⟨Nat.le_of_ble_eq_true rfl, Nat.le_of_ble_eq_true rfl⟩ rfl ?_
  show G κ mX8_sayMark 0 0 17 [(0, .ref this), (1, .int p0)] [] r4
  refine g_aload_n (pc' := 18) 0 O dX8_sayMark_17 rfl rfl rfl ?_
  refine g_aload_n (pc' := 19) 0 O dX8_sayMark_18 rfl rfl rfl ?_
  replace h := ob h; obtain ⟨v5, ev5, h⟩ := h
  refine g_getF (C := RX8) (T := TX8) (N := 29) (ci := 5) (k := 6) (pc' := 22) O dX8_sayMark_19 rfl inX8 (by decide) tw_722 (gN_F ev5) rfl ?_
  refine g_iload_n (pc' := 23) 1 O dX8_sayMark_22 rfl rfl rfl ?_
  replace h := ob h; obtain ⟨v6, ev6, h⟩ := h
  refine g_iald (pc' := 24) O dX8_sayMark_23 ev6 rfl ?_
  refine g_bipush (v := 8) (pc' := 26) O dX8_sayMark_24 (by decide) rfl ?_
  refine g_ishr (pc' := 27) O dX8_sayMark_26 rfl ?_
  refine g_sipush (v := 255) (pc' := 30) O dX8_sayMark_27 (by decide) rfl ?_
  refine g_iand (pc' := 31) O dX8_sayMark_30 rfl ?_
  replace h := ob h; obtain ⟨u7, eu7, h⟩ := h
  replace h := ob h; obtain ⟨r8, er8, h⟩ := h
  refine g_callV (y := yX8_say) (ν := mX8_say) (n := 1) (As := [.int ((v6 >>> ((8 : Int32) &&& 31)) &&& (255 : Int32))]) (b := this) (st := []) (M2 := r8) (r1 := none) (pc' := 34) O dX8_sayMark_31 tw_939 tw_58 tw_938 tw_37 tw_936 hyX8_say rfl rfl eu7 (okX8_say er8) (Nat.le_of_ble_eq_true rfl) ⟨Nat.le_of_ble_eq_true rfl, Nat.le_of_ble_eq_true rfl⟩ ⟨Nat.le_of_ble_eq_true rfl, Nat.le_of_ble_eq_true rfl⟩ rfl ?_
  show G κ mX8_sayMark 0 0 34 [(0, .ref this), (1, .int p0)] [] r8
  refine g_aload_n (pc' := 35) 0 O dX8_sayMark_34 rfl rfl rfl ?_
  refine g_aload_n (pc' := 36) 0 O dX8_sayMark_35 rfl rfl rfl ?_
  replace h := ob h; obtain ⟨v9, ev9, h⟩ := h
  refine g_getF (C := RX8) (T := TX8) (N := 29) (ci := 5) (k := 6) (pc' := 39) O dX8_sayMark_36 rfl inX8 (by decide) tw_722 (gN_F ev9) rfl ?_
  refine g_iload_n (pc' := 40) 1 O dX8_sayMark_39 rfl rfl rfl ?_
  replace h := ob h; obtain ⟨v10, ev10, h⟩ := h
  refine g_iald (pc' := 41) O dX8_sayMark_40 ev10 rfl ?_
  refine g_sipush (v := 255) (pc' := 44) O dX8_sayMark_41 (by decide) rfl ?_
  refine g_iand (pc' := 45) O dX8_sayMark_44 rfl ?_
  replace h := ob h; obtain ⟨u11, eu11, h⟩ := h
  replace h := ob h; obtain ⟨r12, er12, h⟩ := h
  refine g_callV (y := yX8_say) (ν := mX8_say) (n := 1) (As := [.int (v10 &&& (255 : Int32))]) (b := this) (st := []) (M2 := r12) (r1 := none) (pc' := 48) O dX8_sayMark_45 tw_939 tw_58 tw_938 tw_37 tw_936 hyX8_say rfl rfl eu11 (okX8_say er12) (Nat.le_of_ble_eq_true rfl) ⟨Nat.le_of_ble_eq_true rfl, Nat.le_of_ble_eq_true rfl⟩ ⟨Nat.le_of_ble_eq_true rfl, Nat.le_of_ble_eq_true rfl⟩ rfl ?_
  show G κ mX8_sayMark 0 0 48 [(0, .ref this), (1, .int p0)] [] r12
  cases h
  exact g_vreturn O dX8_sayMark_48 rfl hf (by decide) (by decide)
abbrev mX8_sayDigits : MD := (cX8_sayDigits, 5, RX8, none, { frames := 1, cells := 0, slots := 0, locals := 21 }, "sayDigits")
theorem hyX8_sayDigits : yX8_sayDigits.cls ≠ "java/lang/invoke/MethodHandle" ∧ yX8_sayDigits.cls ≠ "java/lang/invoke/VarHandle" ∧ (parseMethodDescriptor yX8_sayDigits.desc).map (fun d => d.parameters.length) = some 2 := by decide +kernel
def fX8_sayDigits_25  : Nat → Nat → Int32 → Int32 → Int32 → Int32 → Mem → Option (Mem)
  | 0, _, _, _, _, _, _ => none
  | n + 1, x0, x1, x2, x3, x4, M =>
    if x2 ≤ x4 then (some M)
    else ((dzI x3).bind fun z1 =>
    (ck M 5 x0).bind fun u2 =>
    (fX8_say x0 ((48 : Int32) + (rmI (x1 / x3) (10 : Int32))) M).bind fun r3 =>
    fX8_sayDigits_25 n x0 x1 x2 (x3 / (10 : Int32)) (x4 + (1 : Int32)) r3)
set_option maxHeartbeats 4000000 in
set_option maxRecDepth 100000 in
theorem tX8_sayDigits_25 {κ : KT} {p : Mem} (O : OkK κ mX8_sayDigits) (hf : κ.2.2.2.2.2.2.2.2.2.2.2.2.2 = (none, p))  : ∀ (n : Nat) (x0 : Nat) (x1 : Int32) (x2 : Int32) (x3 : Int32) (x4 : Int32) (M : Mem), fX8_sayDigits_25  n x0 x1 x2 x3 x4 M = some p → G κ mX8_sayDigits 0 0 25 [(0, .ref x0), (1, .int x1), (2, .int x2), (3, .int x3), (4, .int x4)] [] M := by
  intro n
  induction n with
  | zero => intro x0 x1 x2 x3 x4 M h; cases h
  | succ n ih =>
    intro x0 x1 x2 x3 x4 M h
    rw [fX8_sayDigits_25] at h
    refine g_iload (pc' := 27) 4 O dX8_sayDigits_25 rfl rfl ?_
    refine g_iload_n (pc' := 28) 2 O dX8_sayDigits_27 rfl rfl rfl ?_
    refine g_icmp_ge (tgt := 55) (pc' := 31) O dX8_sayDigits_28 (by decide) rfl (fun hc => ?_) (fun hc => ?_)
    · replace h := ip hc h
      cases h
      exact g_vreturn O dX8_sayDigits_55 rfl hf (by decide) (by decide)
    · replace h := ine hc h
      refine g_aload_n (pc' := 32) 0 O dX8_sayDigits_31 rfl rfl rfl ?_
      refine g_bipush (v := 48) (pc' := 34) O dX8_sayDigits_32 (by decide) rfl ?_
      refine g_iload_n (pc' := 35) 1 O dX8_sayDigits_34 rfl rfl rfl ?_
      refine g_iload_n (pc' := 36) 3 O dX8_sayDigits_35 rfl rfl rfl ?_
      replace h := ob h; obtain ⟨z1, ez1, h⟩ := h
      refine g_idiv (pc' := 37) O dX8_sayDigits_36 (dzI_ne ez1) rfl ?_
      refine g_bipush (v := 10) (pc' := 39) O dX8_sayDigits_37 (by decide) rfl ?_
      refine g_irem2 (pc' := 40) O dX8_sayDigits_39 (by decide) rfl ?_
      refine g_iadd (pc' := 41) O dX8_sayDigits_40 rfl ?_
      replace h := ob h; obtain ⟨u2, eu2, h⟩ := h
      replace h := ob h; obtain ⟨r3, er3, h⟩ := h
      refine g_callV (y := yX8_say) (ν := mX8_say) (n := 1) (As := [.int ((48 : Int32) + (rmI (x1 / x3) (10 : Int32)))]) (b := x0) (st := []) (M2 := r3) (r1 := none) (pc' := 44) O dX8_sayDigits_41 tw_939 tw_58 tw_938 tw_37 tw_936 hyX8_say rfl rfl eu2 (okX8_say er3) (Nat.le_of_ble_eq_true rfl) ⟨Nat.le_of_ble_eq_true rfl, Nat.le_of_ble_eq_true rfl⟩ ⟨Nat.le_of_ble_eq_true rfl, Nat.le_of_ble_eq_true rfl⟩ rfl ?_
      show G κ mX8_sayDigits 0 0 44 [(0, .ref x0), (1, .int x1), (2, .int x2), (3, .int x3), (4, .int x4)] [] r3
      refine g_iload_n (pc' := 45) 3 O dX8_sayDigits_44 rfl rfl rfl ?_
      refine g_bipush (v := 10) (pc' := 47) O dX8_sayDigits_45 (by decide) rfl ?_
      refine g_idiv (pc' := 48) O dX8_sayDigits_47 (by decide) rfl ?_
      refine g_istore_n (lv' := [(3, .int (x3 / (10 : Int32))), (0, .ref x0), (1, .int x1), (2, .int x2), (4, .int x4)]) (pc' := 49) O dX8_sayDigits_48 rfl (by decide) rfl rfl ?_
      refine g_iinc (q := 4) (v := x4 + (1 : Int32)) (lv' := [(4, .int (x4 + (1 : Int32))), (3, .int (x3 / (10 : Int32))), (0, .ref x0), (1, .int x1), (2, .int x2)]) (pc' := 52) O dX8_sayDigits_49 rfl rfl (by decide) rfl rfl ?_
      refine g_goto (pc' := 25) O dX8_sayDigits_52 (by decide) ?_
      refine g_sub (lv' := [(0, .ref x0), (1, .int x1), (2, .int x2), (3, .int (x3 / (10 : Int32))), (4, .int (x4 + (1 : Int32)))]) [2, 3, 4, 1, 0] rfl ?_
      exact ih x0 x1 x2 (x3 / (10 : Int32)) (x4 + (1 : Int32)) r3 h
def fX8_sayDigits_5  : Nat → Nat → Int32 → Int32 → Int32 → Int32 → Mem → Option (Mem)
  | 0, _, _, _, _, _, _ => none
  | n + 1, x0, x1, x2, x3, x4, M =>
    if x2 ≤ x4 then (fX8_sayDigits_25 FU x0 x1 x2 x3 (0 : Int32) M)
    else (fX8_sayDigits_5 n x0 x1 x2 (x3 * (10 : Int32)) (x4 + (1 : Int32)) M)
set_option maxHeartbeats 4000000 in
set_option maxRecDepth 100000 in
theorem tX8_sayDigits_5 {κ : KT} {p : Mem} (O : OkK κ mX8_sayDigits) (hf : κ.2.2.2.2.2.2.2.2.2.2.2.2.2 = (none, p))  : ∀ (n : Nat) (x0 : Nat) (x1 : Int32) (x2 : Int32) (x3 : Int32) (x4 : Int32) (M : Mem), fX8_sayDigits_5  n x0 x1 x2 x3 x4 M = some p → G κ mX8_sayDigits 0 0 5 [(0, .ref x0), (1, .int x1), (2, .int x2), (3, .int x3), (4, .int x4)] [] M := by
  intro n
  induction n with
  | zero => intro x0 x1 x2 x3 x4 M h; cases h
  | succ n ih =>
    intro x0 x1 x2 x3 x4 M h
    rw [fX8_sayDigits_5] at h
    refine g_iload (pc' := 7) 4 O dX8_sayDigits_5 rfl rfl ?_
    refine g_iload_n (pc' := 8) 2 O dX8_sayDigits_7 rfl rfl rfl ?_
    refine g_icmp_ge (tgt := 22) (pc' := 11) O dX8_sayDigits_8 (by decide) rfl (fun hc => ?_) (fun hc => ?_)
    · replace h := ip hc h
      refine g_iconst (v := 0) (pc' := 23) O dX8_sayDigits_22 (by decide) rfl ?_
      refine g_istore (lv' := [(4, .int (0 : Int32)), (0, .ref x0), (1, .int x1), (2, .int x2), (3, .int x3)]) (pc' := 25) O dX8_sayDigits_23 (by decide) rfl rfl ?_
      refine g_sub (lv' := [(0, .ref x0), (1, .int x1), (2, .int x2), (3, .int x3), (4, .int (0 : Int32))]) [1, 2, 3, 4, 0] rfl ?_
      exact tX8_sayDigits_25 O hf FU x0 x1 x2 x3 (0 : Int32) M h
    · replace h := ine hc h
      refine g_iload_n (pc' := 12) 3 O dX8_sayDigits_11 rfl rfl rfl ?_
      refine g_bipush (v := 10) (pc' := 14) O dX8_sayDigits_12 (by decide) rfl ?_
      refine g_imul (pc' := 15) O dX8_sayDigits_14 rfl ?_
      refine g_istore_n (lv' := [(3, .int (x3 * (10 : Int32))), (0, .ref x0), (1, .int x1), (2, .int x2), (4, .int x4)]) (pc' := 16) O dX8_sayDigits_15 rfl (by decide) rfl rfl ?_
      refine g_iinc (q := 4) (v := x4 + (1 : Int32)) (lv' := [(4, .int (x4 + (1 : Int32))), (3, .int (x3 * (10 : Int32))), (0, .ref x0), (1, .int x1), (2, .int x2)]) (pc' := 19) O dX8_sayDigits_16 rfl rfl (by decide) rfl rfl ?_
      refine g_goto (pc' := 5) O dX8_sayDigits_19 (by decide) ?_
      refine g_sub (lv' := [(0, .ref x0), (1, .int x1), (2, .int x2), (3, .int (x3 * (10 : Int32))), (4, .int (x4 + (1 : Int32)))]) [2, 3, 4, 1, 0] rfl ?_
      exact ih x0 x1 x2 (x3 * (10 : Int32)) (x4 + (1 : Int32)) M h
def fX8_sayDigits  (this : Nat) (p0 : Int32) (p1 : Int32) (M : Mem) : Option (Mem) :=
  fX8_sayDigits_5 FU this p0 p1 (1 : Int32) (1 : Int32) M
set_option maxHeartbeats 4000000 in
set_option maxRecDepth 100000 in
theorem okX8_sayDigits {l : Launch} {p : Mem} {this : Nat} {p0 : Int32} {p1 : Int32} {M : Mem} (h : fX8_sayDigits this p0 p1 M = some p) : Cn l yX8_sayDigits mX8_sayDigits [.ref this, .int p0, .int p1] M none p := by
  refine Cn.of [(0, .ref this), (1, .int p0), (2, .int p1)] (by decide) rfl rfl (Nat.le_of_ble_eq_true rfl) rfl (fun κ _ hf O => ?_)
  unfold fX8_sayDigits at h
  refine g_iconst (v := 1) (pc' := 1) O dX8_sayDigits_0 (by decide) rfl ?_
  refine g_istore_n (lv' := [(3, .int (1 : Int32)), (0, .ref this), (1, .int p0), (2, .int p1)]) (pc' := 2) O dX8_sayDigits_1 rfl (by decide) rfl rfl ?_
  refine g_iconst (v := 1) (pc' := 3) O dX8_sayDigits_2 (by decide) rfl ?_
  refine g_istore (lv' := [(4, .int (1 : Int32)), (3, .int (1 : Int32)), (0, .ref this), (1, .int p0), (2, .int p1)]) (pc' := 5) O dX8_sayDigits_3 (by decide) rfl rfl ?_
  refine g_sub (lv' := [(0, .ref this), (1, .int p0), (2, .int p1), (3, .int (1 : Int32)), (4, .int (1 : Int32))]) [2, 3, 4, 1, 0] rfl ?_
  exact tX8_sayDigits_5 O hf FU this p0 p1 (1 : Int32) (1 : Int32) M h
