abbrev mX8_fit : MD := (cX8_fit, 4, RX8, (some .int), { frames := 7, cells := 0, slots := 0, locals := 177 }, "fit")
theorem hyX8_fit : yX8_fit.cls ≠ "java/lang/invoke/MethodHandle" ∧ yX8_fit.cls ≠ "java/lang/invoke/VarHandle" ∧ (parseMethodDescriptor yX8_fit.desc).map (fun d => d.parameters.length) = some 1 := by decide +kernel
def fX8_fit_48 (k20 : Nat → Int32 → Int32 → Int32 → Mem → Option (Int32 × Mem)) (x0 : Nat) (x1 : Int32) (x3 : Int32) (s0 : Int32) (s1 : Int32) (M : Mem) : Option (Int32 × Mem) :=
  k20 x0 x1 (s1 ||| s0) (x3 + (1 : Int32)) M
set_option maxHeartbeats 4000000 in
set_option maxRecDepth 100000 in
theorem tX8_fit_48 {κ : KT} {p : Int32 × Mem} (O : OkK κ mX8_fit) (hf : κ.2.2.2.2.2.2.2.2.2.2.2.2.2 = (some (.int p.1), p.2)) {k20 : Nat → Int32 → Int32 → Int32 → Mem → Option (Int32 × Mem)} (hk20 : ∀ (x0 : Nat) (x1 : Int32) (x2 : Int32) (x3 : Int32) (M : Mem), k20 x0 x1 x2 x3 M = some p → G κ mX8_fit 0 0 20 [(0, .ref x0), (1, .int x1), (2, .int x2), (3, .int x3)] [] M) {x0 : Nat} {x1 : Int32} {x3 : Int32} {s0 : Int32} {s1 : Int32} {M : Mem} (h : fX8_fit_48 k20 x0 x1 x3 s0 s1 M = some p) : G κ mX8_fit 0 0 48 [(0, .ref x0), (1, .int x1), (3, .int x3)] [.int s0, .int s1] M := by
  unfold fX8_fit_48 at h
  refine g_ior (pc' := 49) O dX8_fit_48 rfl ?_
  refine g_istore_n (lv' := [(2, .int (s1 ||| s0)), (0, .ref x0), (1, .int x1), (3, .int x3)]) (pc' := 50) O dX8_fit_49 rfl (by decide) rfl rfl ?_
  refine g_iinc (q := 3) (v := x3 + (1 : Int32)) (lv' := [(3, .int (x3 + (1 : Int32))), (2, .int (s1 ||| s0)), (0, .ref x0), (1, .int x1)]) (pc' := 53) O dX8_fit_50 rfl rfl (by decide) rfl rfl ?_
  refine g_goto (pc' := 20) O dX8_fit_53 (by decide) ?_
  refine g_sub (lv' := [(0, .ref x0), (1, .int x1), (2, .int (s1 ||| s0)), (3, .int (x3 + (1 : Int32)))]) [2, 3, 1, 0] rfl ?_
  exact hk20 x0 x1 (s1 ||| s0) (x3 + (1 : Int32)) M h
def fX8_fit_20  : Nat → Nat → Int32 → Int32 → Int32 → Mem → Option (Int32 × Mem)
  | 0, _, _, _, _, _ => none
  | n + 1, x0, x1, x2, x3, M =>
    (gN M 5 x0 1).bind fun v1 =>
    (aI M v1 (0 : Int32)).bind fun v2 =>
    if v2 ≤ x3 then (some (x2, M))
    else ((ck M 5 x0).bind fun u3 =>
    (fX8_firstMisfit x0 x3 x1 M).bind fun r4 =>
    if r4.1 = (-1 : Int32) then (fX8_fit_48 (fX8_fit_20 n) x0 x1 x3 ((1 : Int32) <<< (x3 &&& 31)) x2 r4.2)
    else (fX8_fit_48 (fX8_fit_20 n) x0 x1 x3 (0 : Int32) x2 r4.2))
set_option maxHeartbeats 4000000 in
set_option maxRecDepth 100000 in
theorem tX8_fit_20 {κ : KT} {p : Int32 × Mem} (O : OkK κ mX8_fit) (hf : κ.2.2.2.2.2.2.2.2.2.2.2.2.2 = (some (.int p.1), p.2))  : ∀ (n : Nat) (x0 : Nat) (x1 : Int32) (x2 : Int32) (x3 : Int32) (M : Mem), fX8_fit_20  n x0 x1 x2 x3 M = some p → G κ mX8_fit 0 0 20 [(0, .ref x0), (1, .int x1), (2, .int x2), (3, .int x3)] [] M := by
  intro n
  induction n with
  | zero => intro x0 x1 x2 x3 M h; cases h
  | succ n ih =>
    intro x0 x1 x2 x3 M h
    rw [fX8_fit_20] at h
    refine g_iload_n (pc' := 21) 3 O dX8_fit_20 rfl rfl rfl ?_
    refine g_aload_n (pc' := 22) 0 O dX8_fit_21 rfl rfl rfl ?_
    replace h := ob h; obtain ⟨v1, ev1, h⟩ := h
    refine g_getF (C := RX8) (T := TX8) (N := 29) (ci := 5) (k := 1) (pc' := 25) O dX8_fit_22 rfl inX8 (by decide) tw_717 (gN_F ev1) rfl ?_
    refine g_iconst (v := 0) (pc' := 26) O dX8_fit_25 (by decide) rfl ?_
    replace h := ob h; obtain ⟨v2, ev2, h⟩ := h
    refine g_iald (pc' := 27) O dX8_fit_26 ev2 rfl ?_
    refine g_icmp_ge (tgt := 56) (pc' := 30) O dX8_fit_27 (by decide) rfl (fun hc => ?_) (fun hc => ?_)
    · replace h := ip hc h
      refine g_iload_n (pc' := 57) 2 O dX8_fit_56 rfl rfl rfl ?_
      cases h
      exact g_ireturn O dX8_fit_57 rfl rfl hf (by decide) (by decide)
    · replace h := ine hc h
      refine g_iload_n (pc' := 31) 2 O dX8_fit_30 rfl rfl rfl ?_
      refine g_aload_n (pc' := 32) 0 O dX8_fit_31 rfl rfl rfl ?_
      refine g_iload_n (pc' := 33) 3 O dX8_fit_32 rfl rfl rfl ?_
      refine g_iload_n (pc' := 34) 1 O dX8_fit_33 rfl rfl rfl ?_
      replace h := ob h; obtain ⟨u3, eu3, h⟩ := h
      replace h := ob h; obtain ⟨r4, er4, h⟩ := h
      refine g_callV (y := yX8_firstMisfit) (ν := mX8_firstMisfit) (n := 2) (As := [.int x3, .int x1]) (b := x0) (st := [.int x2]) (M2 := r4.2) (r1 := (some (.int r4.1))) (pc' := 37) O dX8_fit_34 tw_1058 tw_58 tw_1057 tw_49 tw_1055 hyX8_firstMisfit rfl rfl eu3 (okX8_firstMisfit er4) (Nat.le_of_ble_eq_true rfl) ⟨Nat.le_of_ble_eq_true rfl, Nat.le_of_ble_eq_true rfl⟩ ⟨Nat.le_of_ble_eq_true rfl, Nat.le_of_ble_eq_true rfl⟩ rfl ?_
      show G κ mX8_fit 0 0 37 [(0, .ref x0), (1, .int x1), (2, .int x2), (3, .int x3)] [.int r4.1, .int x2] r4.2
      refine g_iconst (v := -1) (pc' := 38) O dX8_fit_37 (by decide) rfl ?_
      refine g_icmp_ne (tgt := 47) (pc' := 41) O dX8_fit_38 (by decide) rfl (fun hc => ?_) (fun hc => ?_)
      · replace h := ine hc h
        refine g_iconst (v := 0) (pc' := 48) O dX8_fit_47 (by decide) rfl ?_
        refine g_sub (lv' := [(0, .ref x0), (1, .int x1), (3, .int x3)]) [0, 1, 3] rfl ?_
        exact tX8_fit_48 O hf ih h
      · replace h := ip hc h
        refine g_iconst (v := 1) (pc' := 42) O dX8_fit_41 (by decide) rfl ?_
        refine g_iload_n (pc' := 43) 3 O dX8_fit_42 rfl rfl rfl ?_
        refine g_ishl (pc' := 44) O dX8_fit_43 rfl ?_
        refine g_goto (pc' := 48) O dX8_fit_44 (by decide) ?_
        refine g_sub (lv' := [(0, .ref x0), (1, .int x1), (3, .int x3)]) [0, 1, 3] rfl ?_
        exact tX8_fit_48 O hf ih h
def fX8_fit  (this : Nat) (p0 : Int32) (M : Mem) : Option (Int32 × Mem) :=
  (pF M 5 this 0 (.int (0 : Int32))).bind fun M1 =>
  (fX8_in p0 (0 : Int32) (2 : Int32) M1).bind fun r2 =>
  if r2.1 = 0 then (some ((-1 : Int32), r2.2))
  else (fX8_fit_20 FU this p0 (0 : Int32) (0 : Int32) r2.2)
set_option maxHeartbeats 4000000 in
set_option maxRecDepth 100000 in
theorem okX8_fit {l : Launch} {p : Int32 × Mem} {this : Nat} {p0 : Int32} {M : Mem} (h : fX8_fit this p0 M = some p) : Cn l yX8_fit mX8_fit [.ref this, .int p0] M (some (.int p.1)) p.2 := by
  refine Cn.of [(0, .ref this), (1, .int p0)] (by decide) rfl rfl (Nat.le_of_ble_eq_true rfl) rfl (fun κ _ hf O => ?_)
  unfold fX8_fit at h
  refine g_aload_n (pc' := 1) 0 O dX8_fit_0 rfl rfl rfl ?_
  refine g_iconst (v := 0) (pc' := 2) O dX8_fit_1 (by decide) rfl ?_
  replace h := ob h; obtain ⟨M1, eM1, h⟩ := h
  refine g_putF (C := RX8) (T := TX8) (N := 29) (ci := 5) (k := 0) (pc' := 5) O dX8_fit_2 rfl inX8 (by decide) tw_716 tyX8 tyX8_ok nmX8 rfl rfl rfl rfl eM1 rfl ?_
  refine g_iload_n (pc' := 6) 1 O dX8_fit_5 rfl rfl rfl ?_
  refine g_iconst (v := 0) (pc' := 7) O dX8_fit_6 (by decide) rfl ?_
  refine g_iconst (v := 2) (pc' := 8) O dX8_fit_7 (by decide) rfl ?_
  replace h := ob h; obtain ⟨r2, er2, h⟩ := h
  refine g_callS (y := yX8_in) (ν := mX8_in) (n := 3) (As := [.int p0, .int (0 : Int32), .int (2 : Int32)]) (b := 0) (st := []) (M2 := r2.2) (r1 := (some (.int r2.1))) (pc' := 11) O dX8_fit_8 tw_811 tw_58 tw_810 tw_809 hyX8_in rfl (okX8_in er2) (Nat.le_of_ble_eq_true rfl) ⟨Nat.le_of_ble_eq_true rfl, Nat.le_of_ble_eq_true rfl⟩ ⟨Nat.le_of_ble_eq_true rfl, Nat.le_of_ble_eq_true rfl⟩ rfl ?_
  show G κ mX8_fit 0 0 11 [(0, .ref this), (1, .int p0)] [.int r2.1] r2.2
  refine g_if_ne (tgt := 16) (pc' := 14) O dX8_fit_11 (by decide) rfl (fun hc => ?_) (fun hc => ?_)
  · replace h := ine hc h
    refine g_iconst (v := 0) (pc' := 17) O dX8_fit_16 (by decide) rfl ?_
    refine g_istore_n (lv' := [(2, .int (0 : Int32)), (0, .ref this), (1, .int p0)]) (pc' := 18) O dX8_fit_17 rfl (by decide) rfl rfl ?_
    refine g_iconst (v := 0) (pc' := 19) O dX8_fit_18 (by decide) rfl ?_
    refine g_istore_n (lv' := [(3, .int (0 : Int32)), (2, .int (0 : Int32)), (0, .ref this), (1, .int p0)]) (pc' := 20) O dX8_fit_19 rfl (by decide) rfl rfl ?_
    refine g_sub (lv' := [(0, .ref this), (1, .int p0), (2, .int (0 : Int32)), (3, .int (0 : Int32))]) [2, 3, 1, 0] rfl ?_
    exact tX8_fit_20 O hf FU this p0 (0 : Int32) (0 : Int32) r2.2 h
  · replace h := ip hc h
    refine g_iconst (v := -1) (pc' := 15) O dX8_fit_14 (by decide) rfl ?_
    cases h
    exact g_ireturn O dX8_fit_15 rfl rfl hf (by decide) (by decide)
abbrev mX8_misfit : MD := (cX8_misfit, 3, RX8, (some .int), { frames := 7, cells := 0, slots := 0, locals := 177 }, "misfit")
theorem hyX8_misfit : yX8_misfit.cls ≠ "java/lang/invoke/MethodHandle" ∧ yX8_misfit.cls ≠ "java/lang/invoke/VarHandle" ∧ (parseMethodDescriptor yX8_misfit.desc).map (fun d => d.parameters.length) = some 2 := by decide +kernel
def fX8_misfit_32  (s0 : Int32) (M : Mem) : Option (Int32 × Mem) :=
  some (s0, M)
set_option maxHeartbeats 4000000 in
set_option maxRecDepth 100000 in
theorem tX8_misfit_32 {κ : KT} {p : Int32 × Mem} (O : OkK κ mX8_misfit) (hf : κ.2.2.2.2.2.2.2.2.2.2.2.2.2 = (some (.int p.1), p.2))  {s0 : Int32} {M : Mem} (h : fX8_misfit_32  s0 M = some p) : G κ mX8_misfit 0 0 32 [] [.int s0] M := by
  unfold fX8_misfit_32 at h
  cases h
  exact g_ireturn O dX8_misfit_32 rfl rfl hf (by decide) (by decide)
def fX8_misfit_31  (M : Mem) : Option (Int32 × Mem) :=
  fX8_misfit_32 (-1 : Int32) M
set_option maxHeartbeats 4000000 in
set_option maxRecDepth 100000 in
theorem tX8_misfit_31 {κ : KT} {p : Int32 × Mem} (O : OkK κ mX8_misfit) (hf : κ.2.2.2.2.2.2.2.2.2.2.2.2.2 = (some (.int p.1), p.2))  {M : Mem} (h : fX8_misfit_31  M = some p) : G κ mX8_misfit 0 0 31 [] [] M := by
  unfold fX8_misfit_31 at h
  refine g_iconst (v := -1) (pc' := 32) O dX8_misfit_31 (by decide) rfl ?_
  exact tX8_misfit_32 O hf h
def fX8_misfit  (this : Nat) (p0 : Int32) (p1 : Int32) (M : Mem) : Option (Int32 × Mem) :=
  (pF M 5 this 0 (.int (0 : Int32))).bind fun M1 =>
  (ck M1 5 this).bind fun u2 =>
  (fX8_isLand this p0 M1).bind fun r3 =>
  if r3.1 = 0 then (fX8_misfit_31 r3.2)
  else ((fX8_in p1 (0 : Int32) (2 : Int32) r3.2).bind fun r4 =>
  if r4.1 = 0 then (fX8_misfit_31 r4.2)
  else ((ck r4.2 5 this).bind fun u5 =>
  (fX8_firstMisfit this p0 p1 r4.2).bind fun r6 =>
  fX8_misfit_32 r6.1 r6.2))
set_option maxHeartbeats 4000000 in
set_option maxRecDepth 100000 in
theorem okX8_misfit {l : Launch} {p : Int32 × Mem} {this : Nat} {p0 : Int32} {p1 : Int32} {M : Mem} (h : fX8_misfit this p0 p1 M = some p) : Cn l yX8_misfit mX8_misfit [.ref this, .int p0, .int p1] M (some (.int p.1)) p.2 := by
  refine Cn.of [(0, .ref this), (1, .int p0), (2, .int p1)] (by decide) rfl rfl (Nat.le_of_ble_eq_true rfl) rfl (fun κ _ hf O => ?_)
  unfold fX8_misfit at h
  refine g_aload_n (pc' := 1) 0 O dX8_misfit_0 rfl rfl rfl ?_
  refine g_iconst (v := 0) (pc' := 2) O dX8_misfit_1 (by decide) rfl ?_
  replace h := ob h; obtain ⟨M1, eM1, h⟩ := h
  refine g_putF (C := RX8) (T := TX8) (N := 29) (ci := 5) (k := 0) (pc' := 5) O dX8_misfit_2 rfl inX8 (by decide) tw_716 tyX8 tyX8_ok nmX8 rfl rfl rfl rfl eM1 rfl ?_
  refine g_aload_n (pc' := 6) 0 O dX8_misfit_5 rfl rfl rfl ?_
  refine g_iload_n (pc' := 7) 1 O dX8_misfit_6 rfl rfl rfl ?_
  replace h := ob h; obtain ⟨u2, eu2, h⟩ := h
  replace h := ob h; obtain ⟨r3, er3, h⟩ := h
  refine g_callV (y := yX8_isLand) (ν := mX8_isLand) (n := 1) (As := [.int p0]) (b := this) (st := []) (M2 := r3.2) (r1 := (some (.int r3.1))) (pc' := 10) O dX8_misfit_7 tw_835 tw_58 tw_834 tw_19 tw_832 hyX8_isLand rfl rfl eu2 (okX8_isLand er3) (Nat.le_of_ble_eq_true rfl) ⟨Nat.le_of_ble_eq_true rfl, Nat.le_of_ble_eq_true rfl⟩ ⟨Nat.le_of_ble_eq_true rfl, Nat.le_of_ble_eq_true rfl⟩ rfl ?_
  show G κ mX8_misfit 0 0 10 [(0, .ref this), (1, .int p0), (2, .int p1)] [.int r3.1] r3.2
  refine g_if_eq (tgt := 31) (pc' := 13) O dX8_misfit_10 (by decide) rfl (fun hc => ?_) (fun hc => ?_)
  · replace h := ip hc h
    refine g_sub (lv' := []) [] rfl ?_
    exact tX8_misfit_31 O hf h
  · replace h := ine hc h
    refine g_iload_n (pc' := 14) 2 O dX8_misfit_13 rfl rfl rfl ?_
    refine g_iconst (v := 0) (pc' := 15) O dX8_misfit_14 (by decide) rfl ?_
    refine g_iconst (v := 2) (pc' := 16) O dX8_misfit_15 (by decide) rfl ?_
    replace h := ob h; obtain ⟨r4, er4, h⟩ := h
    refine g_callS (y := yX8_in) (ν := mX8_in) (n := 3) (As := [.int p1, .int (0 : Int32), .int (2 : Int32)]) (b := 0) (st := []) (M2 := r4.2) (r1 := (some (.int r4.1))) (pc' := 19) O dX8_misfit_16 tw_811 tw_58 tw_810 tw_809 hyX8_in rfl (okX8_in er4) (Nat.le_of_ble_eq_true rfl) ⟨Nat.le_of_ble_eq_true rfl, Nat.le_of_ble_eq_true rfl⟩ ⟨Nat.le_of_ble_eq_true rfl, Nat.le_of_ble_eq_true rfl⟩ rfl ?_
    show G κ mX8_misfit 0 0 19 [(0, .ref this), (1, .int p0), (2, .int p1)] [.int r4.1] r4.2
    refine g_if_eq (tgt := 31) (pc' := 22) O dX8_misfit_19 (by decide) rfl (fun hc => ?_) (fun hc => ?_)
    · replace h := ip hc h
      refine g_sub (lv' := []) [] rfl ?_
      exact tX8_misfit_31 O hf h
    · replace h := ine hc h
      refine g_aload_n (pc' := 23) 0 O dX8_misfit_22 rfl rfl rfl ?_
      refine g_iload_n (pc' := 24) 1 O dX8_misfit_23 rfl rfl rfl ?_
      refine g_iload_n (pc' := 25) 2 O dX8_misfit_24 rfl rfl rfl ?_
      replace h := ob h; obtain ⟨u5, eu5, h⟩ := h
      replace h := ob h; obtain ⟨r6, er6, h⟩ := h
      refine g_callV (y := yX8_firstMisfit) (ν := mX8_firstMisfit) (n := 2) (As := [.int p0, .int p1]) (b := this) (st := []) (M2 := r6.2) (r1 := (some (.int r6.1))) (pc' := 28) O dX8_misfit_25 tw_1058 tw_58 tw_1057 tw_49 tw_1055 hyX8_firstMisfit rfl rfl eu5 (okX8_firstMisfit er6) (Nat.le_of_ble_eq_true rfl) ⟨Nat.le_of_ble_eq_true rfl, Nat.le_of_ble_eq_true rfl⟩ ⟨Nat.le_of_ble_eq_true rfl, Nat.le_of_ble_eq_true rfl⟩ rfl ?_
      show G κ mX8_misfit 0 0 28 [(0, .ref this), (1, .int p0), (2, .int p1)] [.int r6.1] r6.2
      refine g_goto (pc' := 32) O dX8_misfit_28 (by decide) ?_
      refine g_sub (lv' := []) [] rfl ?_
      exact tX8_misfit_32 O hf h
abbrev mX8_sum : MD := (cX8_sum, 6, RX8, (some .long), { frames := 6, cells := 0, slots := 0, locals := 154 }, "sum")
theorem hyX8_sum : yX8_sum.cls ≠ "java/lang/invoke/MethodHandle" ∧ yX8_sum.cls ≠ "java/lang/invoke/VarHandle" ∧ (parseMethodDescriptor yX8_sum.desc).map (fun d => d.parameters.length) = some 2 := by decide +kernel
def fX8_sum_31  : Nat → Nat → Int32 → Int32 → Int64 → Int32 → Mem → Option (Int64 × Mem)
  | 0, _, _, _, _, _, _ => none
  | n + 1, x0, x1, x2, x3, x5, M =>
    (gN M 5 x0 14).bind fun v1 =>
    (aI M v1 (0 : Int32)).bind fun v2 =>
    if v2 ≤ x5 then (some (x3, M))
    else ((ck M 5 x0).bind fun u3 =>
    (fX8_rowText x0 x5 M).bind fun r4 =>
    (ck r4 5 x0).bind fun u5 =>
    (fX8_countsNow x0 x1 x2 r4).bind fun r6 =>
    if r6.1 = 0 then (some ((-9223372036854775808 : Int64), r6.2))
    else ((gL r6.2 5 x0 24).bind fun v7 =>
    fX8_sum_31 n x0 x1 x2 (x3 + v7) (x5 + (1 : Int32)) r6.2))
set_option maxHeartbeats 4000000 in
set_option maxRecDepth 100000 in
theorem tX8_sum_31 {κ : KT} {p : Int64 × Mem} (O : OkK κ mX8_sum) (hf : κ.2.2.2.2.2.2.2.2.2.2.2.2.2 = (some (.long p.1), p.2))  : ∀ (n : Nat) (x0 : Nat) (x1 : Int32) (x2 : Int32) (x3 : Int64) (x5 : Int32) (M : Mem), fX8_sum_31  n x0 x1 x2 x3 x5 M = some p → G κ mX8_sum 0 0 31 [(0, .ref x0), (1, .int x1), (2, .int x2), (3, .long x3), (5, .int x5)] [] M := by
  intro n
  induction n with
  | zero => intro x0 x1 x2 x3 x5 M h; cases h
  | succ n ih =>
    intro x0 x1 x2 x3 x5 M h
    rw [fX8_sum_31] at h
    refine g_iload (pc' := 33) 4 O dX8_sum_31 rfl rfl ?_
    refine g_aload_n (pc' := 34) 0 O dX8_sum_33 rfl rfl rfl ?_
    replace h := ob h; obtain ⟨v1, ev1, h⟩ := h
    refine g_getF (C := RX8) (T := TX8) (N := 29) (ci := 5) (k := 14) (pc' := 37) O dX8_sum_34 rfl inX8 (by decide) tw_730 (gN_F ev1) rfl ?_
    refine g_iconst (v := 0) (pc' := 38) O dX8_sum_37 (by decide) rfl ?_
    replace h := ob h; obtain ⟨v2, ev2, h⟩ := h
    refine g_iald (pc' := 39) O dX8_sum_38 ev2 rfl ?_
    refine g_icmp_ge (tgt := 74) (pc' := 42) O dX8_sum_39 (by decide) rfl (fun hc => ?_) (fun hc => ?_)
    · replace h := ip hc h
      refine g_lload_n (pc' := 75) 3 O dX8_sum_74 rfl rfl rfl ?_
      cases h
      exact g_lreturn O dX8_sum_75 rfl hf (by decide) (by decide)
    · replace h := ine hc h
      refine g_aload_n (pc' := 43) 0 O dX8_sum_42 rfl rfl rfl ?_
      refine g_iload (pc' := 45) 4 O dX8_sum_43 rfl rfl ?_
      replace h := ob h; obtain ⟨u3, eu3, h⟩ := h
      replace h := ob h; obtain ⟨r4, er4, h⟩ := h
      refine g_callV (y := yX8_rowText) (ν := mX8_rowText) (n := 1) (As := [.int x5]) (b := x0) (st := []) (M2 := r4) (r1 := none) (pc' := 48) O dX8_sum_45 tw_1062 tw_58 tw_1061 tw_50 tw_1059 hyX8_rowText rfl rfl eu3 (okX8_rowText er4) (Nat.le_of_ble_eq_true rfl) ⟨Nat.le_of_ble_eq_true rfl, Nat.le_of_ble_eq_true rfl⟩ ⟨Nat.le_of_ble_eq_true rfl, Nat.le_of_ble_eq_true rfl⟩ rfl ?_
      show G κ mX8_sum 0 0 48 [(0, .ref x0), (1, .int x1), (2, .int x2), (3, .long x3), (5, .int x5)] [] r4
      refine g_aload_n (pc' := 49) 0 O dX8_sum_48 rfl rfl rfl ?_
      refine g_iload_n (pc' := 50) 1 O dX8_sum_49 rfl rfl rfl ?_
      refine g_iload_n (pc' := 51) 2 O dX8_sum_50 rfl rfl rfl ?_
      replace h := ob h; obtain ⟨u5, eu5, h⟩ := h
      replace h := ob h; obtain ⟨r6, er6, h⟩ := h
      refine g_callV (y := yX8_countsNow) (ν := mX8_countsNow) (n := 2) (As := [.int x1, .int x2]) (b := x0) (st := []) (M2 := r6.2) (r1 := (some (.int r6.1))) (pc' := 54) O dX8_sum_51 tw_843 tw_58 tw_842 tw_21 tw_840 hyX8_countsNow rfl rfl eu5 (okX8_countsNow er6) (Nat.le_of_ble_eq_true rfl) ⟨Nat.le_of_ble_eq_true rfl, Nat.le_of_ble_eq_true rfl⟩ ⟨Nat.le_of_ble_eq_true rfl, Nat.le_of_ble_eq_true rfl⟩ rfl ?_
      show G κ mX8_sum 0 0 54 [(0, .ref x0), (1, .int x1), (2, .int x2), (3, .long x3), (5, .int x5)] [.int r6.1] r6.2
      refine g_if_ne (tgt := 61) (pc' := 57) O dX8_sum_54 (by decide) rfl (fun hc => ?_) (fun hc => ?_)
      · replace h := ine hc h
        refine g_lload_n (pc' := 62) 3 O dX8_sum_61 rfl rfl rfl ?_
        refine g_aload_n (pc' := 63) 0 O dX8_sum_62 rfl rfl rfl ?_
        replace h := ob h; obtain ⟨v7, ev7, h⟩ := h
        refine g_getF (C := RX8) (T := TX8) (N := 29) (ci := 5) (k := 24) (pc' := 66) O dX8_sum_63 rfl inX8 (by decide) tw_740 (gL_F ev7) rfl ?_
        refine g_ladd (pc' := 67) O dX8_sum_66 rfl ?_
        refine g_lstore_n (lv' := [(3, .long (x3 + v7)), (0, .ref x0), (1, .int x1), (2, .int x2), (5, .int x5)]) (pc' := 68) O dX8_sum_67 rfl (by decide) rfl rfl ?_
        refine g_iinc (q := 4) (v := x5 + (1 : Int32)) (lv' := [(5, .int (x5 + (1 : Int32))), (3, .long (x3 + v7)), (0, .ref x0), (1, .int x1), (2, .int x2)]) (pc' := 71) O dX8_sum_68 rfl rfl (by decide) rfl rfl ?_
        refine g_goto (pc' := 31) O dX8_sum_71 (by decide) ?_
        refine g_sub (lv' := [(0, .ref x0), (1, .int x1), (2, .int x2), (3, .long (x3 + v7)), (5, .int (x5 + (1 : Int32)))]) [2, 3, 4, 1, 0] rfl ?_
        exact ih x0 x1 x2 (x3 + v7) (x5 + (1 : Int32)) r6.2 h
      · replace h := ip hc h
        refine g_ldc2 (v := -9223372036854775808) (pc' := 60) O dX8_sum_57 tw_714 rfl ?_
        cases h
        exact g_lreturn O dX8_sum_60 rfl hf (by decide) (by decide)
def fX8_sum_22  (M : Mem) : Option (Int64 × Mem) :=
  some ((-9223372036854775808 : Int64), M)
set_option maxHeartbeats 4000000 in
set_option maxRecDepth 100000 in
theorem tX8_sum_22 {κ : KT} {p : Int64 × Mem} (O : OkK κ mX8_sum) (hf : κ.2.2.2.2.2.2.2.2.2.2.2.2.2 = (some (.long p.1), p.2))  {M : Mem} (h : fX8_sum_22  M = some p) : G κ mX8_sum 0 0 22 [] [] M := by
  unfold fX8_sum_22 at h
  refine g_ldc2 (v := -9223372036854775808) (pc' := 25) O dX8_sum_22 tw_714 rfl ?_
  cases h
  exact g_lreturn O dX8_sum_25 rfl hf (by decide) (by decide)
def fX8_sum  (this : Nat) (p0 : Int32) (p1 : Int32) (M : Mem) : Option (Int64 × Mem) :=
  (pF M 5 this 0 (.int (0 : Int32))).bind fun M1 =>
  (ck M1 5 this).bind fun u2 =>
  (fX8_isLand this p0 M1).bind fun r3 =>
  if r3.1 = 0 then (fX8_sum_22 r3.2)
  else ((fX8_in p1 (0 : Int32) (1 : Int32) r3.2).bind fun r4 =>
  if r4.1 = 0 then (fX8_sum_22 r4.2)
  else (fX8_sum_31 FU this p0 p1 (0 : Int64) (0 : Int32) r4.2))
set_option maxHeartbeats 4000000 in
set_option maxRecDepth 100000 in
theorem okX8_sum {l : Launch} {p : Int64 × Mem} {this : Nat} {p0 : Int32} {p1 : Int32} {M : Mem} (h : fX8_sum this p0 p1 M = some p) : Cn l yX8_sum mX8_sum [.ref this, .int p0, .int p1] M (some (.long p.1)) p.2 := by
  refine Cn.of [(0, .ref this), (1, .int p0), (2, .int p1)] (by decide) rfl rfl (Nat.le_of_ble_eq_true rfl) rfl (fun κ _ hf O => ?_)
  unfold fX8_sum at h
  refine g_aload_n (pc' := 1) 0 O dX8_sum_0 rfl rfl rfl ?_
  refine g_iconst (v := 0) (pc' := 2) O dX8_sum_1 (by decide) rfl ?_
  replace h := ob h; obtain ⟨M1, eM1, h⟩ := h
  refine g_putF (C := RX8) (T := TX8) (N := 29) (ci := 5) (k := 0) (pc' := 5) O dX8_sum_2 rfl inX8 (by decide) tw_716 tyX8 tyX8_ok nmX8 rfl rfl rfl rfl eM1 rfl ?_
  refine g_aload_n (pc' := 6) 0 O dX8_sum_5 rfl rfl rfl ?_
  refine g_iload_n (pc' := 7) 1 O dX8_sum_6 rfl rfl rfl ?_
  replace h := ob h; obtain ⟨u2, eu2, h⟩ := h
  replace h := ob h; obtain ⟨r3, er3, h⟩ := h
  refine g_callV (y := yX8_isLand) (ν := mX8_isLand) (n := 1) (As := [.int p0]) (b := this) (st := []) (M2 := r3.2) (r1 := (some (.int r3.1))) (pc' := 10) O dX8_sum_7 tw_835 tw_58 tw_834 tw_19 tw_832 hyX8_isLand rfl rfl eu2 (okX8_isLand er3) (Nat.le_of_ble_eq_true rfl) ⟨Nat.le_of_ble_eq_true rfl, Nat.le_of_ble_eq_true rfl⟩ ⟨Nat.le_of_ble_eq_true rfl, Nat.le_of_ble_eq_true rfl⟩ rfl ?_
  show G κ mX8_sum 0 0 10 [(0, .ref this), (1, .int p0), (2, .int p1)] [.int r3.1] r3.2
  refine g_if_eq (tgt := 22) (pc' := 13) O dX8_sum_10 (by decide) rfl (fun hc => ?_) (fun hc => ?_)
  · replace h := ip hc h
    refine g_sub (lv' := []) [] rfl ?_
    exact tX8_sum_22 O hf h
  · replace h := ine hc h
    refine g_iload_n (pc' := 14) 2 O dX8_sum_13 rfl rfl rfl ?_
    refine g_iconst (v := 0) (pc' := 15) O dX8_sum_14 (by decide) rfl ?_
    refine g_iconst (v := 1) (pc' := 16) O dX8_sum_15 (by decide) rfl ?_
    replace h := ob h; obtain ⟨r4, er4, h⟩ := h
    refine g_callS (y := yX8_in) (ν := mX8_in) (n := 3) (As := [.int p1, .int (0 : Int32), .int (1 : Int32)]) (b := 0) (st := []) (M2 := r4.2) (r1 := (some (.int r4.1))) (pc' := 19) O dX8_sum_16 tw_811 tw_58 tw_810 tw_809 hyX8_in rfl (okX8_in er4) (Nat.le_of_ble_eq_true rfl) ⟨Nat.le_of_ble_eq_true rfl, Nat.le_of_ble_eq_true rfl⟩ ⟨Nat.le_of_ble_eq_true rfl, Nat.le_of_ble_eq_true rfl⟩ rfl ?_
    show G κ mX8_sum 0 0 19 [(0, .ref this), (1, .int p0), (2, .int p1)] [.int r4.1] r4.2
    refine g_if_ne (tgt := 26) (pc' := 22) O dX8_sum_19 (by decide) rfl (fun hc => ?_) (fun hc => ?_)
    · replace h := ine hc h
      refine g_lconst (v := 0) (pc' := 27) O dX8_sum_26 (by decide) rfl ?_
      refine g_lstore_n (lv' := [(3, .long (0 : Int64)), (0, .ref this), (1, .int p0), (2, .int p1)]) (pc' := 28) O dX8_sum_27 rfl (by decide) rfl rfl ?_
      refine g_iconst (v := 0) (pc' := 29) O dX8_sum_28 (by decide) rfl ?_
      refine g_istore (lv' := [(5, .int (0 : Int32)), (3, .long (0 : Int64)), (0, .ref this), (1, .int p0), (2, .int p1)]) (pc' := 31) O dX8_sum_29 (by decide) rfl rfl ?_
      refine g_sub (lv' := [(0, .ref this), (1, .int p0), (2, .int p1), (3, .long (0 : Int64)), (5, .int (0 : Int32))]) [2, 3, 4, 1, 0] rfl ?_
      exact tX8_sum_31 O hf FU this p0 p1 (0 : Int64) (0 : Int32) r4.2 h
    · replace h := ip hc h
      refine g_sub (lv' := []) [] rfl ?_
      exact tX8_sum_22 O hf h
abbrev mX8_count : MD := (cX8_count, 2, RX8, (some .int), { frames := 0, cells := 0, slots := 0, locals := 0 }, "count")
theorem hyX8_count : yX8_count.cls ≠ "java/lang/invoke/MethodHandle" ∧ yX8_count.cls ≠ "java/lang/invoke/VarHandle" ∧ (parseMethodDescriptor yX8_count.desc).map (fun d => d.parameters.length) = some 1 := by decide +kernel
def fX8_count  (this : Nat) (p0 : Int32) (M : Mem) : Option (Int32 × Mem) :=
  (pF M 5 this 0 (.int (0 : Int32))).bind fun M1 =>
  if p0 = (0 : Int32) then ((gN M1 5 this 1).bind fun v2 =>
  (aI M1 v2 (0 : Int32)).bind fun v3 =>
  some (v3, M1))
  else (if p0 = (1 : Int32) then ((gN M1 5 this 10).bind fun v4 =>
  (aI M1 v4 (0 : Int32)).bind fun v5 =>
  some (v5, M1))
  else (if p0 = (2 : Int32) then ((gN M1 5 this 14).bind fun v6 =>
  (aI M1 v6 (0 : Int32)).bind fun v7 =>
  some (v7, M1))
  else (if p0 = (3 : Int32) then ((gN M1 5 this 17).bind fun v8 =>
  (aI M1 v8 (0 : Int32)).bind fun v9 =>
  some (v9, M1))
  else (some ((-1 : Int32), M1)))))
set_option maxHeartbeats 4000000 in
set_option maxRecDepth 100000 in
theorem okX8_count {l : Launch} {p : Int32 × Mem} {this : Nat} {p0 : Int32} {M : Mem} (h : fX8_count this p0 M = some p) : Cn l yX8_count mX8_count [.ref this, .int p0] M (some (.int p.1)) p.2 := by
  refine Cn.of [(0, .ref this), (1, .int p0)] (by decide) rfl rfl (Nat.le_of_ble_eq_true rfl) rfl (fun κ _ hf O => ?_)
  unfold fX8_count at h
  refine g_aload_n (pc' := 1) 0 O dX8_count_0 rfl rfl rfl ?_
  refine g_iconst (v := 0) (pc' := 2) O dX8_count_1 (by decide) rfl ?_
  replace h := ob h; obtain ⟨M1, eM1, h⟩ := h
  refine g_putF (C := RX8) (T := TX8) (N := 29) (ci := 5) (k := 0) (pc' := 5) O dX8_count_2 rfl inX8 (by decide) tw_716 tyX8 tyX8_ok nmX8 rfl rfl rfl rfl eM1 rfl ?_
  refine g_iload_n (pc' := 6) 1 O dX8_count_5 rfl rfl rfl ?_
  by_cases hs0 : p0 = (0 : Int32)
  · replace h := ip hs0 h
    refine g_tableIn (off := 30) (pc' := 36) O dX8_count_6 (by rw [hs0]; decide) (by rw [hs0]; decide) (by rw [hs0]; decide) (by decide) ?_
    refine g_aload_n (pc' := 37) 0 O dX8_count_36 rfl rfl rfl ?_
    replace h := ob h; obtain ⟨v2, ev2, h⟩ := h
    refine g_getF (C := RX8) (T := TX8) (N := 29) (ci := 5) (k := 1) (pc' := 40) O dX8_count_37 rfl inX8 (by decide) tw_717 (gN_F ev2) rfl ?_
    refine g_iconst (v := 0) (pc' := 41) O dX8_count_40 (by decide) rfl ?_
    replace h := ob h; obtain ⟨v3, ev3, h⟩ := h
    refine g_iald (pc' := 42) O dX8_count_41 ev3 rfl ?_
    cases h
    exact g_ireturn O dX8_count_42 rfl rfl hf (by decide) (by decide)
  replace h := ine hs0 h
  by_cases hs1 : p0 = (1 : Int32)
  · replace h := ip hs1 h
    refine g_tableIn (off := 37) (pc' := 43) O dX8_count_6 (by rw [hs1]; decide) (by rw [hs1]; decide) (by rw [hs1]; decide) (by decide) ?_
    refine g_aload_n (pc' := 44) 0 O dX8_count_43 rfl rfl rfl ?_
    replace h := ob h; obtain ⟨v4, ev4, h⟩ := h
    refine g_getF (C := RX8) (T := TX8) (N := 29) (ci := 5) (k := 10) (pc' := 47) O dX8_count_44 rfl inX8 (by decide) tw_726 (gN_F ev4) rfl ?_
    refine g_iconst (v := 0) (pc' := 48) O dX8_count_47 (by decide) rfl ?_
    replace h := ob h; obtain ⟨v5, ev5, h⟩ := h
    refine g_iald (pc' := 49) O dX8_count_48 ev5 rfl ?_
    cases h
    exact g_ireturn O dX8_count_49 rfl rfl hf (by decide) (by decide)
  replace h := ine hs1 h
  by_cases hs2 : p0 = (2 : Int32)
  · replace h := ip hs2 h
    refine g_tableIn (off := 44) (pc' := 50) O dX8_count_6 (by rw [hs2]; decide) (by rw [hs2]; decide) (by rw [hs2]; decide) (by decide) ?_
    refine g_aload_n (pc' := 51) 0 O dX8_count_50 rfl rfl rfl ?_
    replace h := ob h; obtain ⟨v6, ev6, h⟩ := h
    refine g_getF (C := RX8) (T := TX8) (N := 29) (ci := 5) (k := 14) (pc' := 54) O dX8_count_51 rfl inX8 (by decide) tw_730 (gN_F ev6) rfl ?_
    refine g_iconst (v := 0) (pc' := 55) O dX8_count_54 (by decide) rfl ?_
    replace h := ob h; obtain ⟨v7, ev7, h⟩ := h
    refine g_iald (pc' := 56) O dX8_count_55 ev7 rfl ?_
    cases h
    exact g_ireturn O dX8_count_56 rfl rfl hf (by decide) (by decide)
  replace h := ine hs2 h
  by_cases hs3 : p0 = (3 : Int32)
  · replace h := ip hs3 h
    refine g_tableIn (off := 51) (pc' := 57) O dX8_count_6 (by rw [hs3]; decide) (by rw [hs3]; decide) (by rw [hs3]; decide) (by decide) ?_
    refine g_aload_n (pc' := 58) 0 O dX8_count_57 rfl rfl rfl ?_
    replace h := ob h; obtain ⟨v8, ev8, h⟩ := h
    refine g_getF (C := RX8) (T := TX8) (N := 29) (ci := 5) (k := 17) (pc' := 61) O dX8_count_58 rfl inX8 (by decide) tw_733 (gN_F ev8) rfl ?_
    refine g_iconst (v := 0) (pc' := 62) O dX8_count_61 (by decide) rfl ?_
    replace h := ob h; obtain ⟨v9, ev9, h⟩ := h
    refine g_iald (pc' := 63) O dX8_count_62 ev9 rfl ?_
    cases h
    exact g_ireturn O dX8_count_63 rfl rfl hf (by decide) (by decide)
  replace h := ine hs3 h
  refine g_tableOut (pc' := 64) O dX8_count_6 (by have q0 := lv_neT hs0 (show (0 : Int32).toInt = 0 by decide); have q1 := lv_neT hs1 (show (1 : Int32).toInt = 1 by decide); have q2 := lv_neT hs2 (show (2 : Int32).toInt = 2 by decide); have q3 := lv_neT hs3 (show (3 : Int32).toInt = 3 by decide); omega) (by decide) ?_
  refine g_iconst (v := -1) (pc' := 65) O dX8_count_64 (by decide) rfl ?_
  cases h
  exact g_ireturn O dX8_count_65 rfl rfl hf (by decide) (by decide)
abbrev mX8_image : MD := (cX8_image, 2, RX8, (some .boolean), { frames := 2, cells := 0, slots := 0, locals := 47 }, "image")
theorem hyX8_image : yX8_image.cls ≠ "java/lang/invoke/MethodHandle" ∧ yX8_image.cls ≠ "java/lang/invoke/VarHandle" ∧ (parseMethodDescriptor yX8_image.desc).map (fun d => d.parameters.length) = some 1 := by decide +kernel
def fX8_image  (this : Nat) (p0 : Int32) (M : Mem) : Option (Int32 × Mem) :=
  (pF M 5 this 0 (.int (0 : Int32))).bind fun M1 =>
  (fX8_in p0 (0 : Int32) (2 : Int32) M1).bind fun r2 =>
  if r2.1 = 0 then ((nz (0 : Int32)).bind fun z8 =>
  some (z8, r2.2))
  else ((ck r2.2 5 this).bind fun u3 =>
  (fX8_copy this (0 : Int32) (p0 + (1 : Int32)) r2.2).bind fun r4 =>
  (gN r4 5 this 28).bind fun v5 =>
  (sZ r4 v5 p0 (1 : Int32)).bind fun M6 =>
  (nz (1 : Int32)).bind fun z7 =>
  some (z7, M6))
set_option maxHeartbeats 4000000 in
set_option maxRecDepth 100000 in
theorem okX8_image {l : Launch} {p : Int32 × Mem} {this : Nat} {p0 : Int32} {M : Mem} (h : fX8_image this p0 M = some p) : Cn l yX8_image mX8_image [.ref this, .int p0] M (some (.int p.1)) p.2 := by
  refine Cn.of [(0, .ref this), (1, .int p0)] (by decide) rfl rfl (Nat.le_of_ble_eq_true rfl) rfl (fun κ _ hf O => ?_)
  unfold fX8_image at h
  refine g_aload_n (pc' := 1) 0 O dX8_image_0 rfl rfl rfl ?_
  refine g_iconst (v := 0) (pc' := 2) O dX8_image_1 (by decide) rfl ?_
  replace h := ob h; obtain ⟨M1, eM1, h⟩ := h
  refine g_putF (C := RX8) (T := TX8) (N := 29) (ci := 5) (k := 0) (pc' := 5) O dX8_image_2 rfl inX8 (by decide) tw_716 tyX8 tyX8_ok nmX8 rfl rfl rfl rfl eM1 rfl ?_
  refine g_iload_n (pc' := 6) 1 O dX8_image_5 rfl rfl rfl ?_
  refine g_iconst (v := 0) (pc' := 7) O dX8_image_6 (by decide) rfl ?_
  refine g_iconst (v := 2) (pc' := 8) O dX8_image_7 (by decide) rfl ?_
  replace h := ob h; obtain ⟨r2, er2, h⟩ := h
  refine g_callS (y := yX8_in) (ν := mX8_in) (n := 3) (As := [.int p0, .int (0 : Int32), .int (2 : Int32)]) (b := 0) (st := []) (M2 := r2.2) (r1 := (some (.int r2.1))) (pc' := 11) O dX8_image_8 tw_811 tw_58 tw_810 tw_809 hyX8_in rfl (okX8_in er2) (Nat.le_of_ble_eq_true rfl) ⟨Nat.le_of_ble_eq_true rfl, Nat.le_of_ble_eq_true rfl⟩ ⟨Nat.le_of_ble_eq_true rfl, Nat.le_of_ble_eq_true rfl⟩ rfl ?_
  show G κ mX8_image 0 0 11 [(0, .ref this), (1, .int p0)] [.int r2.1] r2.2
  refine g_if_ne (tgt := 16) (pc' := 14) O dX8_image_11 (by decide) rfl (fun hc => ?_) (fun hc => ?_)
  · replace h := ine hc h
    refine g_aload_n (pc' := 17) 0 O dX8_image_16 rfl rfl rfl ?_
    refine g_iconst (v := 0) (pc' := 18) O dX8_image_17 (by decide) rfl ?_
    refine g_iload_n (pc' := 19) 1 O dX8_image_18 rfl rfl rfl ?_
    refine g_iconst (v := 1) (pc' := 20) O dX8_image_19 (by decide) rfl ?_
    refine g_iadd (pc' := 21) O dX8_image_20 rfl ?_
    replace h := ob h; obtain ⟨u3, eu3, h⟩ := h
    replace h := ob h; obtain ⟨r4, er4, h⟩ := h
    refine g_callV (y := yX8_copy) (ν := mX8_copy) (n := 2) (As := [.int (0 : Int32), .int (p0 + (1 : Int32))]) (b := this) (st := []) (M2 := r4) (r1 := none) (pc' := 24) O dX8_image_21 tw_1082 tw_58 tw_1081 tw_51 tw_1079 hyX8_copy rfl rfl eu3 (okX8_copy er4) (Nat.le_of_ble_eq_true rfl) ⟨Nat.le_of_ble_eq_true rfl, Nat.le_of_ble_eq_true rfl⟩ ⟨Nat.le_of_ble_eq_true rfl, Nat.le_of_ble_eq_true rfl⟩ rfl ?_
    show G κ mX8_image 0 0 24 [(0, .ref this), (1, .int p0)] [] r4
    refine g_aload_n (pc' := 25) 0 O dX8_image_24 rfl rfl rfl ?_
    replace h := ob h; obtain ⟨v5, ev5, h⟩ := h
    refine g_getF (C := RX8) (T := TX8) (N := 29) (ci := 5) (k := 28) (pc' := 28) O dX8_image_25 rfl inX8 (by decide) tw_744 (gN_F ev5) rfl ?_
    refine g_iload_n (pc' := 29) 1 O dX8_image_28 rfl rfl rfl ?_
    refine g_iconst (v := 1) (pc' := 30) O dX8_image_29 (by decide) rfl ?_
    replace h := ob h; obtain ⟨M6, eM6, h⟩ := h
    refine g_zast (pc' := 31) O dX8_image_30 eM6 rfl ?_
    refine g_iconst (v := 1) (pc' := 32) O dX8_image_31 (by decide) rfl ?_
    replace h := ob h; obtain ⟨z7, ez7, h⟩ := h
    obtain ⟨hz7, ez7b⟩ := nz_spec ez7
    rw [ez7b] at h
    cases h
    exact g_ireturn O dX8_image_32 rfl (nz_nar hz7) hf (by decide) (by decide)
  · replace h := ip hc h
    refine g_iconst (v := 0) (pc' := 15) O dX8_image_14 (by decide) rfl ?_
    replace h := ob h; obtain ⟨z8, ez8, h⟩ := h
    obtain ⟨hz8, ez8b⟩ := nz_spec ez8
    rw [ez8b] at h
    cases h
    exact g_ireturn O dX8_image_15 rfl (nz_nar hz8) hf (by decide) (by decide)
abbrev mX8_again : MD := (cX8_again, 2, RX8, (some .boolean), { frames := 2, cells := 0, slots := 0, locals := 47 }, "again")
theorem hyX8_again : yX8_again.cls ≠ "java/lang/invoke/MethodHandle" ∧ yX8_again.cls ≠ "java/lang/invoke/VarHandle" ∧ (parseMethodDescriptor yX8_again.desc).map (fun d => d.parameters.length) = some 1 := by decide +kernel
def fX8_again_23  (M : Mem) : Option (Int32 × Mem) :=
  (nz (0 : Int32)).bind fun z1 =>
  some (z1, M)
set_option maxHeartbeats 4000000 in
set_option maxRecDepth 100000 in
theorem tX8_again_23 {κ : KT} {p : Int32 × Mem} (O : OkK κ mX8_again) (hf : κ.2.2.2.2.2.2.2.2.2.2.2.2.2 = (some (.int p.1), p.2))  {M : Mem} (h : fX8_again_23  M = some p) : G κ mX8_again 0 0 23 [] [] M := by
  unfold fX8_again_23 at h
  refine g_iconst (v := 0) (pc' := 24) O dX8_again_23 (by decide) rfl ?_
  replace h := ob h; obtain ⟨z1, ez1, h⟩ := h
  obtain ⟨hz1, ez1b⟩ := nz_spec ez1
  rw [ez1b] at h
  cases h
  exact g_ireturn O dX8_again_24 rfl (nz_nar hz1) hf (by decide) (by decide)
def fX8_again  (this : Nat) (p0 : Int32) (M : Mem) : Option (Int32 × Mem) :=
  (pF M 5 this 0 (.int (0 : Int32))).bind fun M1 =>
  (fX8_in p0 (0 : Int32) (2 : Int32) M1).bind fun r2 =>
  if r2.1 = 0 then (fX8_again_23 r2.2)
  else ((gN r2.2 5 this 28).bind fun v3 =>
  (aZ r2.2 v3 p0).bind fun v4 =>
  if v4 = 0 then (fX8_again_23 r2.2)
  else ((ck r2.2 5 this).bind fun u5 =>
  (fX8_copy this (p0 + (1 : Int32)) (0 : Int32) r2.2).bind fun r6 =>
  (nz (1 : Int32)).bind fun z7 =>
  some (z7, r6)))
set_option maxHeartbeats 4000000 in
set_option maxRecDepth 100000 in
theorem okX8_again {l : Launch} {p : Int32 × Mem} {this : Nat} {p0 : Int32} {M : Mem} (h : fX8_again this p0 M = some p) : Cn l yX8_again mX8_again [.ref this, .int p0] M (some (.int p.1)) p.2 := by
  refine Cn.of [(0, .ref this), (1, .int p0)] (by decide) rfl rfl (Nat.le_of_ble_eq_true rfl) rfl (fun κ _ hf O => ?_)
  unfold fX8_again at h
  refine g_aload_n (pc' := 1) 0 O dX8_again_0 rfl rfl rfl ?_
  refine g_iconst (v := 0) (pc' := 2) O dX8_again_1 (by decide) rfl ?_
  replace h := ob h; obtain ⟨M1, eM1, h⟩ := h
  refine g_putF (C := RX8) (T := TX8) (N := 29) (ci := 5) (k := 0) (pc' := 5) O dX8_again_2 rfl inX8 (by decide) tw_716 tyX8 tyX8_ok nmX8 rfl rfl rfl rfl eM1 rfl ?_
  refine g_iload_n (pc' := 6) 1 O dX8_again_5 rfl rfl rfl ?_
  refine g_iconst (v := 0) (pc' := 7) O dX8_again_6 (by decide) rfl ?_
  refine g_iconst (v := 2) (pc' := 8) O dX8_again_7 (by decide) rfl ?_
  replace h := ob h; obtain ⟨r2, er2, h⟩ := h
  refine g_callS (y := yX8_in) (ν := mX8_in) (n := 3) (As := [.int p0, .int (0 : Int32), .int (2 : Int32)]) (b := 0) (st := []) (M2 := r2.2) (r1 := (some (.int r2.1))) (pc' := 11) O dX8_again_8 tw_811 tw_58 tw_810 tw_809 hyX8_in rfl (okX8_in er2) (Nat.le_of_ble_eq_true rfl) ⟨Nat.le_of_ble_eq_true rfl, Nat.le_of_ble_eq_true rfl⟩ ⟨Nat.le_of_ble_eq_true rfl, Nat.le_of_ble_eq_true rfl⟩ rfl ?_
  show G κ mX8_again 0 0 11 [(0, .ref this), (1, .int p0)] [.int r2.1] r2.2
  refine g_if_eq (tgt := 23) (pc' := 14) O dX8_again_11 (by decide) rfl (fun hc => ?_) (fun hc => ?_)
  · replace h := ip hc h
    refine g_sub (lv' := []) [] rfl ?_
    exact tX8_again_23 O hf h
  · replace h := ine hc h
    refine g_aload_n (pc' := 15) 0 O dX8_again_14 rfl rfl rfl ?_
    replace h := ob h; obtain ⟨v3, ev3, h⟩ := h
    refine g_getF (C := RX8) (T := TX8) (N := 29) (ci := 5) (k := 28) (pc' := 18) O dX8_again_15 rfl inX8 (by decide) tw_744 (gN_F ev3) rfl ?_
    refine g_iload_n (pc' := 19) 1 O dX8_again_18 rfl rfl rfl ?_
    replace h := ob h; obtain ⟨v4, ev4, h⟩ := h
    refine g_zald (pc' := 20) O dX8_again_19 ev4 rfl ?_
    refine g_if_ne (tgt := 25) (pc' := 23) O dX8_again_20 (by decide) rfl (fun hc => ?_) (fun hc => ?_)
    · replace h := ine hc h
      refine g_aload_n (pc' := 26) 0 O dX8_again_25 rfl rfl rfl ?_
      refine g_iload_n (pc' := 27) 1 O dX8_again_26 rfl rfl rfl ?_
      refine g_iconst (v := 1) (pc' := 28) O dX8_again_27 (by decide) rfl ?_
      refine g_iadd (pc' := 29) O dX8_again_28 rfl ?_
      refine g_iconst (v := 0) (pc' := 30) O dX8_again_29 (by decide) rfl ?_
      replace h := ob h; obtain ⟨u5, eu5, h⟩ := h
      replace h := ob h; obtain ⟨r6, er6, h⟩ := h
      refine g_callV (y := yX8_copy) (ν := mX8_copy) (n := 2) (As := [.int (p0 + (1 : Int32)), .int (0 : Int32)]) (b := this) (st := []) (M2 := r6) (r1 := none) (pc' := 33) O dX8_again_30 tw_1082 tw_58 tw_1081 tw_51 tw_1079 hyX8_copy rfl rfl eu5 (okX8_copy er6) (Nat.le_of_ble_eq_true rfl) ⟨Nat.le_of_ble_eq_true rfl, Nat.le_of_ble_eq_true rfl⟩ ⟨Nat.le_of_ble_eq_true rfl, Nat.le_of_ble_eq_true rfl⟩ rfl ?_
      show G κ mX8_again 0 0 33 [(0, .ref this), (1, .int p0)] [] r6
      refine g_iconst (v := 1) (pc' := 34) O dX8_again_33 (by decide) rfl ?_
      replace h := ob h; obtain ⟨z7, ez7, h⟩ := h
      obtain ⟨hz7, ez7b⟩ := nz_spec ez7
      rw [ez7b] at h
      cases h
      exact g_ireturn O dX8_again_34 rfl (nz_nar hz7) hf (by decide) (by decide)
    · replace h := ip hc h
      refine g_sub (lv' := []) [] rfl ?_
      exact tX8_again_23 O hf h
