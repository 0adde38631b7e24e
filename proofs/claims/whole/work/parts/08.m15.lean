abbrev mX8_make : MD := (cX8_make, 6, RX8, (some .boolean), { frames := 4, cells := 0, slots := 0, locals := 94 }, "make")
theorem hyX8_make : yX8_make.cls ≠ "java/lang/invoke/MethodHandle" ∧ yX8_make.cls ≠ "java/lang/invoke/VarHandle" ∧ (parseMethodDescriptor yX8_make.desc).map (fun d => d.parameters.length) = some 4 := by decide +kernel
def fX8_make_56  (s0 : Int32) (M : Mem) : Option (Int32 × Mem) :=
  (nz s0).bind fun z1 =>
  some (z1, M)
set_option maxHeartbeats 4000000 in
set_option maxRecDepth 100000 in
theorem tX8_make_56 {κ : KT} {p : Int32 × Mem} (O : OkK κ mX8_make) (hf : κ.2.2.2.2.2.2.2.2.2.2.2.2.2 = (some (.int p.1), p.2))  {s0 : Int32} {M : Mem} (h : fX8_make_56  s0 M = some p) : G κ mX8_make 0 0 56 [] [.int s0] M := by
  unfold fX8_make_56 at h
  replace h := ob h; obtain ⟨z1, ez1, h⟩ := h
  obtain ⟨hz1, ez1b⟩ := nz_spec ez1
  rw [ez1b] at h
  cases h
  exact g_ireturn O dX8_make_56 rfl (nz_nar hz1) hf (by decide) (by decide)
def fX8_make_55  (M : Mem) : Option (Int32 × Mem) :=
  fX8_make_56 (0 : Int32) M
set_option maxHeartbeats 4000000 in
set_option maxRecDepth 100000 in
theorem tX8_make_55 {κ : KT} {p : Int32 × Mem} (O : OkK κ mX8_make) (hf : κ.2.2.2.2.2.2.2.2.2.2.2.2.2 = (some (.int p.1), p.2))  {M : Mem} (h : fX8_make_55  M = some p) : G κ mX8_make 0 0 55 [] [] M := by
  unfold fX8_make_55 at h
  refine g_iconst (v := 0) (pc' := 56) O dX8_make_55 (by decide) rfl ?_
  exact tX8_make_56 O hf h
def fX8_make_51  (M : Mem) : Option (Int32 × Mem) :=
  fX8_make_56 (1 : Int32) M
set_option maxHeartbeats 4000000 in
set_option maxRecDepth 100000 in
theorem tX8_make_51 {κ : KT} {p : Int32 × Mem} (O : OkK κ mX8_make) (hf : κ.2.2.2.2.2.2.2.2.2.2.2.2.2 = (some (.int p.1), p.2))  {M : Mem} (h : fX8_make_51  M = some p) : G κ mX8_make 0 0 51 [] [] M := by
  unfold fX8_make_51 at h
  refine g_iconst (v := 1) (pc' := 52) O dX8_make_51 (by decide) rfl ?_
  refine g_goto (pc' := 56) O dX8_make_52 (by decide) ?_
  exact tX8_make_56 O hf h
def fX8_make  (this : Nat) (p0 : Int32) (p1 : Int32) (p2 : Int64) (p3 : Int32) (M : Mem) : Option (Int32 × Mem) :=
  (pF M 5 this 26 (.int (0 : Int32))).bind fun M1 =>
  (ck M1 5 this).bind fun u2 =>
  (fX8_isLand this p0 M1).bind fun r3 =>
  if r3.1 = 0 then (fX8_make_55 r3.2)
  else ((fX8_in p1 (0 : Int32) (2 : Int32) r3.2).bind fun r4 =>
  if r4.1 = 0 then (fX8_make_55 r4.2)
  else (if p1 = (2 : Int32) then ((ck r4.2 5 this).bind fun u7 =>
  (fX8_makeDay this p0 p2 r4.2).bind fun r8 =>
  if r8.1 = 0 then (fX8_make_55 r8.2)
  else (fX8_make_51 r8.2))
  else ((ck r4.2 5 this).bind fun u5 =>
  (fX8_makeAmount this p0 p1 p2 p3 r4.2).bind fun r6 =>
  if r6.1 = 0 then (fX8_make_55 r6.2)
  else (fX8_make_51 r6.2))))
set_option maxHeartbeats 4000000 in
set_option maxRecDepth 100000 in
theorem okX8_make {l : Launch} {p : Int32 × Mem} {this : Nat} {p0 : Int32} {p1 : Int32} {p2 : Int64} {p3 : Int32} {M : Mem} (h : fX8_make this p0 p1 p2 p3 M = some p) : Cn l yX8_make mX8_make [.ref this, .int p0, .int p1, .long p2, .int p3] M (some (.int p.1)) p.2 := by
  refine Cn.of [(0, .ref this), (1, .int p0), (2, .int p1), (3, .long p2), (5, .int p3)] (by decide) rfl rfl (Nat.le_of_ble_eq_true rfl) rfl (fun κ _ hf O => ?_)
  unfold fX8_make at h
  refine g_aload_n (pc' := 1) 0 O dX8_make_0 rfl rfl rfl ?_
  refine g_iconst (v := 0) (pc' := 2) O dX8_make_1 (by decide) rfl ?_
  replace h := ob h; obtain ⟨M1, eM1, h⟩ := h
  refine g_putF (C := RX8) (T := TX8) (N := 29) (ci := 5) (k := 26) (pc' := 5) O dX8_make_2 rfl inX8 (by decide) tw_742 tyX8 tyX8_ok nmX8 rfl rfl rfl rfl eM1 rfl ?_
  refine g_aload_n (pc' := 6) 0 O dX8_make_5 rfl rfl rfl ?_
  refine g_iload_n (pc' := 7) 1 O dX8_make_6 rfl rfl rfl ?_
  replace h := ob h; obtain ⟨u2, eu2, h⟩ := h
  replace h := ob h; obtain ⟨r3, er3, h⟩ := h
  refine g_callV (y := yX8_isLand) (ν := mX8_isLand) (n := 1) (As := [.int p0]) (b := this) (st := []) (M2 := r3.2) (r1 := (some (.int r3.1))) (pc' := 10) O dX8_make_7 tw_835 tw_58 tw_834 tw_19 tw_832 hyX8_isLand rfl rfl eu2 (okX8_isLand er3) (Nat.le_of_ble_eq_true rfl) ⟨Nat.le_of_ble_eq_true rfl, Nat.le_of_ble_eq_true rfl⟩ ⟨Nat.le_of_ble_eq_true rfl, Nat.le_of_ble_eq_true rfl⟩ rfl ?_
  show G κ mX8_make 0 0 10 [(0, .ref this), (1, .int p0), (2, .int p1), (3, .long p2), (5, .int p3)] [.int r3.1] r3.2
  refine g_if_eq (tgt := 55) (pc' := 13) O dX8_make_10 (by decide) rfl (fun hc => ?_) (fun hc => ?_)
  · replace h := ip hc h
    refine g_sub (lv' := []) [] rfl ?_
    exact tX8_make_55 O hf h
  · replace h := ine hc h
    refine g_iload_n (pc' := 14) 2 O dX8_make_13 rfl rfl rfl ?_
    refine g_iconst (v := 0) (pc' := 15) O dX8_make_14 (by decide) rfl ?_
    refine g_iconst (v := 2) (pc' := 16) O dX8_make_15 (by decide) rfl ?_
    replace h := ob h; obtain ⟨r4, er4, h⟩ := h
    refine g_callS (y := yX8_in) (ν := mX8_in) (n := 3) (As := [.int p1, .int (0 : Int32), .int (2 : Int32)]) (b := 0) (st := []) (M2 := r4.2) (r1 := (some (.int r4.1))) (pc' := 19) O dX8_make_16 tw_811 tw_58 tw_810 tw_809 hyX8_in rfl (okX8_in er4) (Nat.le_of_ble_eq_true rfl) ⟨Nat.le_of_ble_eq_true rfl, Nat.le_of_ble_eq_true rfl⟩ ⟨Nat.le_of_ble_eq_true rfl, Nat.le_of_ble_eq_true rfl⟩ rfl ?_
    show G κ mX8_make 0 0 19 [(0, .ref this), (1, .int p0), (2, .int p1), (3, .long p2), (5, .int p3)] [.int r4.1] r4.2
    refine g_if_eq (tgt := 55) (pc' := 22) O dX8_make_19 (by decide) rfl (fun hc => ?_) (fun hc => ?_)
    · replace h := ip hc h
      refine g_sub (lv' := []) [] rfl ?_
      exact tX8_make_55 O hf h
    · replace h := ine hc h
      refine g_iload_n (pc' := 23) 2 O dX8_make_22 rfl rfl rfl ?_
      refine g_iconst (v := 2) (pc' := 24) O dX8_make_23 (by decide) rfl ?_
      refine g_icmp_ne (tgt := 39) (pc' := 27) O dX8_make_24 (by decide) rfl (fun hc => ?_) (fun hc => ?_)
      · replace h := ine hc h
        refine g_aload_n (pc' := 40) 0 O dX8_make_39 rfl rfl rfl ?_
        refine g_iload_n (pc' := 41) 1 O dX8_make_40 rfl rfl rfl ?_
        refine g_iload_n (pc' := 42) 2 O dX8_make_41 rfl rfl rfl ?_
        refine g_lload_n (pc' := 43) 3 O dX8_make_42 rfl rfl rfl ?_
        refine g_iload (pc' := 45) 4 O dX8_make_43 rfl rfl ?_
        replace h := ob h; obtain ⟨u5, eu5, h⟩ := h
        replace h := ob h; obtain ⟨r6, er6, h⟩ := h
        refine g_callV (y := yX8_makeAmount) (ν := mX8_makeAmount) (n := 4) (As := [.int p0, .int p1, .long p2, .int p3]) (b := this) (st := []) (M2 := r6.2) (r1 := (some (.int r6.1))) (pc' := 48) O dX8_make_45 tw_943 tw_58 tw_942 tw_38 tw_940 hyX8_makeAmount rfl rfl eu5 (okX8_makeAmount er6) (Nat.le_of_ble_eq_true rfl) ⟨Nat.le_of_ble_eq_true rfl, Nat.le_of_ble_eq_true rfl⟩ ⟨Nat.le_of_ble_eq_true rfl, Nat.le_of_ble_eq_true rfl⟩ rfl ?_
        show G κ mX8_make 0 0 48 [(0, .ref this), (1, .int p0), (2, .int p1), (3, .long p2), (5, .int p3)] [.int r6.1] r6.2
        refine g_if_eq (tgt := 55) (pc' := 51) O dX8_make_48 (by decide) rfl (fun hc => ?_) (fun hc => ?_)
        · replace h := ip hc h
          refine g_sub (lv' := []) [] rfl ?_
          exact tX8_make_55 O hf h
        · replace h := ine hc h
          refine g_sub (lv' := []) [] rfl ?_
          exact tX8_make_51 O hf h
      · replace h := ip hc h
        refine g_aload_n (pc' := 28) 0 O dX8_make_27 rfl rfl rfl ?_
        refine g_iload_n (pc' := 29) 1 O dX8_make_28 rfl rfl rfl ?_
        refine g_lload_n (pc' := 30) 3 O dX8_make_29 rfl rfl rfl ?_
        replace h := ob h; obtain ⟨u7, eu7, h⟩ := h
        replace h := ob h; obtain ⟨r8, er8, h⟩ := h
        refine g_callV (y := yX8_makeDay) (ν := mX8_makeDay) (n := 2) (As := [.int p0, .long p2]) (b := this) (st := []) (M2 := r8.2) (r1 := (some (.int r8.1))) (pc' := 33) O dX8_make_30 tw_930 tw_58 tw_929 tw_35 tw_927 hyX8_makeDay rfl rfl eu7 (okX8_makeDay er8) (Nat.le_of_ble_eq_true rfl) ⟨Nat.le_of_ble_eq_true rfl, Nat.le_of_ble_eq_true rfl⟩ ⟨Nat.le_of_ble_eq_true rfl, Nat.le_of_ble_eq_true rfl⟩ rfl ?_
        show G κ mX8_make 0 0 33 [(0, .ref this), (1, .int p0), (2, .int p1), (3, .long p2), (5, .int p3)] [.int r8.1] r8.2
        refine g_if_eq (tgt := 55) (pc' := 36) O dX8_make_33 (by decide) rfl (fun hc => ?_) (fun hc => ?_)
        · replace h := ip hc h
          refine g_sub (lv' := []) [] rfl ?_
          exact tX8_make_55 O hf h
        · replace h := ine hc h
          refine g_goto (pc' := 51) O dX8_make_36 (by decide) ?_
          refine g_sub (lv' := []) [] rfl ?_
          exact tX8_make_51 O hf h
abbrev mX8_keep : MD := (cX8_keep, 2, RX8, (some .int), { frames := 0, cells := 0, slots := 0, locals := 0 }, "keep")
theorem hyX8_keep : yX8_keep.cls ≠ "java/lang/invoke/MethodHandle" ∧ yX8_keep.cls ≠ "java/lang/invoke/VarHandle" ∧ (parseMethodDescriptor yX8_keep.desc).map (fun d => d.parameters.length) = some 0 := by decide +kernel
def fX8_keep_12  : Nat → Nat → Int32 → Mem → Option (Int32 × Mem)
  | 0, _, _, _ => none
  | n + 1, x0, x1, M =>
    (gI M 5 x0 26).bind fun v1 =>
    if v1 ≤ x1 then ((gI M 5 x0 26).bind fun v2 =>
    some (v2, M))
    else ((gN M 5 x0 18).bind fun v3 =>
    (gN M 5 x0 25).bind fun v4 =>
    (aI M v4 x1).bind fun v5 =>
    (sI M v3 x1 v5).bind fun M6 =>
    fX8_keep_12 n x0 (x1 + (1 : Int32)) M6)
set_option maxHeartbeats 4000000 in
set_option maxRecDepth 100000 in
theorem tX8_keep_12 {κ : KT} {p : Int32 × Mem} (O : OkK κ mX8_keep) (hf : κ.2.2.2.2.2.2.2.2.2.2.2.2.2 = (some (.int p.1), p.2))  : ∀ (n : Nat) (x0 : Nat) (x1 : Int32) (M : Mem), fX8_keep_12  n x0 x1 M = some p → G κ mX8_keep 0 0 12 [(0, .ref x0), (1, .int x1)] [] M := by
  intro n
  induction n with
  | zero => intro x0 x1 M h; cases h
  | succ n ih =>
    intro x0 x1 M h
    rw [fX8_keep_12] at h
    refine g_iload_n (pc' := 13) 1 O dX8_keep_12 rfl rfl rfl ?_
    refine g_aload_n (pc' := 14) 0 O dX8_keep_13 rfl rfl rfl ?_
    replace h := ob h; obtain ⟨v1, ev1, h⟩ := h
    refine g_getF (C := RX8) (T := TX8) (N := 29) (ci := 5) (k := 26) (pc' := 17) O dX8_keep_14 rfl inX8 (by decide) tw_742 (gI_F ev1) rfl ?_
    refine g_icmp_ge (tgt := 38) (pc' := 20) O dX8_keep_17 (by decide) rfl (fun hc => ?_) (fun hc => ?_)
    · replace h := ip hc h
      refine g_aload_n (pc' := 39) 0 O dX8_keep_38 rfl rfl rfl ?_
      replace h := ob h; obtain ⟨v2, ev2, h⟩ := h
      refine g_getF (C := RX8) (T := TX8) (N := 29) (ci := 5) (k := 26) (pc' := 42) O dX8_keep_39 rfl inX8 (by decide) tw_742 (gI_F ev2) rfl ?_
      cases h
      exact g_ireturn O dX8_keep_42 rfl rfl hf (by decide) (by decide)
    · replace h := ine hc h
      refine g_aload_n (pc' := 21) 0 O dX8_keep_20 rfl rfl rfl ?_
      replace h := ob h; obtain ⟨v3, ev3, h⟩ := h
      refine g_getF (C := RX8) (T := TX8) (N := 29) (ci := 5) (k := 18) (pc' := 24) O dX8_keep_21 rfl inX8 (by decide) tw_734 (gN_F ev3) rfl ?_
      refine g_iload_n (pc' := 25) 1 O dX8_keep_24 rfl rfl rfl ?_
      refine g_aload_n (pc' := 26) 0 O dX8_keep_25 rfl rfl rfl ?_
      replace h := ob h; obtain ⟨v4, ev4, h⟩ := h
      refine g_getF (C := RX8) (T := TX8) (N := 29) (ci := 5) (k := 25) (pc' := 29) O dX8_keep_26 rfl inX8 (by decide) tw_741 (gN_F ev4) rfl ?_
      refine g_iload_n (pc' := 30) 1 O dX8_keep_29 rfl rfl rfl ?_
      replace h := ob h; obtain ⟨v5, ev5, h⟩ := h
      refine g_iald (pc' := 31) O dX8_keep_30 ev5 rfl ?_
      replace h := ob h; obtain ⟨M6, eM6, h⟩ := h
      refine g_iast (pc' := 32) O dX8_keep_31 eM6 rfl ?_
      refine g_iinc (q := 1) (v := x1 + (1 : Int32)) (lv' := [(1, .int (x1 + (1 : Int32))), (0, .ref x0)]) (pc' := 35) O dX8_keep_32 rfl rfl (by decide) rfl rfl ?_
      refine g_goto (pc' := 12) O dX8_keep_35 (by decide) ?_
      refine g_sub (lv' := [(0, .ref x0), (1, .int (x1 + (1 : Int32)))]) [1, 0] rfl ?_
      exact ih x0 (x1 + (1 : Int32)) M6 h
def fX8_keep  (this : Nat) (M : Mem) : Option (Int32 × Mem) :=
  (gN M 5 this 17).bind fun v1 =>
  (gI M 5 this 26).bind fun v2 =>
  (sI M v1 (0 : Int32) v2).bind fun M3 =>
  fX8_keep_12 FU this (0 : Int32) M3
set_option maxHeartbeats 4000000 in
set_option maxRecDepth 100000 in
theorem okX8_keep {l : Launch} {p : Int32 × Mem} {this : Nat} {M : Mem} (h : fX8_keep this M = some p) : Cn l yX8_keep mX8_keep [.ref this] M (some (.int p.1)) p.2 := by
  refine Cn.of [(0, .ref this)] (by decide) rfl rfl (Nat.le_of_ble_eq_true rfl) rfl (fun κ _ hf O => ?_)
  unfold fX8_keep at h
  refine g_aload_n (pc' := 1) 0 O dX8_keep_0 rfl rfl rfl ?_
  replace h := ob h; obtain ⟨v1, ev1, h⟩ := h
  refine g_getF (C := RX8) (T := TX8) (N := 29) (ci := 5) (k := 17) (pc' := 4) O dX8_keep_1 rfl inX8 (by decide) tw_733 (gN_F ev1) rfl ?_
  refine g_iconst (v := 0) (pc' := 5) O dX8_keep_4 (by decide) rfl ?_
  refine g_aload_n (pc' := 6) 0 O dX8_keep_5 rfl rfl rfl ?_
  replace h := ob h; obtain ⟨v2, ev2, h⟩ := h
  refine g_getF (C := RX8) (T := TX8) (N := 29) (ci := 5) (k := 26) (pc' := 9) O dX8_keep_6 rfl inX8 (by decide) tw_742 (gI_F ev2) rfl ?_
  replace h := ob h; obtain ⟨M3, eM3, h⟩ := h
  refine g_iast (pc' := 10) O dX8_keep_9 eM3 rfl ?_
  refine g_iconst (v := 0) (pc' := 11) O dX8_keep_10 (by decide) rfl ?_
  refine g_istore_n (lv' := [(1, .int (0 : Int32)), (0, .ref this)]) (pc' := 12) O dX8_keep_11 rfl (by decide) rfl rfl ?_
  refine g_sub (lv' := [(0, .ref this), (1, .int (0 : Int32))]) [1, 0] rfl ?_
  exact tX8_keep_12 O hf FU this (0 : Int32) M3 h
abbrev mX8_show : MD := (cX8_show, 6, RX8, (some .int), { frames := 5, cells := 0, slots := 0, locals := 119 }, "show")
theorem hyX8_show : yX8_show.cls ≠ "java/lang/invoke/MethodHandle" ∧ yX8_show.cls ≠ "java/lang/invoke/VarHandle" ∧ (parseMethodDescriptor yX8_show.desc).map (fun d => d.parameters.length) = some 4 := by decide +kernel
def fX8_show_25  (s0 : Int32) (M : Mem) : Option (Int32 × Mem) :=
  some (s0, M)
set_option maxHeartbeats 4000000 in
set_option maxRecDepth 100000 in
theorem tX8_show_25 {κ : KT} {p : Int32 × Mem} (O : OkK κ mX8_show) (hf : κ.2.2.2.2.2.2.2.2.2.2.2.2.2 = (some (.int p.1), p.2))  {s0 : Int32} {M : Mem} (h : fX8_show_25  s0 M = some p) : G κ mX8_show 0 0 25 [] [.int s0] M := by
  unfold fX8_show_25 at h
  cases h
  exact g_ireturn O dX8_show_25 rfl rfl hf (by decide) (by decide)
def fX8_show  (this : Nat) (p0 : Int32) (p1 : Int32) (p2 : Int64) (p3 : Int32) (M : Mem) : Option (Int32 × Mem) :=
  (pF M 5 this 0 (.int (0 : Int32))).bind fun M1 =>
  (ck M1 5 this).bind fun u2 =>
  (fX8_make this p0 p1 p2 p3 M1).bind fun r3 =>
  if r3.1 = 0 then (fX8_show_25 (-1 : Int32) r3.2)
  else ((ck r3.2 5 this).bind fun u4 =>
  (fX8_keep this r3.2).bind fun r5 =>
  fX8_show_25 r5.1 r5.2)
set_option maxHeartbeats 4000000 in
set_option maxRecDepth 100000 in
theorem okX8_show {l : Launch} {p : Int32 × Mem} {this : Nat} {p0 : Int32} {p1 : Int32} {p2 : Int64} {p3 : Int32} {M : Mem} (h : fX8_show this p0 p1 p2 p3 M = some p) : Cn l yX8_show mX8_show [.ref this, .int p0, .int p1, .long p2, .int p3] M (some (.int p.1)) p.2 := by
  refine Cn.of [(0, .ref this), (1, .int p0), (2, .int p1), (3, .long p2), (5, .int p3)] (by decide) rfl rfl (Nat.le_of_ble_eq_true rfl) rfl (fun κ _ hf O => ?_)
  unfold fX8_show at h
  refine g_aload_n (pc' := 1) 0 O dX8_show_0 rfl rfl rfl ?_
  refine g_iconst (v := 0) (pc' := 2) O dX8_show_1 (by decide) rfl ?_
  replace h := ob h; obtain ⟨M1, eM1, h⟩ := h
  refine g_putF (C := RX8) (T := TX8) (N := 29) (ci := 5) (k := 0) (pc' := 5) O dX8_show_2 rfl inX8 (by decide) tw_716 tyX8 tyX8_ok nmX8 rfl rfl rfl rfl eM1 rfl ?_
  refine g_aload_n (pc' := 6) 0 O dX8_show_5 rfl rfl rfl ?_
  refine g_iload_n (pc' := 7) 1 O dX8_show_6 rfl rfl rfl ?_
  refine g_iload_n (pc' := 8) 2 O dX8_show_7 rfl rfl rfl ?_
  refine g_lload_n (pc' := 9) 3 O dX8_show_8 rfl rfl rfl ?_
  refine g_iload (pc' := 11) 4 O dX8_show_9 rfl rfl ?_
  replace h := ob h; obtain ⟨u2, eu2, h⟩ := h
  replace h := ob h; obtain ⟨r3, er3, h⟩ := h
  refine g_callV (y := yX8_make) (ν := mX8_make) (n := 4) (As := [.int p0, .int p1, .long p2, .int p3]) (b := this) (st := []) (M2 := r3.2) (r1 := (some (.int r3.1))) (pc' := 14) O dX8_show_11 tw_926 tw_58 tw_925 tw_34 tw_923 hyX8_make rfl rfl eu2 (okX8_make er3) (Nat.le_of_ble_eq_true rfl) ⟨Nat.le_of_ble_eq_true rfl, Nat.le_of_ble_eq_true rfl⟩ ⟨Nat.le_of_ble_eq_true rfl, Nat.le_of_ble_eq_true rfl⟩ rfl ?_
  show G κ mX8_show 0 0 14 [(0, .ref this), (1, .int p0), (2, .int p1), (3, .long p2), (5, .int p3)] [.int r3.1] r3.2
  refine g_if_eq (tgt := 24) (pc' := 17) O dX8_show_14 (by decide) rfl (fun hc => ?_) (fun hc => ?_)
  · replace h := ip hc h
    refine g_iconst (v := -1) (pc' := 25) O dX8_show_24 (by decide) rfl ?_
    refine g_sub (lv' := []) [] rfl ?_
    exact tX8_show_25 O hf h
  · replace h := ine hc h
    refine g_aload_n (pc' := 18) 0 O dX8_show_17 rfl rfl rfl ?_
    replace h := ob h; obtain ⟨u4, eu4, h⟩ := h
    replace h := ob h; obtain ⟨r5, er5, h⟩ := h
    refine g_callV (y := yX8_keep) (ν := mX8_keep) (n := 0) (As := []) (b := this) (st := []) (M2 := r5.2) (r1 := (some (.int r5.1))) (pc' := 21) O dX8_show_18 tw_955 tw_58 tw_954 tw_40 tw_952 hyX8_keep rfl rfl eu4 (okX8_keep er5) (Nat.le_of_ble_eq_true rfl) ⟨Nat.le_of_ble_eq_true rfl, Nat.le_of_ble_eq_true rfl⟩ ⟨Nat.le_of_ble_eq_true rfl, Nat.le_of_ble_eq_true rfl⟩ rfl ?_
    show G κ mX8_show 0 0 21 [(0, .ref this), (1, .int p0), (2, .int p1), (3, .long p2), (5, .int p3)] [.int r5.1] r5.2
    refine g_goto (pc' := 25) O dX8_show_21 (by decide) ?_
    refine g_sub (lv' := []) [] rfl ?_
    exact tX8_show_25 O hf h
abbrev mX8_sayWord : MD := (cX8_sayWord, 5, RX8, none, { frames := 1, cells := 0, slots := 0, locals := 21 }, "sayWord")
theorem hyX8_sayWord : yX8_sayWord.cls ≠ "java/lang/invoke/MethodHandle" ∧ yX8_sayWord.cls ≠ "java/lang/invoke/VarHandle" ∧ (parseMethodDescriptor yX8_sayWord.desc).map (fun d => d.parameters.length) = some 1 := by decide +kernel
def fX8_sayWord_41 (k16 : Nat → Int64 → Int32 → Mem → Option (Mem)) (x0 : Nat) (x1 : Int64) (x3 : Int32) (M : Mem) : Option (Mem) :=
  k16 x0 x1 (x3 + (-8 : Int32)) M
set_option maxHeartbeats 4000000 in
set_option maxRecDepth 100000 in
theorem tX8_sayWord_41 {κ : KT} {p : Mem} (O : OkK κ mX8_sayWord) (hf : κ.2.2.2.2.2.2.2.2.2.2.2.2.2 = (none, p)) {k16 : Nat → Int64 → Int32 → Mem → Option (Mem)} (hk16 : ∀ (x0 : Nat) (x1 : Int64) (x3 : Int32) (M : Mem), k16 x0 x1 x3 M = some p → G κ mX8_sayWord 0 0 16 [(0, .ref x0), (1, .long x1), (3, .int x3)] [] M) {x0 : Nat} {x1 : Int64} {x3 : Int32} {M : Mem} (h : fX8_sayWord_41 k16 x0 x1 x3 M = some p) : G κ mX8_sayWord 0 0 41 [(0, .ref x0), (1, .long x1), (3, .int x3)] [] M := by
  unfold fX8_sayWord_41 at h
  refine g_iinc (q := 2) (v := x3 + (-8 : Int32)) (lv' := [(3, .int (x3 + (-8 : Int32))), (0, .ref x0), (1, .long x1)]) (pc' := 44) O dX8_sayWord_41 rfl rfl (by decide) rfl rfl ?_
  refine g_goto (pc' := 16) O dX8_sayWord_44 (by decide) ?_
  refine g_sub (lv' := [(0, .ref x0), (1, .long x1), (3, .int (x3 + (-8 : Int32)))]) [1, 2, 0] rfl ?_
  exact hk16 x0 x1 (x3 + (-8 : Int32)) M h
def fX8_sayWord_16  : Nat → Nat → Int64 → Int32 → Mem → Option (Mem)
  | 0, _, _, _, _ => none
  | n + 1, x0, x1, x3, M =>
    if x3 < 0 then (some M)
    else (if (((x1 >>> (x3.toInt64 &&& 63)) &&& (255 : Int64)).toInt32) = 0 then (fX8_sayWord_41 (fX8_sayWord_16 n) x0 x1 x3 M)
    else ((ck M 5 x0).bind fun u1 =>
    (fX8_say x0 (((x1 >>> (x3.toInt64 &&& 63)) &&& (255 : Int64)).toInt32) M).bind fun r2 =>
    fX8_sayWord_41 (fX8_sayWord_16 n) x0 x1 x3 r2))
set_option maxHeartbeats 4000000 in
set_option maxRecDepth 100000 in
theorem tX8_sayWord_16 {κ : KT} {p : Mem} (O : OkK κ mX8_sayWord) (hf : κ.2.2.2.2.2.2.2.2.2.2.2.2.2 = (none, p))  : ∀ (n : Nat) (x0 : Nat) (x1 : Int64) (x3 : Int32) (M : Mem), fX8_sayWord_16  n x0 x1 x3 M = some p → G κ mX8_sayWord 0 0 16 [(0, .ref x0), (1, .long x1), (3, .int x3)] [] M := by
  intro n
  induction n with
  | zero => intro x0 x1 x3 M h; cases h
  | succ n ih =>
    intro x0 x1 x3 M h
    rw [fX8_sayWord_16] at h
    refine g_iload_n (pc' := 17) 2 O dX8_sayWord_16 rfl rfl rfl ?_
    refine g_if_lt (tgt := 47) (pc' := 20) O dX8_sayWord_17 (by decide) rfl (fun hc => ?_) (fun hc => ?_)
    · replace h := ip hc h
      cases h
      exact g_vreturn O dX8_sayWord_47 rfl hf (by decide) (by decide)
    · replace h := ine hc h
      refine g_lload_n (pc' := 21) 1 O dX8_sayWord_20 rfl rfl rfl ?_
      refine g_iload_n (pc' := 22) 2 O dX8_sayWord_21 rfl rfl rfl ?_
      refine g_lshr (pc' := 23) O dX8_sayWord_22 rfl ?_
      refine g_ldc2 (v := 255) (pc' := 26) O dX8_sayWord_23 tw_970 rfl ?_
      refine g_land (pc' := 27) O dX8_sayWord_26 rfl ?_
      refine g_l2i (pc' := 28) O dX8_sayWord_27 rfl ?_
      refine g_istore (lv' := [(4, .int (((x1 >>> (x3.toInt64 &&& 63)) &&& (255 : Int64)).toInt32)), (0, .ref x0), (1, .long x1), (3, .int x3)]) (pc' := 30) O dX8_sayWord_28 (by decide) rfl rfl ?_
      refine g_iload (pc' := 32) 0 O dX8_sayWord_30 rfl rfl ?_
      refine g_if_eq (tgt := 41) (pc' := 35) O dX8_sayWord_32 (by decide) rfl (fun hc => ?_) (fun hc => ?_)
      · replace h := ip hc h
        refine g_sub (lv' := [(0, .ref x0), (1, .long x1), (3, .int x3)]) [1, 2, 3] rfl ?_
        exact tX8_sayWord_41 O hf ih h
      · replace h := ine hc h
        refine g_aload_n (pc' := 36) 1 O dX8_sayWord_35 rfl rfl rfl ?_
        refine g_iload (pc' := 38) 0 O dX8_sayWord_36 rfl rfl ?_
        replace h := ob h; obtain ⟨u1, eu1, h⟩ := h
        replace h := ob h; obtain ⟨r2, er2, h⟩ := h
        refine g_callV (y := yX8_say) (ν := mX8_say) (n := 1) (As := [.int (((x1 >>> (x3.toInt64 &&& 63)) &&& (255 : Int64)).toInt32)]) (b := x0) (st := []) (M2 := r2) (r1 := none) (pc' := 41) O dX8_sayWord_38 tw_939 tw_58 tw_938 tw_37 tw_936 hyX8_say rfl rfl eu1 (okX8_say er2) (Nat.le_of_ble_eq_true rfl) ⟨Nat.le_of_ble_eq_true rfl, Nat.le_of_ble_eq_true rfl⟩ ⟨Nat.le_of_ble_eq_true rfl, Nat.le_of_ble_eq_true rfl⟩ rfl ?_
        show G κ mX8_sayWord 0 0 41 [(4, .int (((x1 >>> (x3.toInt64 &&& 63)) &&& (255 : Int64)).toInt32)), (0, .ref x0), (1, .long x1), (3, .int x3)] [] r2
        refine g_sub (lv' := [(0, .ref x0), (1, .long x1), (3, .int x3)]) [1, 2, 3] rfl ?_
        exact tX8_sayWord_41 O hf ih h
def fX8_sayWord_13  (x0 : Nat) (x1 : Int64) (M : Mem) : Option (Mem) :=
  fX8_sayWord_16 FU x0 x1 (56 : Int32) M
set_option maxHeartbeats 4000000 in
set_option maxRecDepth 100000 in
theorem tX8_sayWord_13 {κ : KT} {p : Mem} (O : OkK κ mX8_sayWord) (hf : κ.2.2.2.2.2.2.2.2.2.2.2.2.2 = (none, p))  {x0 : Nat} {x1 : Int64} {M : Mem} (h : fX8_sayWord_13  x0 x1 M = some p) : G κ mX8_sayWord 0 0 13 [(0, .ref x0), (1, .long x1)] [] M := by
  unfold fX8_sayWord_13 at h
  refine g_bipush (v := 56) (pc' := 15) O dX8_sayWord_13 (by decide) rfl ?_
  refine g_istore_n (lv' := [(3, .int (56 : Int32)), (0, .ref x0), (1, .long x1)]) (pc' := 16) O dX8_sayWord_15 rfl (by decide) rfl rfl ?_
  refine g_sub (lv' := [(0, .ref x0), (1, .long x1), (3, .int (56 : Int32))]) [1, 2, 0] rfl ?_
  exact tX8_sayWord_16 O hf FU x0 x1 (56 : Int32) M h
def fX8_sayWord  (this : Nat) (p0 : Int64) (M : Mem) : Option (Mem) :=
  (gI M 5 this 26).bind fun v1 =>
  if v1 ≤ 0 then (fX8_sayWord_13 this p0 M)
  else ((ck M 5 this).bind fun u2 =>
  (fX8_say this (32 : Int32) M).bind fun r3 =>
  fX8_sayWord_13 this p0 r3)
set_option maxHeartbeats 4000000 in
set_option maxRecDepth 100000 in
theorem okX8_sayWord {l : Launch} {p : Mem} {this : Nat} {p0 : Int64} {M : Mem} (h : fX8_sayWord this p0 M = some p) : Cn l yX8_sayWord mX8_sayWord [.ref this, .long p0] M none p := by
  refine Cn.of [(0, .ref this), (1, .long p0)] (by decide) rfl rfl (Nat.le_of_ble_eq_true rfl) rfl (fun κ _ hf O => ?_)
  unfold fX8_sayWord at h
  refine g_aload_n (pc' := 1) 0 O dX8_sayWord_0 rfl rfl rfl ?_
  replace h := ob h; obtain ⟨v1, ev1, h⟩ := h
  refine g_getF (C := RX8) (T := TX8) (N := 29) (ci := 5) (k := 26) (pc' := 4) O dX8_sayWord_1 rfl inX8 (by decide) tw_742 (gI_F ev1) rfl ?_
  refine g_if_le (tgt := 13) (pc' := 7) O dX8_sayWord_4 (by decide) rfl (fun hc => ?_) (fun hc => ?_)
  · replace h := ip hc h
    exact tX8_sayWord_13 O hf h
  · replace h := ine hc h
    refine g_aload_n (pc' := 8) 0 O dX8_sayWord_7 rfl rfl rfl ?_
    refine g_bipush (v := 32) (pc' := 10) O dX8_sayWord_8 (by decide) rfl ?_
    replace h := ob h; obtain ⟨u2, eu2, h⟩ := h
    replace h := ob h; obtain ⟨r3, er3, h⟩ := h
    refine g_callV (y := yX8_say) (ν := mX8_say) (n := 1) (As := [.int (32 : Int32)]) (b := this) (st := []) (M2 := r3) (r1 := none) (pc' := 13) O dX8_sayWord_10 tw_939 tw_58 tw_938 tw_37 tw_936 hyX8_say rfl rfl eu2 (okX8_say er3) (Nat.le_of_ble_eq_true rfl) ⟨Nat.le_of_ble_eq_true rfl, Nat.le_of_ble_eq_true rfl⟩ ⟨Nat.le_of_ble_eq_true rfl, Nat.le_of_ble_eq_true rfl⟩ rfl ?_
    show G κ mX8_sayWord 0 0 13 [(0, .ref this), (1, .long p0)] [] r3
    exact tX8_sayWord_13 O hf h
abbrev mX8_sayBelow20 : MD := (cX8_sayBelow20, 2, RX8, none, { frames := 2, cells := 0, slots := 0, locals := 45 }, "sayBelow20")
theorem hyX8_sayBelow20 : yX8_sayBelow20.cls ≠ "java/lang/invoke/MethodHandle" ∧ yX8_sayBelow20.cls ≠ "java/lang/invoke/VarHandle" ∧ (parseMethodDescriptor yX8_sayBelow20.desc).map (fun d => d.parameters.length) = some 1 := by decide +kernel
def fX8_sayBelow20_288  (M : Mem) : Option (Mem) :=
  some M
set_option maxHeartbeats 4000000 in
set_option maxRecDepth 100000 in
theorem tX8_sayBelow20_288 {κ : KT} {p : Mem} (O : OkK κ mX8_sayBelow20) (hf : κ.2.2.2.2.2.2.2.2.2.2.2.2.2 = (none, p))  {M : Mem} (h : fX8_sayBelow20_288  M = some p) : G κ mX8_sayBelow20 0 0 288 [] [] M := by
  unfold fX8_sayBelow20_288 at h
  cases h
  exact g_vreturn O dX8_sayBelow20_288 rfl hf (by decide) (by decide)
def fX8_sayBelow20  (this : Nat) (p0 : Int32) (M : Mem) : Option (Mem) :=
  if p0 = (1 : Int32) then ((ck M 5 this).bind fun u1 =>
  (fX8_sayWord this (7302757 : Int64) M).bind fun r2 =>
  fX8_sayBelow20_288 r2)
  else (if p0 = (2 : Int32) then ((ck M 5 this).bind fun u3 =>
  (fX8_sayWord this (7632751 : Int64) M).bind fun r4 =>
  fX8_sayBelow20_288 r4)
  else (if p0 = (3 : Int32) then ((ck M 5 this).bind fun u5 =>
  (fX8_sayWord this (499968533861 : Int64) M).bind fun r6 =>
  fX8_sayBelow20_288 r6)
  else (if p0 = (4 : Int32) then ((ck M 5 this).bind fun u7 =>
  (fX8_sayWord this (1718580594 : Int64) M).bind fun r8 =>
  fX8_sayBelow20_288 r8)
  else (if p0 = (5 : Int32) then ((ck M 5 this).bind fun u9 =>
  (fX8_sayWord this (1718187621 : Int64) M).bind fun r10 =>
  fX8_sayBelow20_288 r10)
  else (if p0 = (6 : Int32) then ((ck M 5 this).bind fun u11 =>
  (fX8_sayWord this (7563640 : Int64) M).bind fun r12 =>
  fX8_sayBelow20_288 r12)
  else (if p0 = (7 : Int32) then ((ck M 5 this).bind fun u13 =>
  (fX8_sayWord this (495623497070 : Int64) M).bind fun r14 =>
  fX8_sayBelow20_288 r14)
  else (if p0 = (8 : Int32) then ((ck M 5 this).bind fun u15 =>
  (fX8_sayWord this (435560081524 : Int64) M).bind fun r16 =>
  fX8_sayBelow20_288 r16)
  else (if p0 = (9 : Int32) then ((ck M 5 this).bind fun u17 =>
  (fX8_sayWord this (1852403301 : Int64) M).bind fun r18 =>
  fX8_sayBelow20_288 r18)
  else (if p0 = (10 : Int32) then ((ck M 5 this).bind fun u19 =>
  (fX8_sayWord this (7628142 : Int64) M).bind fun r20 =>
  fX8_sayBelow20_288 r20)
  else (if p0 = (11 : Int32) then ((ck M 5 this).bind fun u21 =>
  (fX8_sayWord this (111516233131374 : Int64) M).bind fun r22 =>
  fX8_sayBelow20_288 r22)
  else (if p0 = (12 : Int32) then ((ck M 5 this).bind fun u23 =>
  (fX8_sayWord this (128056151537253 : Int64) M).bind fun r24 =>
  fX8_sayBelow20_288 r24)
  else (if p0 = (13 : Int32) then ((ck M 5 this).bind fun u25 =>
  (fX8_sayWord this (8388070246277539182 : Int64) M).bind fun r26 =>
  fX8_sayBelow20_288 r26)
  else (if p0 = (14 : Int32) then ((ck M 5 this).bind fun u27 =>
  (fX8_sayWord this (7381247448723055982 : Int64) M).bind fun r28 =>
  fX8_sayBelow20_288 r28)
  else (if p0 = (15 : Int32) then ((ck M 5 this).bind fun u29 =>
  (fX8_sayWord this (28826336384869742 : Int64) M).bind fun r30 =>
  fX8_sayBelow20_288 r30)
  else (if p0 = (16 : Int32) then ((ck M 5 this).bind fun u31 =>
  (fX8_sayWord this (32485588391519598 : Int64) M).bind fun r32 =>
  fX8_sayBelow20_288 r32)
  else (if p0 = (17 : Int32) then ((ck M 5 this).bind fun u33 =>
  (fX8_sayWord this (8315182465026385253 : Int64) M).bind fun r34 =>
  (ck r34 5 this).bind fun u35 =>
  (fX8_say this (110 : Int32) r34).bind fun r36 =>
  fX8_sayBelow20_288 r36)
  else (if p0 = (18 : Int32) then ((ck M 5 this).bind fun u37 =>
  (fX8_sayWord this (7307485568712402286 : Int64) M).bind fun r38 =>
  fX8_sayBelow20_288 r38)
  else (if p0 = (19 : Int32) then ((ck M 5 this).bind fun u39 =>
  (fX8_sayWord this (7956011598750246254 : Int64) M).bind fun r40 =>
  fX8_sayBelow20_288 r40)
  else (fX8_sayBelow20_288 M)))))))))))))))))))
set_option maxHeartbeats 4000000 in
set_option maxRecDepth 100000 in
theorem okX8_sayBelow20 {l : Launch} {p : Mem} {this : Nat} {p0 : Int32} {M : Mem} (h : fX8_sayBelow20 this p0 M = some p) : Cn l yX8_sayBelow20 mX8_sayBelow20 [.ref this, .int p0] M none p := by
  refine Cn.of [(0, .ref this), (1, .int p0)] (by decide) rfl rfl (Nat.le_of_ble_eq_true rfl) rfl (fun κ _ hf O => ?_)
  unfold fX8_sayBelow20 at h
  refine g_iload_n (pc' := 1) 1 O dX8_sayBelow20_0 rfl rfl rfl ?_
  by_cases hs0 : p0 = (1 : Int32)
  · replace h := ip hs0 h
    refine g_tableIn (off := 91) (pc' := 92) O dX8_sayBelow20_1 (by rw [hs0]; decide) (by rw [hs0]; decide) (by rw [hs0]; decide) (by decide) ?_
    refine g_aload_n (pc' := 93) 0 O dX8_sayBelow20_92 rfl rfl rfl ?_
    refine g_ldc2 (v := 7302757) (pc' := 96) O dX8_sayBelow20_93 tw_981 rfl ?_
    replace h := ob h; obtain ⟨u1, eu1, h⟩ := h
    replace h := ob h; obtain ⟨r2, er2, h⟩ := h
    refine g_callV (y := yX8_sayWord) (ν := mX8_sayWord) (n := 1) (As := [.long (7302757 : Int64)]) (b := this) (st := []) (M2 := r2) (r1 := none) (pc' := 99) O dX8_sayBelow20_96 tw_969 tw_58 tw_968 tw_42 tw_966 hyX8_sayWord rfl rfl eu1 (okX8_sayWord er2) (Nat.le_of_ble_eq_true rfl) ⟨Nat.le_of_ble_eq_true rfl, Nat.le_of_ble_eq_true rfl⟩ ⟨Nat.le_of_ble_eq_true rfl, Nat.le_of_ble_eq_true rfl⟩ rfl ?_
    show G κ mX8_sayBelow20 0 0 99 [(0, .ref this), (1, .int p0)] [] r2
    refine g_goto (pc' := 288) O dX8_sayBelow20_99 (by decide) ?_
    refine g_sub (lv' := []) [] rfl ?_
    exact tX8_sayBelow20_288 O hf h
  replace h := ine hs0 h
  by_cases hs1 : p0 = (2 : Int32)
  · replace h := ip hs1 h
    refine g_tableIn (off := 101) (pc' := 102) O dX8_sayBelow20_1 (by rw [hs1]; decide) (by rw [hs1]; decide) (by rw [hs1]; decide) (by decide) ?_
    refine g_aload_n (pc' := 103) 0 O dX8_sayBelow20_102 rfl rfl rfl ?_
    refine g_ldc2 (v := 7632751) (pc' := 106) O dX8_sayBelow20_103 tw_982 rfl ?_
    replace h := ob h; obtain ⟨u3, eu3, h⟩ := h
    replace h := ob h; obtain ⟨r4, er4, h⟩ := h
    refine g_callV (y := yX8_sayWord) (ν := mX8_sayWord) (n := 1) (As := [.long (7632751 : Int64)]) (b := this) (st := []) (M2 := r4) (r1 := none) (pc' := 109) O dX8_sayBelow20_106 tw_969 tw_58 tw_968 tw_42 tw_966 hyX8_sayWord rfl rfl eu3 (okX8_sayWord er4) (Nat.le_of_ble_eq_true rfl) ⟨Nat.le_of_ble_eq_true rfl, Nat.le_of_ble_eq_true rfl⟩ ⟨Nat.le_of_ble_eq_true rfl, Nat.le_of_ble_eq_true rfl⟩ rfl ?_
    show G κ mX8_sayBelow20 0 0 109 [(0, .ref this), (1, .int p0)] [] r4
    refine g_goto (pc' := 288) O dX8_sayBelow20_109 (by decide) ?_
    refine g_sub (lv' := []) [] rfl ?_
    exact tX8_sayBelow20_288 O hf h
  replace h := ine hs1 h
  by_cases hs2 : p0 = (3 : Int32)
  · replace h := ip hs2 h
    refine g_tableIn (off := 111) (pc' := 112) O dX8_sayBelow20_1 (by rw [hs2]; decide) (by rw [hs2]; decide) (by rw [hs2]; decide) (by decide) ?_
    refine g_aload_n (pc' := 113) 0 O dX8_sayBelow20_112 rfl rfl rfl ?_
    refine g_ldc2 (v := 499968533861) (pc' := 116) O dX8_sayBelow20_113 tw_983 rfl ?_
    replace h := ob h; obtain ⟨u5, eu5, h⟩ := h
    replace h := ob h; obtain ⟨r6, er6, h⟩ := h
    refine g_callV (y := yX8_sayWord) (ν := mX8_sayWord) (n := 1) (As := [.long (499968533861 : Int64)]) (b := this) (st := []) (M2 := r6) (r1 := none) (pc' := 119) O dX8_sayBelow20_116 tw_969 tw_58 tw_968 tw_42 tw_966 hyX8_sayWord rfl rfl eu5 (okX8_sayWord er6) (Nat.le_of_ble_eq_true rfl) ⟨Nat.le_of_ble_eq_true rfl, Nat.le_of_ble_eq_true rfl⟩ ⟨Nat.le_of_ble_eq_true rfl, Nat.le_of_ble_eq_true rfl⟩ rfl ?_
    show G κ mX8_sayBelow20 0 0 119 [(0, .ref this), (1, .int p0)] [] r6
    refine g_goto (pc' := 288) O dX8_sayBelow20_119 (by decide) ?_
    refine g_sub (lv' := []) [] rfl ?_
    exact tX8_sayBelow20_288 O hf h
  replace h := ine hs2 h
  by_cases hs3 : p0 = (4 : Int32)
  · replace h := ip hs3 h
    refine g_tableIn (off := 121) (pc' := 122) O dX8_sayBelow20_1 (by rw [hs3]; decide) (by rw [hs3]; decide) (by rw [hs3]; decide) (by decide) ?_
    refine g_aload_n (pc' := 123) 0 O dX8_sayBelow20_122 rfl rfl rfl ?_
    refine g_ldc2 (v := 1718580594) (pc' := 126) O dX8_sayBelow20_123 tw_984 rfl ?_
    replace h := ob h; obtain ⟨u7, eu7, h⟩ := h
    replace h := ob h; obtain ⟨r8, er8, h⟩ := h
    refine g_callV (y := yX8_sayWord) (ν := mX8_sayWord) (n := 1) (As := [.long (1718580594 : Int64)]) (b := this) (st := []) (M2 := r8) (r1 := none) (pc' := 129) O dX8_sayBelow20_126 tw_969 tw_58 tw_968 tw_42 tw_966 hyX8_sayWord rfl rfl eu7 (okX8_sayWord er8) (Nat.le_of_ble_eq_true rfl) ⟨Nat.le_of_ble_eq_true rfl, Nat.le_of_ble_eq_true rfl⟩ ⟨Nat.le_of_ble_eq_true rfl, Nat.le_of_ble_eq_true rfl⟩ rfl ?_
    show G κ mX8_sayBelow20 0 0 129 [(0, .ref this), (1, .int p0)] [] r8
    refine g_goto (pc' := 288) O dX8_sayBelow20_129 (by decide) ?_
    refine g_sub (lv' := []) [] rfl ?_
    exact tX8_sayBelow20_288 O hf h
  replace h := ine hs3 h
  by_cases hs4 : p0 = (5 : Int32)
  · replace h := ip hs4 h
    refine g_tableIn (off := 131) (pc' := 132) O dX8_sayBelow20_1 (by rw [hs4]; decide) (by rw [hs4]; decide) (by rw [hs4]; decide) (by decide) ?_
    refine g_aload_n (pc' := 133) 0 O dX8_sayBelow20_132 rfl rfl rfl ?_
    refine g_ldc2 (v := 1718187621) (pc' := 136) O dX8_sayBelow20_133 tw_985 rfl ?_
    replace h := ob h; obtain ⟨u9, eu9, h⟩ := h
    replace h := ob h; obtain ⟨r10, er10, h⟩ := h
    refine g_callV (y := yX8_sayWord) (ν := mX8_sayWord) (n := 1) (As := [.long (1718187621 : Int64)]) (b := this) (st := []) (M2 := r10) (r1 := none) (pc' := 139) O dX8_sayBelow20_136 tw_969 tw_58 tw_968 tw_42 tw_966 hyX8_sayWord rfl rfl eu9 (okX8_sayWord er10) (Nat.le_of_ble_eq_true rfl) ⟨Nat.le_of_ble_eq_true rfl, Nat.le_of_ble_eq_true rfl⟩ ⟨Nat.le_of_ble_eq_true rfl, Nat.le_of_ble_eq_true rfl⟩ rfl ?_
    show G κ mX8_sayBelow20 0 0 139 [(0, .ref this), (1, .int p0)] [] r10
    refine g_goto (pc' := 288) O dX8_sayBelow20_139 (by decide) ?_
    refine g_sub (lv' := []) [] rfl ?_
    exact tX8_sayBelow20_288 O hf h
  replace h := ine hs4 h
  by_cases hs5 : p0 = (6 : Int32)
  · replace h := ip hs5 h
    refine g_tableIn (off := 141) (pc' := 142) O dX8_sayBelow20_1 (by rw [hs5]; decide) (by rw [hs5]; decide) (by rw [hs5]; decide) (by decide) ?_
    refine g_aload_n (pc' := 143) 0 O dX8_sayBelow20_142 rfl rfl rfl ?_
    refine g_ldc2 (v := 7563640) (pc' := 146) O dX8_sayBelow20_143 tw_986 rfl ?_
    replace h := ob h; obtain ⟨u11, eu11, h⟩ := h
    replace h := ob h; obtain ⟨r12, er12, h⟩ := h
    refine g_callV (y := yX8_sayWord) (ν := mX8_sayWord) (n := 1) (As := [.long (7563640 : Int64)]) (b := this) (st := []) (M2 := r12) (r1 := none) (pc' := 149) O dX8_sayBelow20_146 tw_969 tw_58 tw_968 tw_42 tw_966 hyX8_sayWord rfl rfl eu11 (okX8_sayWord er12) (Nat.le_of_ble_eq_true rfl) ⟨Nat.le_of_ble_eq_true rfl, Nat.le_of_ble_eq_true rfl⟩ ⟨Nat.le_of_ble_eq_true rfl, Nat.le_of_ble_eq_true rfl⟩ rfl ?_
    show G κ mX8_sayBelow20 0 0 149 [(0, .ref this), (1, .int p0)] [] r12
    refine g_goto (pc' := 288) O dX8_sayBelow20_149 (by decide) ?_
    refine g_sub (lv' := []) [] rfl ?_
    exact tX8_sayBelow20_288 O hf h
  replace h := ine hs5 h
  by_cases hs6 : p0 = (7 : Int32)
  · replace h := ip hs6 h
    refine g_tableIn (off := 151) (pc' := 152) O dX8_sayBelow20_1 (by rw [hs6]; decide) (by rw [hs6]; decide) (by rw [hs6]; decide) (by decide) ?_
    refine g_aload_n (pc' := 153) 0 O dX8_sayBelow20_152 rfl rfl rfl ?_
    refine g_ldc2 (v := 495623497070) (pc' := 156) O dX8_sayBelow20_153 tw_987 rfl ?_
    replace h := ob h; obtain ⟨u13, eu13, h⟩ := h
    replace h := ob h; obtain ⟨r14, er14, h⟩ := h
    refine g_callV (y := yX8_sayWord) (ν := mX8_sayWord) (n := 1) (As := [.long (495623497070 : Int64)]) (b := this) (st := []) (M2 := r14) (r1 := none) (pc' := 159) O dX8_sayBelow20_156 tw_969 tw_58 tw_968 tw_42 tw_966 hyX8_sayWord rfl rfl eu13 (okX8_sayWord er14) (Nat.le_of_ble_eq_true rfl) ⟨Nat.le_of_ble_eq_true rfl, Nat.le_of_ble_eq_true rfl⟩ ⟨Nat.le_of_ble_eq_true rfl, Nat.le_of_ble_eq_true rfl⟩ rfl ?_
    show G κ mX8_sayBelow20 0 0 159 [(0, .ref this), (1, .int p0)] [] r14
    refine g_goto (pc' := 288) O dX8_sayBelow20_159 (by decide) ?_
    refine g_sub (lv' := []) [] rfl ?_
    exact tX8_sayBelow20_288 O hf h
  replace h := ine hs6 h
  by_cases hs7 : p0 = (8 : Int32)
  · replace h := ip hs7 h
    refine g_tableIn (off := 161) (pc' := 162) O dX8_sayBelow20_1 (by rw [hs7]; decide) (by rw [hs7]; decide) (by rw [hs7]; decide) (by decide) ?_
    refine g_aload_n (pc' := 163) 0 O dX8_sayBelow20_162 rfl rfl rfl ?_
    refine g_ldc2 (v := 435560081524) (pc' := 166) O dX8_sayBelow20_163 tw_988 rfl ?_
    replace h := ob h; obtain ⟨u15, eu15, h⟩ := h
    replace h := ob h; obtain ⟨r16, er16, h⟩ := h
    refine g_callV (y := yX8_sayWord) (ν := mX8_sayWord) (n := 1) (As := [.long (435560081524 : Int64)]) (b := this) (st := []) (M2 := r16) (r1 := none) (pc' := 169) O dX8_sayBelow20_166 tw_969 tw_58 tw_968 tw_42 tw_966 hyX8_sayWord rfl rfl eu15 (okX8_sayWord er16) (Nat.le_of_ble_eq_true rfl) ⟨Nat.le_of_ble_eq_true rfl, Nat.le_of_ble_eq_true rfl⟩ ⟨Nat.le_of_ble_eq_true rfl, Nat.le_of_ble_eq_true rfl⟩ rfl ?_
    show G κ mX8_sayBelow20 0 0 169 [(0, .ref this), (1, .int p0)] [] r16
    refine g_goto (pc' := 288) O dX8_sayBelow20_169 (by decide) ?_
    refine g_sub (lv' := []) [] rfl ?_
    exact tX8_sayBelow20_288 O hf h
  replace h := ine hs7 h
  by_cases hs8 : p0 = (9 : Int32)
  · replace h := ip hs8 h
    refine g_tableIn (off := 171) (pc' := 172) O dX8_sayBelow20_1 (by rw [hs8]; decide) (by rw [hs8]; decide) (by rw [hs8]; decide) (by decide) ?_
    refine g_aload_n (pc' := 173) 0 O dX8_sayBelow20_172 rfl rfl rfl ?_
    refine g_ldc2 (v := 1852403301) (pc' := 176) O dX8_sayBelow20_173 tw_989 rfl ?_
    replace h := ob h; obtain ⟨u17, eu17, h⟩ := h
    replace h := ob h; obtain ⟨r18, er18, h⟩ := h
    refine g_callV (y := yX8_sayWord) (ν := mX8_sayWord) (n := 1) (As := [.long (1852403301 : Int64)]) (b := this) (st := []) (M2 := r18) (r1 := none) (pc' := 179) O dX8_sayBelow20_176 tw_969 tw_58 tw_968 tw_42 tw_966 hyX8_sayWord rfl rfl eu17 (okX8_sayWord er18) (Nat.le_of_ble_eq_true rfl) ⟨Nat.le_of_ble_eq_true rfl, Nat.le_of_ble_eq_true rfl⟩ ⟨Nat.le_of_ble_eq_true rfl, Nat.le_of_ble_eq_true rfl⟩ rfl ?_
    show G κ mX8_sayBelow20 0 0 179 [(0, .ref this), (1, .int p0)] [] r18
    refine g_goto (pc' := 288) O dX8_sayBelow20_179 (by decide) ?_
    refine g_sub (lv' := []) [] rfl ?_
    exact tX8_sayBelow20_288 O hf h
  replace h := ine hs8 h
  by_cases hs9 : p0 = (10 : Int32)
  · replace h := ip hs9 h
    refine g_tableIn (off := 181) (pc' := 182) O dX8_sayBelow20_1 (by rw [hs9]; decide) (by rw [hs9]; decide) (by rw [hs9]; decide) (by decide) ?_
    refine g_aload_n (pc' := 183) 0 O dX8_sayBelow20_182 rfl rfl rfl ?_
    refine g_ldc2 (v := 7628142) (pc' := 186) O dX8_sayBelow20_183 tw_990 rfl ?_
    replace h := ob h; obtain ⟨u19, eu19, h⟩ := h
    replace h := ob h; obtain ⟨r20, er20, h⟩ := h
    refine g_callV (y := yX8_sayWord) (ν := mX8_sayWord) (n := 1) (As := [.long (7628142 : Int64)]) (b := this) (st := []) (M2 := r20) (r1 := none) (pc' := 189) O dX8_sayBelow20_186 tw_969 tw_58 tw_968 tw_42 tw_966 hyX8_sayWord rfl rfl eu19 (okX8_sayWord er20) (Nat.le_of_ble_eq_true rfl) ⟨Nat.le_of_ble_eq_true rfl, Nat.le_of_ble_eq_true rfl⟩ ⟨Nat.le_of_ble_eq_true rfl, Nat.le_of_ble_eq_true rfl⟩ rfl ?_
    show G κ mX8_sayBelow20 0 0 189 [(0, .ref this), (1, .int p0)] [] r20
    refine g_goto (pc' := 288) O dX8_sayBelow20_189 (by decide) ?_
    refine g_sub (lv' := []) [] rfl ?_
    exact tX8_sayBelow20_288 O hf h
  replace h := ine hs9 h
  by_cases hs10 : p0 = (11 : Int32)
  · replace h := ip hs10 h
    refine g_tableIn (off := 191) (pc' := 192) O dX8_sayBelow20_1 (by rw [hs10]; decide) (by rw [hs10]; decide) (by rw [hs10]; decide) (by decide) ?_
    refine g_aload_n (pc' := 193) 0 O dX8_sayBelow20_192 rfl rfl rfl ?_
    refine g_ldc2 (v := 111516233131374) (pc' := 196) O dX8_sayBelow20_193 tw_991 rfl ?_
    replace h := ob h; obtain ⟨u21, eu21, h⟩ := h
    replace h := ob h; obtain ⟨r22, er22, h⟩ := h
    refine g_callV (y := yX8_sayWord) (ν := mX8_sayWord) (n := 1) (As := [.long (111516233131374 : Int64)]) (b := this) (st := []) (M2 := r22) (r1 := none) (pc' := 199) O dX8_sayBelow20_196 tw_969 tw_58 tw_968 tw_42 tw_966 hyX8_sayWord rfl rfl eu21 (okX8_sayWord er22) (Nat.le_of_ble_eq_true rfl) ⟨Nat.le_of_ble_eq_true rfl, Nat.le_of_ble_eq_true rfl⟩ ⟨Nat.le_of_ble_eq_true rfl, Nat.le_of_ble_eq_true rfl⟩ rfl ?_
    show G κ mX8_sayBelow20 0 0 199 [(0, .ref this), (1, .int p0)] [] r22
    refine g_goto (pc' := 288) O dX8_sayBelow20_199 (by decide) ?_
    refine g_sub (lv' := []) [] rfl ?_
    exact tX8_sayBelow20_288 O hf h
  replace h := ine hs10 h
  by_cases hs11 : p0 = (12 : Int32)
  · replace h := ip hs11 h
    refine g_tableIn (off := 201) (pc' := 202) O dX8_sayBelow20_1 (by rw [hs11]; decide) (by rw [hs11]; decide) (by rw [hs11]; decide) (by decide) ?_
    refine g_aload_n (pc' := 203) 0 O dX8_sayBelow20_202 rfl rfl rfl ?_
    refine g_ldc2 (v := 128056151537253) (pc' := 206) O dX8_sayBelow20_203 tw_992 rfl ?_
    replace h := ob h; obtain ⟨u23, eu23, h⟩ := h
    replace h := ob h; obtain ⟨r24, er24, h⟩ := h
    refine g_callV (y := yX8_sayWord) (ν := mX8_sayWord) (n := 1) (As := [.long (128056151537253 : Int64)]) (b := this) (st := []) (M2 := r24) (r1 := none) (pc' := 209) O dX8_sayBelow20_206 tw_969 tw_58 tw_968 tw_42 tw_966 hyX8_sayWord rfl rfl eu23 (okX8_sayWord er24) (Nat.le_of_ble_eq_true rfl) ⟨Nat.le_of_ble_eq_true rfl, Nat.le_of_ble_eq_true rfl⟩ ⟨Nat.le_of_ble_eq_true rfl, Nat.le_of_ble_eq_true rfl⟩ rfl ?_
    show G κ mX8_sayBelow20 0 0 209 [(0, .ref this), (1, .int p0)] [] r24
    refine g_goto (pc' := 288) O dX8_sayBelow20_209 (by decide) ?_
    refine g_sub (lv' := []) [] rfl ?_
    exact tX8_sayBelow20_288 O hf h
  replace h := ine hs11 h
  by_cases hs12 : p0 = (13 : Int32)
  · replace h := ip hs12 h
    refine g_tableIn (off := 211) (pc' := 212) O dX8_sayBelow20_1 (by rw [hs12]; decide) (by rw [hs12]; decide) (by rw [hs12]; decide) (by decide) ?_
    refine g_aload_n (pc' := 213) 0 O dX8_sayBelow20_212 rfl rfl rfl ?_
    refine g_ldc2 (v := 8388070246277539182) (pc' := 216) O dX8_sayBelow20_213 tw_993 rfl ?_
    replace h := ob h; obtain ⟨u25, eu25, h⟩ := h
    replace h := ob h; obtain ⟨r26, er26, h⟩ := h
    refine g_callV (y := yX8_sayWord) (ν := mX8_sayWord) (n := 1) (As := [.long (8388070246277539182 : Int64)]) (b := this) (st := []) (M2 := r26) (r1 := none) (pc' := 219) O dX8_sayBelow20_216 tw_969 tw_58 tw_968 tw_42 tw_966 hyX8_sayWord rfl rfl eu25 (okX8_sayWord er26) (Nat.le_of_ble_eq_true rfl) ⟨Nat.le_of_ble_eq_true rfl, Nat.le_of_ble_eq_true rfl⟩ ⟨Nat.le_of_ble_eq_true rfl, Nat.le_of_ble_eq_true rfl⟩ rfl ?_
    show G κ mX8_sayBelow20 0 0 219 [(0, .ref this), (1, .int p0)] [] r26
    refine g_goto (pc' := 288) O dX8_sayBelow20_219 (by decide) ?_
    refine g_sub (lv' := []) [] rfl ?_
    exact tX8_sayBelow20_288 O hf h
  replace h := ine hs12 h
  by_cases hs13 : p0 = (14 : Int32)
  · replace h := ip hs13 h
    refine g_tableIn (off := 221) (pc' := 222) O dX8_sayBelow20_1 (by rw [hs13]; decide) (by rw [hs13]; decide) (by rw [hs13]; decide) (by decide) ?_
    refine g_aload_n (pc' := 223) 0 O dX8_sayBelow20_222 rfl rfl rfl ?_
    refine g_ldc2 (v := 7381247448723055982) (pc' := 226) O dX8_sayBelow20_223 tw_994 rfl ?_
    replace h := ob h; obtain ⟨u27, eu27, h⟩ := h
    replace h := ob h; obtain ⟨r28, er28, h⟩ := h
    refine g_callV (y := yX8_sayWord) (ν := mX8_sayWord) (n := 1) (As := [.long (7381247448723055982 : Int64)]) (b := this) (st := []) (M2 := r28) (r1 := none) (pc' := 229) O dX8_sayBelow20_226 tw_969 tw_58 tw_968 tw_42 tw_966 hyX8_sayWord rfl rfl eu27 (okX8_sayWord er28) (Nat.le_of_ble_eq_true rfl) ⟨Nat.le_of_ble_eq_true rfl, Nat.le_of_ble_eq_true rfl⟩ ⟨Nat.le_of_ble_eq_true rfl, Nat.le_of_ble_eq_true rfl⟩ rfl ?_
    show G κ mX8_sayBelow20 0 0 229 [(0, .ref this), (1, .int p0)] [] r28
    refine g_goto (pc' := 288) O dX8_sayBelow20_229 (by decide) ?_
    refine g_sub (lv' := []) [] rfl ?_
    exact tX8_sayBelow20_288 O hf h
  replace h := ine hs13 h
  by_cases hs14 : p0 = (15 : Int32)
  · replace h := ip hs14 h
    refine g_tableIn (off := 231) (pc' := 232) O dX8_sayBelow20_1 (by rw [hs14]; decide) (by rw [hs14]; decide) (by rw [hs14]; decide) (by decide) ?_
    refine g_aload_n (pc' := 233) 0 O dX8_sayBelow20_232 rfl rfl rfl ?_
    refine g_ldc2 (v := 28826336384869742) (pc' := 236) O dX8_sayBelow20_233 tw_995 rfl ?_
    replace h := ob h; obtain ⟨u29, eu29, h⟩ := h
    replace h := ob h; obtain ⟨r30, er30, h⟩ := h
    refine g_callV (y := yX8_sayWord) (ν := mX8_sayWord) (n := 1) (As := [.long (28826336384869742 : Int64)]) (b := this) (st := []) (M2 := r30) (r1 := none) (pc' := 239) O dX8_sayBelow20_236 tw_969 tw_58 tw_968 tw_42 tw_966 hyX8_sayWord rfl rfl eu29 (okX8_sayWord er30) (Nat.le_of_ble_eq_true rfl) ⟨Nat.le_of_ble_eq_true rfl, Nat.le_of_ble_eq_true rfl⟩ ⟨Nat.le_of_ble_eq_true rfl, Nat.le_of_ble_eq_true rfl⟩ rfl ?_
    show G κ mX8_sayBelow20 0 0 239 [(0, .ref this), (1, .int p0)] [] r30
    refine g_goto (pc' := 288) O dX8_sayBelow20_239 (by decide) ?_
    refine g_sub (lv' := []) [] rfl ?_
    exact tX8_sayBelow20_288 O hf h
  replace h := ine hs14 h
  by_cases hs15 : p0 = (16 : Int32)
  · replace h := ip hs15 h
    refine g_tableIn (off := 241) (pc' := 242) O dX8_sayBelow20_1 (by rw [hs15]; decide) (by rw [hs15]; decide) (by rw [hs15]; decide) (by decide) ?_
    refine g_aload_n (pc' := 243) 0 O dX8_sayBelow20_242 rfl rfl rfl ?_
    refine g_ldc2 (v := 32485588391519598) (pc' := 246) O dX8_sayBelow20_243 tw_996 rfl ?_
    replace h := ob h; obtain ⟨u31, eu31, h⟩ := h
    replace h := ob h; obtain ⟨r32, er32, h⟩ := h
    refine g_callV (y := yX8_sayWord) (ν := mX8_sayWord) (n := 1) (As := [.long (32485588391519598 : Int64)]) (b := this) (st := []) (M2 := r32) (r1 := none) (pc' := 249) O dX8_sayBelow20_246 tw_969 tw_58 tw_968 tw_42 tw_966 hyX8_sayWord rfl rfl eu31 (okX8_sayWord er32) (Nat.le_of_ble_eq_true rfl) ⟨Nat.le_of_ble_eq_true rfl, Nat.le_of_ble_eq_true rfl⟩ ⟨Nat.le_of_ble_eq_true rfl, Nat.le_of_ble_eq_true rfl⟩ rfl ?_
    show G κ mX8_sayBelow20 0 0 249 [(0, .ref this), (1, .int p0)] [] r32
    refine g_goto (pc' := 288) O dX8_sayBelow20_249 (by decide) ?_
    refine g_sub (lv' := []) [] rfl ?_
    exact tX8_sayBelow20_288 O hf h
  replace h := ine hs15 h
  by_cases hs16 : p0 = (17 : Int32)
  · replace h := ip hs16 h
    refine g_tableIn (off := 251) (pc' := 252) O dX8_sayBelow20_1 (by rw [hs16]; decide) (by rw [hs16]; decide) (by rw [hs16]; decide) (by decide) ?_
    refine g_aload_n (pc' := 253) 0 O dX8_sayBelow20_252 rfl rfl rfl ?_
    refine g_ldc2 (v := 8315182465026385253) (pc' := 256) O dX8_sayBelow20_253 tw_997 rfl ?_
    replace h := ob h; obtain ⟨u33, eu33, h⟩ := h
    replace h := ob h; obtain ⟨r34, er34, h⟩ := h
    refine g_callV (y := yX8_sayWord) (ν := mX8_sayWord) (n := 1) (As := [.long (8315182465026385253 : Int64)]) (b := this) (st := []) (M2 := r34) (r1 := none) (pc' := 259) O dX8_sayBelow20_256 tw_969 tw_58 tw_968 tw_42 tw_966 hyX8_sayWord rfl rfl eu33 (okX8_sayWord er34) (Nat.le_of_ble_eq_true rfl) ⟨Nat.le_of_ble_eq_true rfl, Nat.le_of_ble_eq_true rfl⟩ ⟨Nat.le_of_ble_eq_true rfl, Nat.le_of_ble_eq_true rfl⟩ rfl ?_
    show G κ mX8_sayBelow20 0 0 259 [(0, .ref this), (1, .int p0)] [] r34
    refine g_aload_n (pc' := 260) 0 O dX8_sayBelow20_259 rfl rfl rfl ?_
    refine g_bipush (v := 110) (pc' := 262) O dX8_sayBelow20_260 (by decide) rfl ?_
    replace h := ob h; obtain ⟨u35, eu35, h⟩ := h
    replace h := ob h; obtain ⟨r36, er36, h⟩ := h
    refine g_callV (y := yX8_say) (ν := mX8_say) (n := 1) (As := [.int (110 : Int32)]) (b := this) (st := []) (M2 := r36) (r1 := none) (pc' := 265) O dX8_sayBelow20_262 tw_939 tw_58 tw_938 tw_37 tw_936 hyX8_say rfl rfl eu35 (okX8_say er36) (Nat.le_of_ble_eq_true rfl) ⟨Nat.le_of_ble_eq_true rfl, Nat.le_of_ble_eq_true rfl⟩ ⟨Nat.le_of_ble_eq_true rfl, Nat.le_of_ble_eq_true rfl⟩ rfl ?_
    show G κ mX8_sayBelow20 0 0 265 [(0, .ref this), (1, .int p0)] [] r36
    refine g_goto (pc' := 288) O dX8_sayBelow20_265 (by decide) ?_
    refine g_sub (lv' := []) [] rfl ?_
    exact tX8_sayBelow20_288 O hf h
  replace h := ine hs16 h
  by_cases hs17 : p0 = (18 : Int32)
  · replace h := ip hs17 h
    refine g_tableIn (off := 267) (pc' := 268) O dX8_sayBelow20_1 (by rw [hs17]; decide) (by rw [hs17]; decide) (by rw [hs17]; decide) (by decide) ?_
    refine g_aload_n (pc' := 269) 0 O dX8_sayBelow20_268 rfl rfl rfl ?_
    refine g_ldc2 (v := 7307485568712402286) (pc' := 272) O dX8_sayBelow20_269 tw_998 rfl ?_
    replace h := ob h; obtain ⟨u37, eu37, h⟩ := h
    replace h := ob h; obtain ⟨r38, er38, h⟩ := h
    refine g_callV (y := yX8_sayWord) (ν := mX8_sayWord) (n := 1) (As := [.long (7307485568712402286 : Int64)]) (b := this) (st := []) (M2 := r38) (r1 := none) (pc' := 275) O dX8_sayBelow20_272 tw_969 tw_58 tw_968 tw_42 tw_966 hyX8_sayWord rfl rfl eu37 (okX8_sayWord er38) (Nat.le_of_ble_eq_true rfl) ⟨Nat.le_of_ble_eq_true rfl, Nat.le_of_ble_eq_true rfl⟩ ⟨Nat.le_of_ble_eq_true rfl, Nat.le_of_ble_eq_true rfl⟩ rfl ?_
    show G κ mX8_sayBelow20 0 0 275 [(0, .ref this), (1, .int p0)] [] r38
    refine g_goto (pc' := 288) O dX8_sayBelow20_275 (by decide) ?_
    refine g_sub (lv' := []) [] rfl ?_
    exact tX8_sayBelow20_288 O hf h
  replace h := ine hs17 h
  by_cases hs18 : p0 = (19 : Int32)
  · replace h := ip hs18 h
    refine g_tableIn (off := 277) (pc' := 278) O dX8_sayBelow20_1 (by rw [hs18]; decide) (by rw [hs18]; decide) (by rw [hs18]; decide) (by decide) ?_
    refine g_aload_n (pc' := 279) 0 O dX8_sayBelow20_278 rfl rfl rfl ?_
    refine g_ldc2 (v := 7956011598750246254) (pc' := 282) O dX8_sayBelow20_279 tw_999 rfl ?_
    replace h := ob h; obtain ⟨u39, eu39, h⟩ := h
    replace h := ob h; obtain ⟨r40, er40, h⟩ := h
    refine g_callV (y := yX8_sayWord) (ν := mX8_sayWord) (n := 1) (As := [.long (7956011598750246254 : Int64)]) (b := this) (st := []) (M2 := r40) (r1 := none) (pc' := 285) O dX8_sayBelow20_282 tw_969 tw_58 tw_968 tw_42 tw_966 hyX8_sayWord rfl rfl eu39 (okX8_sayWord er40) (Nat.le_of_ble_eq_true rfl) ⟨Nat.le_of_ble_eq_true rfl, Nat.le_of_ble_eq_true rfl⟩ ⟨Nat.le_of_ble_eq_true rfl, Nat.le_of_ble_eq_true rfl⟩ rfl ?_
    show G κ mX8_sayBelow20 0 0 285 [(0, .ref this), (1, .int p0)] [] r40
    refine g_goto (pc' := 288) O dX8_sayBelow20_285 (by decide) ?_
    refine g_sub (lv' := []) [] rfl ?_
    exact tX8_sayBelow20_288 O hf h
  replace h := ine hs18 h
  refine g_tableOut (pc' := 288) O dX8_sayBelow20_1 (by have q0 := lv_neT hs0 (show (1 : Int32).toInt = 1 by decide); have q1 := lv_neT hs1 (show (2 : Int32).toInt = 2 by decide); have q2 := lv_neT hs2 (show (3 : Int32).toInt = 3 by decide); have q3 := lv_neT hs3 (show (4 : Int32).toInt = 4 by decide); have q4 := lv_neT hs4 (show (5 : Int32).toInt = 5 by decide); have q5 := lv_neT hs5 (show (6 : Int32).toInt = 6 by decide); have q6 := lv_neT hs6 (show (7 : Int32).toInt = 7 by decide); have q7 := lv_neT hs7 (show (8 : Int32).toInt = 8 by decide); have q8 := lv_neT hs8 (show (9 : Int32).toInt = 9 by decide); have q9 := lv_neT hs9 (show (10 : Int32).toInt = 10 by decide); have q10 := lv_neT hs10 (show (11 : Int32).toInt = 11 by decide); have q11 := lv_neT hs11 (show (12 : Int32).toInt = 12 by decide); have q12 := lv_neT hs12 (show (13 : Int32).toInt = 13 by decide); have q13 := lv_neT hs13 (show (14 : Int32).toInt = 14 by decide); have q14 := lv_neT hs14 (show (15 : Int32).toInt = 15 by decide); have q15 := lv_neT hs15 (show (16 : Int32).toInt = 16 by decide); have q16 := lv_neT hs16 (show (17 : Int32).toInt = 17 by decide); have q17 := lv_neT hs17 (show (18 : Int32).toInt = 18 by decide); have q18 := lv_neT hs18 (show (19 : Int32).toInt = 19 by decide); omega) (by decide) ?_
  refine g_sub (lv' := []) [] rfl ?_
  exact tX8_sayBelow20_288 O hf h
abbrev mX8_sayTens : MD := (cX8_sayTens, 2, RX8, none, { frames := 2, cells := 0, slots := 0, locals := 45 }, "sayTens")
theorem hyX8_sayTens : yX8_sayTens.cls ≠ "java/lang/invoke/MethodHandle" ∧ yX8_sayTens.cls ≠ "java/lang/invoke/VarHandle" ∧ (parseMethodDescriptor yX8_sayTens.desc).map (fun d => d.parameters.length) = some 1 := by decide +kernel
def fX8_sayTens_128  (M : Mem) : Option (Mem) :=
  some M
set_option maxHeartbeats 4000000 in
set_option maxRecDepth 100000 in
theorem tX8_sayTens_128 {κ : KT} {p : Mem} (O : OkK κ mX8_sayTens) (hf : κ.2.2.2.2.2.2.2.2.2.2.2.2.2 = (none, p))  {M : Mem} (h : fX8_sayTens_128  M = some p) : G κ mX8_sayTens 0 0 128 [] [] M := by
  unfold fX8_sayTens_128 at h
  cases h
  exact g_vreturn O dX8_sayTens_128 rfl hf (by decide) (by decide)
def fX8_sayTens  (this : Nat) (p0 : Int32) (M : Mem) : Option (Mem) :=
  if p0 = (2 : Int32) then ((ck M 5 this).bind fun u1 =>
  (fX8_sayWord this (128056151667833 : Int64) M).bind fun r2 =>
  fX8_sayTens_128 r2)
  else (if p0 = (3 : Int32) then ((ck M 5 this).bind fun u3 =>
  (fX8_sayWord this (127991794529401 : Int64) M).bind fun r4 =>
  fX8_sayTens_128 r4)
  else (if p0 = (4 : Int32) then ((ck M 5 this).bind fun u5 =>
  (fX8_sayWord this (439956436089 : Int64) M).bind fun r6 =>
  fX8_sayTens_128 r6)
  else (if p0 = (5 : Int32) then ((ck M 5 this).bind fun u7 =>
  (fX8_sayWord this (439854986361 : Int64) M).bind fun r8 =>
  fX8_sayTens_128 r8)
  else (if p0 = (6 : Int32) then ((ck M 5 this).bind fun u9 =>
  (fX8_sayWord this (495690740857 : Int64) M).bind fun r10 =>
  fX8_sayTens_128 r10)
  else (if p0 = (7 : Int32) then ((ck M 5 this).bind fun u11 =>
  (fX8_sayWord this (32481181504009337 : Int64) M).bind fun r12 =>
  fX8_sayTens_128 r12)
  else (if p0 = (8 : Int32) then ((ck M 5 this).bind fun u13 =>
  (fX8_sayWord this (111503380870265 : Int64) M).bind fun r14 =>
  fX8_sayTens_128 r14)
  else (if p0 = (9 : Int32) then ((ck M 5 this).bind fun u15 =>
  (fX8_sayWord this (121399102764153 : Int64) M).bind fun r16 =>
  fX8_sayTens_128 r16)
  else (fX8_sayTens_128 M))))))))
set_option maxHeartbeats 4000000 in
set_option maxRecDepth 100000 in
theorem okX8_sayTens {l : Launch} {p : Mem} {this : Nat} {p0 : Int32} {M : Mem} (h : fX8_sayTens this p0 M = some p) : Cn l yX8_sayTens mX8_sayTens [.ref this, .int p0] M none p := by
  refine Cn.of [(0, .ref this), (1, .int p0)] (by decide) rfl rfl (Nat.le_of_ble_eq_true rfl) rfl (fun κ _ hf O => ?_)
  unfold fX8_sayTens at h
  refine g_iload_n (pc' := 1) 1 O dX8_sayTens_0 rfl rfl rfl ?_
  by_cases hs0 : p0 = (2 : Int32)
  · replace h := ip hs0 h
    refine g_tableIn (off := 47) (pc' := 48) O dX8_sayTens_1 (by rw [hs0]; decide) (by rw [hs0]; decide) (by rw [hs0]; decide) (by decide) ?_
    refine g_aload_n (pc' := 49) 0 O dX8_sayTens_48 rfl rfl rfl ?_
    refine g_ldc2 (v := 128056151667833) (pc' := 52) O dX8_sayTens_49 tw_1005 rfl ?_
    replace h := ob h; obtain ⟨u1, eu1, h⟩ := h
    replace h := ob h; obtain ⟨r2, er2, h⟩ := h
    refine g_callV (y := yX8_sayWord) (ν := mX8_sayWord) (n := 1) (As := [.long (128056151667833 : Int64)]) (b := this) (st := []) (M2 := r2) (r1 := none) (pc' := 55) O dX8_sayTens_52 tw_969 tw_58 tw_968 tw_42 tw_966 hyX8_sayWord rfl rfl eu1 (okX8_sayWord er2) (Nat.le_of_ble_eq_true rfl) ⟨Nat.le_of_ble_eq_true rfl, Nat.le_of_ble_eq_true rfl⟩ ⟨Nat.le_of_ble_eq_true rfl, Nat.le_of_ble_eq_true rfl⟩ rfl ?_
    show G κ mX8_sayTens 0 0 55 [(0, .ref this), (1, .int p0)] [] r2
    refine g_goto (pc' := 128) O dX8_sayTens_55 (by decide) ?_
    refine g_sub (lv' := []) [] rfl ?_
    exact tX8_sayTens_128 O hf h
  replace h := ine hs0 h
  by_cases hs1 : p0 = (3 : Int32)
  · replace h := ip hs1 h
    refine g_tableIn (off := 57) (pc' := 58) O dX8_sayTens_1 (by rw [hs1]; decide) (by rw [hs1]; decide) (by rw [hs1]; decide) (by decide) ?_
    refine g_aload_n (pc' := 59) 0 O dX8_sayTens_58 rfl rfl rfl ?_
    refine g_ldc2 (v := 127991794529401) (pc' := 62) O dX8_sayTens_59 tw_1006 rfl ?_
    replace h := ob h; obtain ⟨u3, eu3, h⟩ := h
    replace h := ob h; obtain ⟨r4, er4, h⟩ := h
    refine g_callV (y := yX8_sayWord) (ν := mX8_sayWord) (n := 1) (As := [.long (127991794529401 : Int64)]) (b := this) (st := []) (M2 := r4) (r1 := none) (pc' := 65) O dX8_sayTens_62 tw_969 tw_58 tw_968 tw_42 tw_966 hyX8_sayWord rfl rfl eu3 (okX8_sayWord er4) (Nat.le_of_ble_eq_true rfl) ⟨Nat.le_of_ble_eq_true rfl, Nat.le_of_ble_eq_true rfl⟩ ⟨Nat.le_of_ble_eq_true rfl, Nat.le_of_ble_eq_true rfl⟩ rfl ?_
    show G κ mX8_sayTens 0 0 65 [(0, .ref this), (1, .int p0)] [] r4
    refine g_goto (pc' := 128) O dX8_sayTens_65 (by decide) ?_
    refine g_sub (lv' := []) [] rfl ?_
    exact tX8_sayTens_128 O hf h
  replace h := ine hs1 h
  by_cases hs2 : p0 = (4 : Int32)
  · replace h := ip hs2 h
    refine g_tableIn (off := 67) (pc' := 68) O dX8_sayTens_1 (by rw [hs2]; decide) (by rw [hs2]; decide) (by rw [hs2]; decide) (by decide) ?_
    refine g_aload_n (pc' := 69) 0 O dX8_sayTens_68 rfl rfl rfl ?_
    refine g_ldc2 (v := 439956436089) (pc' := 72) O dX8_sayTens_69 tw_1007 rfl ?_
    replace h := ob h; obtain ⟨u5, eu5, h⟩ := h
    replace h := ob h; obtain ⟨r6, er6, h⟩ := h
    refine g_callV (y := yX8_sayWord) (ν := mX8_sayWord) (n := 1) (As := [.long (439956436089 : Int64)]) (b := this) (st := []) (M2 := r6) (r1 := none) (pc' := 75) O dX8_sayTens_72 tw_969 tw_58 tw_968 tw_42 tw_966 hyX8_sayWord rfl rfl eu5 (okX8_sayWord er6) (Nat.le_of_ble_eq_true rfl) ⟨Nat.le_of_ble_eq_true rfl, Nat.le_of_ble_eq_true rfl⟩ ⟨Nat.le_of_ble_eq_true rfl, Nat.le_of_ble_eq_true rfl⟩ rfl ?_
    show G κ mX8_sayTens 0 0 75 [(0, .ref this), (1, .int p0)] [] r6
    refine g_goto (pc' := 128) O dX8_sayTens_75 (by decide) ?_
    refine g_sub (lv' := []) [] rfl ?_
    exact tX8_sayTens_128 O hf h
  replace h := ine hs2 h
  by_cases hs3 : p0 = (5 : Int32)
  · replace h := ip hs3 h
    refine g_tableIn (off := 77) (pc' := 78) O dX8_sayTens_1 (by rw [hs3]; decide) (by rw [hs3]; decide) (by rw [hs3]; decide) (by decide) ?_
    refine g_aload_n (pc' := 79) 0 O dX8_sayTens_78 rfl rfl rfl ?_
    refine g_ldc2 (v := 439854986361) (pc' := 82) O dX8_sayTens_79 tw_1008 rfl ?_
    replace h := ob h; obtain ⟨u7, eu7, h⟩ := h
    replace h := ob h; obtain ⟨r8, er8, h⟩ := h
    refine g_callV (y := yX8_sayWord) (ν := mX8_sayWord) (n := 1) (As := [.long (439854986361 : Int64)]) (b := this) (st := []) (M2 := r8) (r1 := none) (pc' := 85) O dX8_sayTens_82 tw_969 tw_58 tw_968 tw_42 tw_966 hyX8_sayWord rfl rfl eu7 (okX8_sayWord er8) (Nat.le_of_ble_eq_true rfl) ⟨Nat.le_of_ble_eq_true rfl, Nat.le_of_ble_eq_true rfl⟩ ⟨Nat.le_of_ble_eq_true rfl, Nat.le_of_ble_eq_true rfl⟩ rfl ?_
    show G κ mX8_sayTens 0 0 85 [(0, .ref this), (1, .int p0)] [] r8
    refine g_goto (pc' := 128) O dX8_sayTens_85 (by decide) ?_
    refine g_sub (lv' := []) [] rfl ?_
    exact tX8_sayTens_128 O hf h
  replace h := ine hs3 h
  by_cases hs4 : p0 = (6 : Int32)
  · replace h := ip hs4 h
    refine g_tableIn (off := 87) (pc' := 88) O dX8_sayTens_1 (by rw [hs4]; decide) (by rw [hs4]; decide) (by rw [hs4]; decide) (by decide) ?_
    refine g_aload_n (pc' := 89) 0 O dX8_sayTens_88 rfl rfl rfl ?_
    refine g_ldc2 (v := 495690740857) (pc' := 92) O dX8_sayTens_89 tw_1009 rfl ?_
    replace h := ob h; obtain ⟨u9, eu9, h⟩ := h
    replace h := ob h; obtain ⟨r10, er10, h⟩ := h
    refine g_callV (y := yX8_sayWord) (ν := mX8_sayWord) (n := 1) (As := [.long (495690740857 : Int64)]) (b := this) (st := []) (M2 := r10) (r1 := none) (pc' := 95) O dX8_sayTens_92 tw_969 tw_58 tw_968 tw_42 tw_966 hyX8_sayWord rfl rfl eu9 (okX8_sayWord er10) (Nat.le_of_ble_eq_true rfl) ⟨Nat.le_of_ble_eq_true rfl, Nat.le_of_ble_eq_true rfl⟩ ⟨Nat.le_of_ble_eq_true rfl, Nat.le_of_ble_eq_true rfl⟩ rfl ?_
    show G κ mX8_sayTens 0 0 95 [(0, .ref this), (1, .int p0)] [] r10
    refine g_goto (pc' := 128) O dX8_sayTens_95 (by decide) ?_
    refine g_sub (lv' := []) [] rfl ?_
    exact tX8_sayTens_128 O hf h
  replace h := ine hs4 h
  by_cases hs5 : p0 = (7 : Int32)
  · replace h := ip hs5 h
    refine g_tableIn (off := 97) (pc' := 98) O dX8_sayTens_1 (by rw [hs5]; decide) (by rw [hs5]; decide) (by rw [hs5]; decide) (by decide) ?_
    refine g_aload_n (pc' := 99) 0 O dX8_sayTens_98 rfl rfl rfl ?_
    refine g_ldc2 (v := 32481181504009337) (pc' := 102) O dX8_sayTens_99 tw_1010 rfl ?_
    replace h := ob h; obtain ⟨u11, eu11, h⟩ := h
    replace h := ob h; obtain ⟨r12, er12, h⟩ := h
    refine g_callV (y := yX8_sayWord) (ν := mX8_sayWord) (n := 1) (As := [.long (32481181504009337 : Int64)]) (b := this) (st := []) (M2 := r12) (r1 := none) (pc' := 105) O dX8_sayTens_102 tw_969 tw_58 tw_968 tw_42 tw_966 hyX8_sayWord rfl rfl eu11 (okX8_sayWord er12) (Nat.le_of_ble_eq_true rfl) ⟨Nat.le_of_ble_eq_true rfl, Nat.le_of_ble_eq_true rfl⟩ ⟨Nat.le_of_ble_eq_true rfl, Nat.le_of_ble_eq_true rfl⟩ rfl ?_
    show G κ mX8_sayTens 0 0 105 [(0, .ref this), (1, .int p0)] [] r12
    refine g_goto (pc' := 128) O dX8_sayTens_105 (by decide) ?_
    refine g_sub (lv' := []) [] rfl ?_
    exact tX8_sayTens_128 O hf h
  replace h := ine hs5 h
  by_cases hs6 : p0 = (8 : Int32)
  · replace h := ip hs6 h
    refine g_tableIn (off := 107) (pc' := 108) O dX8_sayTens_1 (by rw [hs6]; decide) (by rw [hs6]; decide) (by rw [hs6]; decide) (by decide) ?_
    refine g_aload_n (pc' := 109) 0 O dX8_sayTens_108 rfl rfl rfl ?_
    refine g_ldc2 (v := 111503380870265) (pc' := 112) O dX8_sayTens_109 tw_1011 rfl ?_
    replace h := ob h; obtain ⟨u13, eu13, h⟩ := h
    replace h := ob h; obtain ⟨r14, er14, h⟩ := h
    refine g_callV (y := yX8_sayWord) (ν := mX8_sayWord) (n := 1) (As := [.long (111503380870265 : Int64)]) (b := this) (st := []) (M2 := r14) (r1 := none) (pc' := 115) O dX8_sayTens_112 tw_969 tw_58 tw_968 tw_42 tw_966 hyX8_sayWord rfl rfl eu13 (okX8_sayWord er14) (Nat.le_of_ble_eq_true rfl) ⟨Nat.le_of_ble_eq_true rfl, Nat.le_of_ble_eq_true rfl⟩ ⟨Nat.le_of_ble_eq_true rfl, Nat.le_of_ble_eq_true rfl⟩ rfl ?_
    show G κ mX8_sayTens 0 0 115 [(0, .ref this), (1, .int p0)] [] r14
    refine g_goto (pc' := 128) O dX8_sayTens_115 (by decide) ?_
    refine g_sub (lv' := []) [] rfl ?_
    exact tX8_sayTens_128 O hf h
  replace h := ine hs6 h
  by_cases hs7 : p0 = (9 : Int32)
  · replace h := ip hs7 h
    refine g_tableIn (off := 117) (pc' := 118) O dX8_sayTens_1 (by rw [hs7]; decide) (by rw [hs7]; decide) (by rw [hs7]; decide) (by decide) ?_
    refine g_aload_n (pc' := 119) 0 O dX8_sayTens_118 rfl rfl rfl ?_
    refine g_ldc2 (v := 121399102764153) (pc' := 122) O dX8_sayTens_119 tw_1012 rfl ?_
    replace h := ob h; obtain ⟨u15, eu15, h⟩ := h
    replace h := ob h; obtain ⟨r16, er16, h⟩ := h
    refine g_callV (y := yX8_sayWord) (ν := mX8_sayWord) (n := 1) (As := [.long (121399102764153 : Int64)]) (b := this) (st := []) (M2 := r16) (r1 := none) (pc' := 125) O dX8_sayTens_122 tw_969 tw_58 tw_968 tw_42 tw_966 hyX8_sayWord rfl rfl eu15 (okX8_sayWord er16) (Nat.le_of_ble_eq_true rfl) ⟨Nat.le_of_ble_eq_true rfl, Nat.le_of_ble_eq_true rfl⟩ ⟨Nat.le_of_ble_eq_true rfl, Nat.le_of_ble_eq_true rfl⟩ rfl ?_
    show G κ mX8_sayTens 0 0 125 [(0, .ref this), (1, .int p0)] [] r16
    refine g_goto (pc' := 128) O dX8_sayTens_125 (by decide) ?_
    refine g_sub (lv' := []) [] rfl ?_
    exact tX8_sayTens_128 O hf h
  replace h := ine hs7 h
  refine g_tableOut (pc' := 128) O dX8_sayTens_1 (by have q0 := lv_neT hs0 (show (2 : Int32).toInt = 2 by decide); have q1 := lv_neT hs1 (show (3 : Int32).toInt = 3 by decide); have q2 := lv_neT hs2 (show (4 : Int32).toInt = 4 by decide); have q3 := lv_neT hs3 (show (5 : Int32).toInt = 5 by decide); have q4 := lv_neT hs4 (show (6 : Int32).toInt = 6 by decide); have q5 := lv_neT hs5 (show (7 : Int32).toInt = 7 by decide); have q6 := lv_neT hs6 (show (8 : Int32).toInt = 8 by decide); have q7 := lv_neT hs7 (show (9 : Int32).toInt = 9 by decide); omega) (by decide) ?_
  refine g_sub (lv' := []) [] rfl ?_
  exact tX8_sayTens_128 O hf h
abbrev mX8_sayBelow1000 : MD := (cX8_sayBelow1000, 3, RX8, none, { frames := 3, cells := 0, slots := 0, locals := 66 }, "sayBelow1000")
theorem hyX8_sayBelow1000 : yX8_sayBelow1000.cls ≠ "java/lang/invoke/MethodHandle" ∧ yX8_sayBelow1000.cls ≠ "java/lang/invoke/VarHandle" ∧ (parseMethodDescriptor yX8_sayBelow1000.desc).map (fun d => d.parameters.length) = some 1 := by decide +kernel
def fX8_sayBelow1000_56  (M : Mem) : Option (Mem) :=
  some M
set_option maxHeartbeats 4000000 in
set_option maxRecDepth 100000 in
theorem tX8_sayBelow1000_56 {κ : KT} {p : Mem} (O : OkK κ mX8_sayBelow1000) (hf : κ.2.2.2.2.2.2.2.2.2.2.2.2.2 = (none, p))  {M : Mem} (h : fX8_sayBelow1000_56  M = some p) : G κ mX8_sayBelow1000 0 0 56 [] [] M := by
  unfold fX8_sayBelow1000_56 at h
  cases h
  exact g_vreturn O dX8_sayBelow1000_56 rfl hf (by decide) (by decide)
def fX8_sayBelow1000_21  (x0 : Nat) (x1 : Int32) (M : Mem) : Option (Mem) :=
  if (20 : Int32) ≤ (rmI x1 (100 : Int32)) then ((ck M 5 x0).bind fun u1 =>
  (fX8_sayTens x0 ((rmI x1 (100 : Int32)) / (10 : Int32)) M).bind fun r2 =>
  (ck r2 5 x0).bind fun u3 =>
  (fX8_sayBelow20 x0 (rmI (rmI x1 (100 : Int32)) (10 : Int32)) r2).bind fun r4 =>
  fX8_sayBelow1000_56 r4)
  else ((ck M 5 x0).bind fun u5 =>
  (fX8_sayBelow20 x0 (rmI x1 (100 : Int32)) M).bind fun r6 =>
  fX8_sayBelow1000_56 r6)
set_option maxHeartbeats 4000000 in
set_option maxRecDepth 100000 in
theorem tX8_sayBelow1000_21 {κ : KT} {p : Mem} (O : OkK κ mX8_sayBelow1000) (hf : κ.2.2.2.2.2.2.2.2.2.2.2.2.2 = (none, p))  {x0 : Nat} {x1 : Int32} {M : Mem} (h : fX8_sayBelow1000_21  x0 x1 M = some p) : G κ mX8_sayBelow1000 0 0 21 [(0, .ref x0), (1, .int x1)] [] M := by
  unfold fX8_sayBelow1000_21 at h
  refine g_iload_n (pc' := 22) 1 O dX8_sayBelow1000_21 rfl rfl rfl ?_
  refine g_bipush (v := 100) (pc' := 24) O dX8_sayBelow1000_22 (by decide) rfl ?_
  refine g_irem2 (pc' := 25) O dX8_sayBelow1000_24 (by decide) rfl ?_
  refine g_istore_n (lv' := [(2, .int (rmI x1 (100 : Int32))), (0, .ref x0), (1, .int x1)]) (pc' := 26) O dX8_sayBelow1000_25 rfl (by decide) rfl rfl ?_
  refine g_iload_n (pc' := 27) 0 O dX8_sayBelow1000_26 rfl rfl rfl ?_
  refine g_bipush (v := 20) (pc' := 29) O dX8_sayBelow1000_27 (by decide) rfl ?_
  refine g_icmp_ge (tgt := 40) (pc' := 32) O dX8_sayBelow1000_29 (by decide) rfl (fun hc => ?_) (fun hc => ?_)
  · replace h := ip hc h
    refine g_aload_n (pc' := 41) 1 O dX8_sayBelow1000_40 rfl rfl rfl ?_
    refine g_iload_n (pc' := 42) 0 O dX8_sayBelow1000_41 rfl rfl rfl ?_
    refine g_bipush (v := 10) (pc' := 44) O dX8_sayBelow1000_42 (by decide) rfl ?_
    refine g_idiv (pc' := 45) O dX8_sayBelow1000_44 (by decide) rfl ?_
    replace h := ob h; obtain ⟨u1, eu1, h⟩ := h
    replace h := ob h; obtain ⟨r2, er2, h⟩ := h
    refine g_callV (y := yX8_sayTens) (ν := mX8_sayTens) (n := 1) (As := [.int ((rmI x1 (100 : Int32)) / (10 : Int32))]) (b := x0) (st := []) (M2 := r2) (r1 := none) (pc' := 48) O dX8_sayBelow1000_45 tw_1004 tw_58 tw_1003 tw_45 tw_1001 hyX8_sayTens rfl rfl eu1 (okX8_sayTens er2) (Nat.le_of_ble_eq_true rfl) ⟨Nat.le_of_ble_eq_true rfl, Nat.le_of_ble_eq_true rfl⟩ ⟨Nat.le_of_ble_eq_true rfl, Nat.le_of_ble_eq_true rfl⟩ rfl ?_
    show G κ mX8_sayBelow1000 0 0 48 [(2, .int (rmI x1 (100 : Int32))), (0, .ref x0), (1, .int x1)] [] r2
    refine g_aload_n (pc' := 49) 1 O dX8_sayBelow1000_48 rfl rfl rfl ?_
    refine g_iload_n (pc' := 50) 0 O dX8_sayBelow1000_49 rfl rfl rfl ?_
    refine g_bipush (v := 10) (pc' := 52) O dX8_sayBelow1000_50 (by decide) rfl ?_
    refine g_irem2 (pc' := 53) O dX8_sayBelow1000_52 (by decide) rfl ?_
    replace h := ob h; obtain ⟨u3, eu3, h⟩ := h
    replace h := ob h; obtain ⟨r4, er4, h⟩ := h
    refine g_callV (y := yX8_sayBelow20) (ν := mX8_sayBelow20) (n := 1) (As := [.int (rmI (rmI x1 (100 : Int32)) (10 : Int32))]) (b := x0) (st := []) (M2 := r4) (r1 := none) (pc' := 56) O dX8_sayBelow1000_53 tw_980 tw_58 tw_979 tw_44 tw_977 hyX8_sayBelow20 rfl rfl eu3 (okX8_sayBelow20 er4) (Nat.le_of_ble_eq_true rfl) ⟨Nat.le_of_ble_eq_true rfl, Nat.le_of_ble_eq_true rfl⟩ ⟨Nat.le_of_ble_eq_true rfl, Nat.le_of_ble_eq_true rfl⟩ rfl ?_
    show G κ mX8_sayBelow1000 0 0 56 [(2, .int (rmI x1 (100 : Int32))), (0, .ref x0), (1, .int x1)] [] r4
    refine g_sub (lv' := []) [] rfl ?_
    exact tX8_sayBelow1000_56 O hf h
  · replace h := ine hc h
    refine g_aload_n (pc' := 33) 1 O dX8_sayBelow1000_32 rfl rfl rfl ?_
    refine g_iload_n (pc' := 34) 0 O dX8_sayBelow1000_33 rfl rfl rfl ?_
    replace h := ob h; obtain ⟨u5, eu5, h⟩ := h
    replace h := ob h; obtain ⟨r6, er6, h⟩ := h
    refine g_callV (y := yX8_sayBelow20) (ν := mX8_sayBelow20) (n := 1) (As := [.int (rmI x1 (100 : Int32))]) (b := x0) (st := []) (M2 := r6) (r1 := none) (pc' := 37) O dX8_sayBelow1000_34 tw_980 tw_58 tw_979 tw_44 tw_977 hyX8_sayBelow20 rfl rfl eu5 (okX8_sayBelow20 er6) (Nat.le_of_ble_eq_true rfl) ⟨Nat.le_of_ble_eq_true rfl, Nat.le_of_ble_eq_true rfl⟩ ⟨Nat.le_of_ble_eq_true rfl, Nat.le_of_ble_eq_true rfl⟩ rfl ?_
    show G κ mX8_sayBelow1000 0 0 37 [(2, .int (rmI x1 (100 : Int32))), (0, .ref x0), (1, .int x1)] [] r6
    refine g_goto (pc' := 56) O dX8_sayBelow1000_37 (by decide) ?_
    refine g_sub (lv' := []) [] rfl ?_
    exact tX8_sayBelow1000_56 O hf h
def fX8_sayBelow1000  (this : Nat) (p0 : Int32) (M : Mem) : Option (Mem) :=
  if p0 ≤ (99 : Int32) then (fX8_sayBelow1000_21 this p0 M)
  else ((ck M 5 this).bind fun u1 =>
  (fX8_sayBelow20 this (p0 / (100 : Int32)) M).bind fun r2 =>
  (ck r2 5 this).bind fun u3 =>
  (fX8_sayWord this (29402514569979236 : Int64) r2).bind fun r4 =>
  fX8_sayBelow1000_21 this p0 r4)
set_option maxHeartbeats 4000000 in
set_option maxRecDepth 100000 in
theorem okX8_sayBelow1000 {l : Launch} {p : Mem} {this : Nat} {p0 : Int32} {M : Mem} (h : fX8_sayBelow1000 this p0 M = some p) : Cn l yX8_sayBelow1000 mX8_sayBelow1000 [.ref this, .int p0] M none p := by
  refine Cn.of [(0, .ref this), (1, .int p0)] (by decide) rfl rfl (Nat.le_of_ble_eq_true rfl) rfl (fun κ _ hf O => ?_)
  unfold fX8_sayBelow1000 at h
  refine g_iload_n (pc' := 1) 1 O dX8_sayBelow1000_0 rfl rfl rfl ?_
  refine g_bipush (v := 99) (pc' := 3) O dX8_sayBelow1000_1 (by decide) rfl ?_
  refine g_icmp_le (tgt := 21) (pc' := 6) O dX8_sayBelow1000_3 (by decide) rfl (fun hc => ?_) (fun hc => ?_)
  · replace h := ip hc h
    exact tX8_sayBelow1000_21 O hf h
  · replace h := ine hc h
    refine g_aload_n (pc' := 7) 0 O dX8_sayBelow1000_6 rfl rfl rfl ?_
    refine g_iload_n (pc' := 8) 1 O dX8_sayBelow1000_7 rfl rfl rfl ?_
    refine g_bipush (v := 100) (pc' := 10) O dX8_sayBelow1000_8 (by decide) rfl ?_
    refine g_idiv (pc' := 11) O dX8_sayBelow1000_10 (by decide) rfl ?_
    replace h := ob h; obtain ⟨u1, eu1, h⟩ := h
    replace h := ob h; obtain ⟨r2, er2, h⟩ := h
    refine g_callV (y := yX8_sayBelow20) (ν := mX8_sayBelow20) (n := 1) (As := [.int (p0 / (100 : Int32))]) (b := this) (st := []) (M2 := r2) (r1 := none) (pc' := 14) O dX8_sayBelow1000_11 tw_980 tw_58 tw_979 tw_44 tw_977 hyX8_sayBelow20 rfl rfl eu1 (okX8_sayBelow20 er2) (Nat.le_of_ble_eq_true rfl) ⟨Nat.le_of_ble_eq_true rfl, Nat.le_of_ble_eq_true rfl⟩ ⟨Nat.le_of_ble_eq_true rfl, Nat.le_of_ble_eq_true rfl⟩ rfl ?_
    show G κ mX8_sayBelow1000 0 0 14 [(0, .ref this), (1, .int p0)] [] r2
    refine g_aload_n (pc' := 15) 0 O dX8_sayBelow1000_14 rfl rfl rfl ?_
    refine g_ldc2 (v := 29402514569979236) (pc' := 18) O dX8_sayBelow1000_15 tw_1000 rfl ?_
    replace h := ob h; obtain ⟨u3, eu3, h⟩ := h
    replace h := ob h; obtain ⟨r4, er4, h⟩ := h
    refine g_callV (y := yX8_sayWord) (ν := mX8_sayWord) (n := 1) (As := [.long (29402514569979236 : Int64)]) (b := this) (st := []) (M2 := r4) (r1 := none) (pc' := 21) O dX8_sayBelow1000_18 tw_969 tw_58 tw_968 tw_42 tw_966 hyX8_sayWord rfl rfl eu3 (okX8_sayWord er4) (Nat.le_of_ble_eq_true rfl) ⟨Nat.le_of_ble_eq_true rfl, Nat.le_of_ble_eq_true rfl⟩ ⟨Nat.le_of_ble_eq_true rfl, Nat.le_of_ble_eq_true rfl⟩ rfl ?_
    show G κ mX8_sayBelow1000 0 0 21 [(0, .ref this), (1, .int p0)] [] r4
    exact tX8_sayBelow1000_21 O hf h
abbrev mX8_makeWords : MD := (cX8_makeWords, 2, RX8, none, { frames := 4, cells := 0, slots := 0, locals := 88 }, "makeWords")
theorem hyX8_makeWords : yX8_makeWords.cls ≠ "java/lang/invoke/MethodHandle" ∧ yX8_makeWords.cls ≠ "java/lang/invoke/VarHandle" ∧ (parseMethodDescriptor yX8_makeWords.desc).map (fun d => d.parameters.length) = some 1 := by decide +kernel
def fX8_makeWords_71  (x0 : Nat) (x1 : Int32) (M : Mem) : Option (Mem) :=
  (ck M 5 x0).bind fun u1 =>
  (fX8_sayBelow1000 x0 (rmI x1 (1000 : Int32)) M).bind fun r2 =>
  some r2
set_option maxHeartbeats 4000000 in
set_option maxRecDepth 100000 in
theorem tX8_makeWords_71 {κ : KT} {p : Mem} (O : OkK κ mX8_makeWords) (hf : κ.2.2.2.2.2.2.2.2.2.2.2.2.2 = (none, p))  {x0 : Nat} {x1 : Int32} {M : Mem} (h : fX8_makeWords_71  x0 x1 M = some p) : G κ mX8_makeWords 0 0 71 [(0, .ref x0), (1, .int x1)] [] M := by
  unfold fX8_makeWords_71 at h
  refine g_aload_n (pc' := 72) 0 O dX8_makeWords_71 rfl rfl rfl ?_
  refine g_iload_n (pc' := 73) 1 O dX8_makeWords_72 rfl rfl rfl ?_
  refine g_sipush (v := 1000) (pc' := 76) O dX8_makeWords_73 (by decide) rfl ?_
  refine g_irem2 (pc' := 77) O dX8_makeWords_76 (by decide) rfl ?_
  replace h := ob h; obtain ⟨u1, eu1, h⟩ := h
  replace h := ob h; obtain ⟨r2, er2, h⟩ := h
  refine g_callV (y := yX8_sayBelow1000) (ν := mX8_sayBelow1000) (n := 1) (As := [.int (rmI x1 (1000 : Int32))]) (b := x0) (st := []) (M2 := r2) (r1 := none) (pc' := 80) O dX8_makeWords_77 tw_976 tw_58 tw_975 tw_43 tw_973 hyX8_sayBelow1000 rfl rfl eu1 (okX8_sayBelow1000 er2) (Nat.le_of_ble_eq_true rfl) ⟨Nat.le_of_ble_eq_true rfl, Nat.le_of_ble_eq_true rfl⟩ ⟨Nat.le_of_ble_eq_true rfl, Nat.le_of_ble_eq_true rfl⟩ rfl ?_
  show G κ mX8_makeWords 0 0 80 [(0, .ref x0), (1, .int x1)] [] r2
  cases h
  exact g_vreturn O dX8_makeWords_80 rfl hf (by decide) (by decide)
def fX8_makeWords_39  (x0 : Nat) (x1 : Int32) (M : Mem) : Option (Mem) :=
  if (rmI (x1 / (1000 : Int32)) (1000 : Int32)) ≤ 0 then (fX8_makeWords_71 x0 x1 M)
  else ((ck M 5 x0).bind fun u1 =>
  (fX8_sayBelow1000 x0 (rmI (x1 / (1000 : Int32)) (1000 : Int32)) M).bind fun r2 =>
  (ck r2 5 x0).bind fun u3 =>
  (fX8_sayWord x0 (8388076856215170660 : Int64) r2).bind fun r4 =>
  fX8_makeWords_71 x0 x1 r4)
set_option maxHeartbeats 4000000 in
set_option maxRecDepth 100000 in
theorem tX8_makeWords_39 {κ : KT} {p : Mem} (O : OkK κ mX8_makeWords) (hf : κ.2.2.2.2.2.2.2.2.2.2.2.2.2 = (none, p))  {x0 : Nat} {x1 : Int32} {M : Mem} (h : fX8_makeWords_39  x0 x1 M = some p) : G κ mX8_makeWords 0 0 39 [(0, .ref x0), (1, .int x1)] [] M := by
  unfold fX8_makeWords_39 at h
  refine g_iload_n (pc' := 40) 1 O dX8_makeWords_39 rfl rfl rfl ?_
  refine g_sipush (v := 1000) (pc' := 43) O dX8_makeWords_40 (by decide) rfl ?_
  refine g_idiv (pc' := 44) O dX8_makeWords_43 (by decide) rfl ?_
  refine g_sipush (v := 1000) (pc' := 47) O dX8_makeWords_44 (by decide) rfl ?_
  refine g_irem2 (pc' := 48) O dX8_makeWords_47 (by decide) rfl ?_
  refine g_if_le (tgt := 71) (pc' := 51) O dX8_makeWords_48 (by decide) rfl (fun hc => ?_) (fun hc => ?_)
  · replace h := ip hc h
    exact tX8_makeWords_71 O hf h
  · replace h := ine hc h
    refine g_aload_n (pc' := 52) 0 O dX8_makeWords_51 rfl rfl rfl ?_
    refine g_iload_n (pc' := 53) 1 O dX8_makeWords_52 rfl rfl rfl ?_
    refine g_sipush (v := 1000) (pc' := 56) O dX8_makeWords_53 (by decide) rfl ?_
    refine g_idiv (pc' := 57) O dX8_makeWords_56 (by decide) rfl ?_
    refine g_sipush (v := 1000) (pc' := 60) O dX8_makeWords_57 (by decide) rfl ?_
    refine g_irem2 (pc' := 61) O dX8_makeWords_60 (by decide) rfl ?_
    replace h := ob h; obtain ⟨u1, eu1, h⟩ := h
    replace h := ob h; obtain ⟨r2, er2, h⟩ := h
    refine g_callV (y := yX8_sayBelow1000) (ν := mX8_sayBelow1000) (n := 1) (As := [.int (rmI (x1 / (1000 : Int32)) (1000 : Int32))]) (b := x0) (st := []) (M2 := r2) (r1 := none) (pc' := 64) O dX8_makeWords_61 tw_976 tw_58 tw_975 tw_43 tw_973 hyX8_sayBelow1000 rfl rfl eu1 (okX8_sayBelow1000 er2) (Nat.le_of_ble_eq_true rfl) ⟨Nat.le_of_ble_eq_true rfl, Nat.le_of_ble_eq_true rfl⟩ ⟨Nat.le_of_ble_eq_true rfl, Nat.le_of_ble_eq_true rfl⟩ rfl ?_
    show G κ mX8_makeWords 0 0 64 [(0, .ref x0), (1, .int x1)] [] r2
    refine g_aload_n (pc' := 65) 0 O dX8_makeWords_64 rfl rfl rfl ?_
    refine g_ldc2 (v := 8388076856215170660) (pc' := 68) O dX8_makeWords_65 tw_1014 rfl ?_
    replace h := ob h; obtain ⟨u3, eu3, h⟩ := h
    replace h := ob h; obtain ⟨r4, er4, h⟩ := h
    refine g_callV (y := yX8_sayWord) (ν := mX8_sayWord) (n := 1) (As := [.long (8388076856215170660 : Int64)]) (b := x0) (st := []) (M2 := r4) (r1 := none) (pc' := 71) O dX8_makeWords_68 tw_969 tw_58 tw_968 tw_42 tw_966 hyX8_sayWord rfl rfl eu3 (okX8_sayWord er4) (Nat.le_of_ble_eq_true rfl) ⟨Nat.le_of_ble_eq_true rfl, Nat.le_of_ble_eq_true rfl⟩ ⟨Nat.le_of_ble_eq_true rfl, Nat.le_of_ble_eq_true rfl⟩ rfl ?_
    show G κ mX8_makeWords 0 0 71 [(0, .ref x0), (1, .int x1)] [] r4
    exact tX8_makeWords_71 O hf h
def fX8_makeWords_16  (x0 : Nat) (x1 : Int32) (M : Mem) : Option (Mem) :=
  if x1 ≤ (999999 : Int32) then (fX8_makeWords_39 x0 x1 M)
  else ((ck M 5 x0).bind fun u1 =>
  (fX8_sayBelow1000 x0 (x1 / (1000000 : Int32)) M).bind fun r2 =>
  (ck r2 5 x0).bind fun u3 =>
  (fX8_sayWord x0 (30796686857695086 : Int64) r2).bind fun r4 =>
  fX8_makeWords_39 x0 x1 r4)
set_option maxHeartbeats 4000000 in
set_option maxRecDepth 100000 in
theorem tX8_makeWords_16 {κ : KT} {p : Mem} (O : OkK κ mX8_makeWords) (hf : κ.2.2.2.2.2.2.2.2.2.2.2.2.2 = (none, p))  {x0 : Nat} {x1 : Int32} {M : Mem} (h : fX8_makeWords_16  x0 x1 M = some p) : G κ mX8_makeWords 0 0 16 [(0, .ref x0), (1, .int x1)] [] M := by
  unfold fX8_makeWords_16 at h
  refine g_iload_n (pc' := 17) 1 O dX8_makeWords_16 rfl rfl rfl ?_
  refine g_ldcw (v := 999999) (pc' := 20) O dX8_makeWords_17 tw_971 rfl ?_
  refine g_icmp_le (tgt := 39) (pc' := 23) O dX8_makeWords_20 (by decide) rfl (fun hc => ?_) (fun hc => ?_)
  · replace h := ip hc h
    exact tX8_makeWords_39 O hf h
  · replace h := ine hc h
    refine g_aload_n (pc' := 24) 0 O dX8_makeWords_23 rfl rfl rfl ?_
    refine g_iload_n (pc' := 25) 1 O dX8_makeWords_24 rfl rfl rfl ?_
    refine g_ldcw (v := 1000000) (pc' := 28) O dX8_makeWords_25 tw_972 rfl ?_
    refine g_idiv (pc' := 29) O dX8_makeWords_28 (by decide) rfl ?_
    replace h := ob h; obtain ⟨u1, eu1, h⟩ := h
    replace h := ob h; obtain ⟨r2, er2, h⟩ := h
    refine g_callV (y := yX8_sayBelow1000) (ν := mX8_sayBelow1000) (n := 1) (As := [.int (x1 / (1000000 : Int32))]) (b := x0) (st := []) (M2 := r2) (r1 := none) (pc' := 32) O dX8_makeWords_29 tw_976 tw_58 tw_975 tw_43 tw_973 hyX8_sayBelow1000 rfl rfl eu1 (okX8_sayBelow1000 er2) (Nat.le_of_ble_eq_true rfl) ⟨Nat.le_of_ble_eq_true rfl, Nat.le_of_ble_eq_true rfl⟩ ⟨Nat.le_of_ble_eq_true rfl, Nat.le_of_ble_eq_true rfl⟩ rfl ?_
    show G κ mX8_makeWords 0 0 32 [(0, .ref x0), (1, .int x1)] [] r2
    refine g_aload_n (pc' := 33) 0 O dX8_makeWords_32 rfl rfl rfl ?_
    refine g_ldc2 (v := 30796686857695086) (pc' := 36) O dX8_makeWords_33 tw_1013 rfl ?_
    replace h := ob h; obtain ⟨u3, eu3, h⟩ := h
    replace h := ob h; obtain ⟨r4, er4, h⟩ := h
    refine g_callV (y := yX8_sayWord) (ν := mX8_sayWord) (n := 1) (As := [.long (30796686857695086 : Int64)]) (b := x0) (st := []) (M2 := r4) (r1 := none) (pc' := 39) O dX8_makeWords_36 tw_969 tw_58 tw_968 tw_42 tw_966 hyX8_sayWord rfl rfl eu3 (okX8_sayWord er4) (Nat.le_of_ble_eq_true rfl) ⟨Nat.le_of_ble_eq_true rfl, Nat.le_of_ble_eq_true rfl⟩ ⟨Nat.le_of_ble_eq_true rfl, Nat.le_of_ble_eq_true rfl⟩ rfl ?_
    show G κ mX8_makeWords 0 0 39 [(0, .ref x0), (1, .int x1)] [] r4
    exact tX8_makeWords_39 O hf h
def fX8_makeWords  (this : Nat) (p0 : Int32) (M : Mem) : Option (Mem) :=
  (pF M 5 this 26 (.int (0 : Int32))).bind fun M1 =>
  if p0 = 0 then ((ck M1 5 this).bind fun u2 =>
  (fX8_sayWord this (2053468783 : Int64) M1).bind fun r3 =>
  fX8_makeWords_16 this p0 r3)
  else (fX8_makeWords_16 this p0 M1)
set_option maxHeartbeats 4000000 in
set_option maxRecDepth 100000 in
theorem okX8_makeWords {l : Launch} {p : Mem} {this : Nat} {p0 : Int32} {M : Mem} (h : fX8_makeWords this p0 M = some p) : Cn l yX8_makeWords mX8_makeWords [.ref this, .int p0] M none p := by
  refine Cn.of [(0, .ref this), (1, .int p0)] (by decide) rfl rfl (Nat.le_of_ble_eq_true rfl) rfl (fun κ _ hf O => ?_)
  unfold fX8_makeWords at h
  refine g_aload_n (pc' := 1) 0 O dX8_makeWords_0 rfl rfl rfl ?_
  refine g_iconst (v := 0) (pc' := 2) O dX8_makeWords_1 (by decide) rfl ?_
  replace h := ob h; obtain ⟨M1, eM1, h⟩ := h
  refine g_putF (C := RX8) (T := TX8) (N := 29) (ci := 5) (k := 26) (pc' := 5) O dX8_makeWords_2 rfl inX8 (by decide) tw_742 tyX8 tyX8_ok nmX8 rfl rfl rfl rfl eM1 rfl ?_
  refine g_iload_n (pc' := 6) 1 O dX8_makeWords_5 rfl rfl rfl ?_
  refine g_if_ne (tgt := 16) (pc' := 9) O dX8_makeWords_6 (by decide) rfl (fun hc => ?_) (fun hc => ?_)
  · replace h := ine hc h
    exact tX8_makeWords_16 O hf h
  · replace h := ip hc h
    refine g_aload_n (pc' := 10) 0 O dX8_makeWords_9 rfl rfl rfl ?_
    refine g_ldc2 (v := 2053468783) (pc' := 13) O dX8_makeWords_10 tw_965 rfl ?_
    replace h := ob h; obtain ⟨u2, eu2, h⟩ := h
    replace h := ob h; obtain ⟨r3, er3, h⟩ := h
    refine g_callV (y := yX8_sayWord) (ν := mX8_sayWord) (n := 1) (As := [.long (2053468783 : Int64)]) (b := this) (st := []) (M2 := r3) (r1 := none) (pc' := 16) O dX8_makeWords_13 tw_969 tw_58 tw_968 tw_42 tw_966 hyX8_sayWord rfl rfl eu2 (okX8_sayWord er3) (Nat.le_of_ble_eq_true rfl) ⟨Nat.le_of_ble_eq_true rfl, Nat.le_of_ble_eq_true rfl⟩ ⟨Nat.le_of_ble_eq_true rfl, Nat.le_of_ble_eq_true rfl⟩ rfl ?_
    show G κ mX8_makeWords 0 0 16 [(0, .ref this), (1, .int p0)] [] r3
    exact tX8_makeWords_16 O hf h
abbrev mX8_words : MD := (cX8_words, 2, RX8, (some .int), { frames := 5, cells := 0, slots := 0, locals := 109 }, "words")
theorem hyX8_words : yX8_words.cls ≠ "java/lang/invoke/MethodHandle" ∧ yX8_words.cls ≠ "java/lang/invoke/VarHandle" ∧ (parseMethodDescriptor yX8_words.desc).map (fun d => d.parameters.length) = some 1 := by decide +kernel
def fX8_words  (this : Nat) (p0 : Int32) (M : Mem) : Option (Int32 × Mem) :=
  (pF M 5 this 0 (.int (0 : Int32))).bind fun M1 =>
  (fX8_in p0 (0 : Int32) (999999999 : Int32) M1).bind fun r2 =>
  if r2.1 = 0 then (some ((-1 : Int32), r2.2))
  else ((ck r2.2 5 this).bind fun u3 =>
  (fX8_makeWords this p0 r2.2).bind fun r4 =>
  (ck r4 5 this).bind fun u5 =>
  (fX8_keep this r4).bind fun r6 =>
  some (r6.1, r6.2))
set_option maxHeartbeats 4000000 in
set_option maxRecDepth 100000 in
theorem okX8_words {l : Launch} {p : Int32 × Mem} {this : Nat} {p0 : Int32} {M : Mem} (h : fX8_words this p0 M = some p) : Cn l yX8_words mX8_words [.ref this, .int p0] M (some (.int p.1)) p.2 := by
  refine Cn.of [(0, .ref this), (1, .int p0)] (by decide) rfl rfl (Nat.le_of_ble_eq_true rfl) rfl (fun κ _ hf O => ?_)
  unfold fX8_words at h
  refine g_aload_n (pc' := 1) 0 O dX8_words_0 rfl rfl rfl ?_
  refine g_iconst (v := 0) (pc' := 2) O dX8_words_1 (by decide) rfl ?_
  replace h := ob h; obtain ⟨M1, eM1, h⟩ := h
  refine g_putF (C := RX8) (T := TX8) (N := 29) (ci := 5) (k := 0) (pc' := 5) O dX8_words_2 rfl inX8 (by decide) tw_716 tyX8 tyX8_ok nmX8 rfl rfl rfl rfl eM1 rfl ?_
  refine g_iload_n (pc' := 6) 1 O dX8_words_5 rfl rfl rfl ?_
  refine g_iconst (v := 0) (pc' := 7) O dX8_words_6 (by decide) rfl ?_
  refine g_ldcw (v := 999999999) (pc' := 10) O dX8_words_7 tw_960 rfl ?_
  replace h := ob h; obtain ⟨r2, er2, h⟩ := h
  refine g_callS (y := yX8_in) (ν := mX8_in) (n := 3) (As := [.int p0, .int (0 : Int32), .int (999999999 : Int32)]) (b := 0) (st := []) (M2 := r2.2) (r1 := (some (.int r2.1))) (pc' := 13) O dX8_words_10 tw_811 tw_58 tw_810 tw_809 hyX8_in rfl (okX8_in er2) (Nat.le_of_ble_eq_true rfl) ⟨Nat.le_of_ble_eq_true rfl, Nat.le_of_ble_eq_true rfl⟩ ⟨Nat.le_of_ble_eq_true rfl, Nat.le_of_ble_eq_true rfl⟩ rfl ?_
  show G κ mX8_words 0 0 13 [(0, .ref this), (1, .int p0)] [.int r2.1] r2.2
  refine g_if_ne (tgt := 18) (pc' := 16) O dX8_words_13 (by decide) rfl (fun hc => ?_) (fun hc => ?_)
  · replace h := ine hc h
    refine g_aload_n (pc' := 19) 0 O dX8_words_18 rfl rfl rfl ?_
    refine g_iload_n (pc' := 20) 1 O dX8_words_19 rfl rfl rfl ?_
    replace h := ob h; obtain ⟨u3, eu3, h⟩ := h
    replace h := ob h; obtain ⟨r4, er4, h⟩ := h
    refine g_callV (y := yX8_makeWords) (ν := mX8_makeWords) (n := 1) (As := [.int p0]) (b := this) (st := []) (M2 := r4) (r1 := none) (pc' := 23) O dX8_words_20 tw_964 tw_58 tw_963 tw_41 tw_961 hyX8_makeWords rfl rfl eu3 (okX8_makeWords er4) (Nat.le_of_ble_eq_true rfl) ⟨Nat.le_of_ble_eq_true rfl, Nat.le_of_ble_eq_true rfl⟩ ⟨Nat.le_of_ble_eq_true rfl, Nat.le_of_ble_eq_true rfl⟩ rfl ?_
    show G κ mX8_words 0 0 23 [(0, .ref this), (1, .int p0)] [] r4
    refine g_aload_n (pc' := 24) 0 O dX8_words_23 rfl rfl rfl ?_
    replace h := ob h; obtain ⟨u5, eu5, h⟩ := h
    replace h := ob h; obtain ⟨r6, er6, h⟩ := h
    refine g_callV (y := yX8_keep) (ν := mX8_keep) (n := 0) (As := []) (b := this) (st := []) (M2 := r6.2) (r1 := (some (.int r6.1))) (pc' := 27) O dX8_words_24 tw_955 tw_58 tw_954 tw_40 tw_952 hyX8_keep rfl rfl eu5 (okX8_keep er6) (Nat.le_of_ble_eq_true rfl) ⟨Nat.le_of_ble_eq_true rfl, Nat.le_of_ble_eq_true rfl⟩ ⟨Nat.le_of_ble_eq_true rfl, Nat.le_of_ble_eq_true rfl⟩ rfl ?_
    show G κ mX8_words 0 0 27 [(0, .ref this), (1, .int p0)] [.int r6.1] r6.2
    cases h
    exact g_ireturn O dX8_words_27 rfl rfl hf (by decide) (by decide)
  · replace h := ip hc h
    refine g_iconst (v := -1) (pc' := 17) O dX8_words_16 (by decide) rfl ?_
    cases h
    exact g_ireturn O dX8_words_17 rfl rfl hf (by decide) (by decide)
