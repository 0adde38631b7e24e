abbrev mX7_good : MD := (cX7_good, 5, RX7, (some .int), { frames := 6, cells := 0, slots := 0, locals := 141 }, "good")
theorem hyX7_good : yX7_good.cls ≠ "java/lang/invoke/MethodHandle" ∧ yX7_good.cls ≠ "java/lang/invoke/VarHandle" ∧ (parseMethodDescriptor yX7_good.desc).map (fun d => d.parameters.length) = some 2 := by decide +kernel
def fX7_good_60  (x4 : Int32) (M : Mem) : Option (Int32 × Mem) :=
  some (x4, M)
set_option maxHeartbeats 4000000 in
set_option maxRecDepth 100000 in
theorem tX7_good_60 {κ : KT} {p : Int32 × Mem} (O : OkK κ mX7_good) (hf : κ.2.2.2.2.2.2.2.2.2.2.2.2.2 = (some (.int p.1), p.2))  {x4 : Int32} {M : Mem} (h : fX7_good_60  x4 M = some p) : G κ mX7_good 0 0 60 [(4, .int x4)] [] M := by
  unfold fX7_good_60 at h
  refine g_iload (pc' := 62) 0 O dX7_good_60 rfl rfl ?_
  cases h
  exact g_ireturn O dX7_good_62 rfl rfl hf (by decide) (by decide)
def fX7_good_25  : Nat → Nat → Int32 → Nat → Int32 → Mem → Option (Int32 × Mem)
  | 0, _, _, _, _, _ => none
  | n + 1, x0, x2, x3, x4, M =>
    (gN M 4 x0 0).bind fun v1 =>
    (gN M 2 v1 0).bind fun v2 =>
    (ck M 3 v2).bind fun u3 =>
    (fX4_length v2 M).bind fun r4 =>
    if r4.1 ≤ x4 then (fX7_good_60 x4 r4.2)
    else ((ck r4.2 4 x0).bind fun u5 =>
    (fX7_readLine x0 (x4 + (1 : Int32)) x3 x2 r4.2).bind fun r6 =>
    if r6.1 = (2 : Int32) then (fX7_good_60 x4 r6.2)
    else (fX7_good_25 n x0 x2 x3 (x4 + (1 : Int32)) r6.2))
set_option maxHeartbeats 4000000 in
set_option maxRecDepth 100000 in
theorem tX7_good_25 {κ : KT} {p : Int32 × Mem} (O : OkK κ mX7_good) (hf : κ.2.2.2.2.2.2.2.2.2.2.2.2.2 = (some (.int p.1), p.2))  : ∀ (n : Nat) (x0 : Nat) (x2 : Int32) (x3 : Nat) (x4 : Int32) (M : Mem), fX7_good_25  n x0 x2 x3 x4 M = some p → G κ mX7_good 0 0 25 [(0, .ref x0), (2, .int x2), (3, .ref x3), (4, .int x4)] [] M := by
  intro n
  induction n with
  | zero => intro x0 x2 x3 x4 M h; cases h
  | succ n ih =>
    intro x0 x2 x3 x4 M h
    rw [fX7_good_25] at h
    refine g_iload (pc' := 27) 3 O dX7_good_25 rfl rfl ?_
    refine g_aload_n (pc' := 28) 0 O dX7_good_27 rfl rfl rfl ?_
    replace h := ob h; obtain ⟨v1, ev1, h⟩ := h
    refine g_getF (C := RX7) (T := TX7) (N := 4) (ci := 4) (k := 0) (pc' := 31) O dX7_good_28 rfl inX7 (by decide) tw_177 (gN_F ev1) rfl ?_
    replace h := ob h; obtain ⟨v2, ev2, h⟩ := h
    refine g_getF (C := RX3) (T := TX3) (N := 9) (ci := 2) (k := 0) (pc' := 34) O dX7_good_31 rfl inX3 (by decide) tw_106 (gN_F ev2) rfl ?_
    replace h := ob h; obtain ⟨u3, eu3, h⟩ := h
    replace h := ob h; obtain ⟨r4, er4, h⟩ := h
    refine g_callV (y := yX4_length) (ν := mX4_length) (n := 0) (As := []) (b := v2) (st := [.int x4]) (M2 := r4.2) (r1 := (some (.int r4.1))) (pc' := 37) O dX7_good_34 tw_260 tw_55 tw_258 tw_259 tw_257 hyX4_length rfl rfl eu3 (okX4_length er4) (Nat.le_of_ble_eq_true rfl) ⟨Nat.le_of_ble_eq_true rfl, Nat.le_of_ble_eq_true rfl⟩ ⟨Nat.le_of_ble_eq_true rfl, Nat.le_of_ble_eq_true rfl⟩ rfl ?_
    show G κ mX7_good 0 0 37 [(0, .ref x0), (2, .int x2), (3, .ref x3), (4, .int x4)] [.int r4.1, .int x4] r4.2
    refine g_icmp_ge (tgt := 60) (pc' := 40) O dX7_good_37 (by decide) rfl (fun hc => ?_) (fun hc => ?_)
    · replace h := ip hc h
      refine g_sub (lv' := [(4, .int x4)]) [3] rfl ?_
      exact tX7_good_60 O hf h
    · replace h := ine hc h
      refine g_aload_n (pc' := 41) 0 O dX7_good_40 rfl rfl rfl ?_
      refine g_iload (pc' := 43) 3 O dX7_good_41 rfl rfl ?_
      refine g_iconst (v := 1) (pc' := 44) O dX7_good_43 (by decide) rfl ?_
      refine g_iadd (pc' := 45) O dX7_good_44 rfl ?_
      refine g_aload_n (pc' := 46) 2 O dX7_good_45 rfl rfl rfl ?_
      refine g_iload_n (pc' := 47) 1 O dX7_good_46 rfl rfl rfl ?_
      replace h := ob h; obtain ⟨u5, eu5, h⟩ := h
      replace h := ob h; obtain ⟨r6, er6, h⟩ := h
      refine g_callV (y := yX7_readLine) (ν := mX7_readLine) (n := 3) (As := [.int (x4 + (1 : Int32)), .ref x3, .int x2]) (b := x0) (st := []) (M2 := r6.2) (r1 := (some (.int r6.1))) (pc' := 50) O dX7_good_47 tw_304 tw_53 tw_303 tw_0 tw_301 hyX7_readLine rfl rfl eu5 (okX7_readLine er6) (Nat.le_of_ble_eq_true rfl) ⟨Nat.le_of_ble_eq_true rfl, Nat.le_of_ble_eq_true rfl⟩ ⟨Nat.le_of_ble_eq_true rfl, Nat.le_of_ble_eq_true rfl⟩ rfl ?_
      show G κ mX7_good 0 0 50 [(0, .ref x0), (2, .int x2), (3, .ref x3), (4, .int x4)] [.int r6.1] r6.2
      refine g_iconst (v := 2) (pc' := 51) O dX7_good_50 (by decide) rfl ?_
      refine g_icmp_eq (tgt := 60) (pc' := 54) O dX7_good_51 (by decide) rfl (fun hc => ?_) (fun hc => ?_)
      · replace h := ip hc h
        refine g_sub (lv' := [(4, .int x4)]) [3] rfl ?_
        exact tX7_good_60 O hf h
      · replace h := ine hc h
        refine g_iinc (q := 3) (v := x4 + (1 : Int32)) (lv' := [(4, .int (x4 + (1 : Int32))), (0, .ref x0), (2, .int x2), (3, .ref x3)]) (pc' := 57) O dX7_good_54 rfl rfl (by decide) rfl rfl ?_
        refine g_goto (pc' := 25) O dX7_good_57 (by decide) ?_
        refine g_sub (lv' := [(0, .ref x0), (2, .int x2), (3, .ref x3), (4, .int (x4 + (1 : Int32)))]) [1, 2, 3, 0] rfl ?_
        exact ih x0 x2 x3 (x4 + (1 : Int32)) r6.2 h
def fX7_good_20  (M : Mem) : Option (Int32 × Mem) :=
  some ((-1 : Int32), M)
set_option maxHeartbeats 4000000 in
set_option maxRecDepth 100000 in
theorem tX7_good_20 {κ : KT} {p : Int32 × Mem} (O : OkK κ mX7_good) (hf : κ.2.2.2.2.2.2.2.2.2.2.2.2.2 = (some (.int p.1), p.2))  {M : Mem} (h : fX7_good_20  M = some p) : G κ mX7_good 0 0 20 [] [] M := by
  unfold fX7_good_20 at h
  refine g_iconst (v := -1) (pc' := 21) O dX7_good_20 (by decide) rfl ?_
  cases h
  exact g_ireturn O dX7_good_21 rfl rfl hf (by decide) (by decide)
def fX7_good  (this : Nat) (p0 : Int32) (p1 : Int32) (M : Mem) : Option (Int32 × Mem) :=
  (gN M 4 this 0).bind fun v1 =>
  (ck M 2 v1).bind fun u2 =>
  (fX3_landAt v1 p0 M).bind fun r3 =>
  Option.elim r3.1 (fX7_good_20 r3.2)
  (fun a4 => (fX7_isKind p1 r3.2).bind fun r5 =>
  if r5.1 = 0 then (fX7_good_20 r5.2)
  else (fX7_good_25 FU this p1 a4 (0 : Int32) r5.2))
set_option maxHeartbeats 4000000 in
set_option maxRecDepth 100000 in
theorem okX7_good {l : Launch} {p : Int32 × Mem} {this : Nat} {p0 : Int32} {p1 : Int32} {M : Mem} (h : fX7_good this p0 p1 M = some p) : Cn l yX7_good mX7_good [.ref this, .int p0, .int p1] M (some (.int p.1)) p.2 := by
  refine Cn.of [(0, .ref this), (1, .int p0), (2, .int p1)] (by decide) rfl rfl (Nat.le_of_ble_eq_true rfl) rfl (fun κ _ hf O => ?_)
  unfold fX7_good at h
  refine g_aload_n (pc' := 1) 0 O dX7_good_0 rfl rfl rfl ?_
  replace h := ob h; obtain ⟨v1, ev1, h⟩ := h
  refine g_getF (C := RX7) (T := TX7) (N := 4) (ci := 4) (k := 0) (pc' := 4) O dX7_good_1 rfl inX7 (by decide) tw_177 (gN_F ev1) rfl ?_
  refine g_iload_n (pc' := 5) 1 O dX7_good_4 rfl rfl rfl ?_
  replace h := ob h; obtain ⟨u2, eu2, h⟩ := h
  replace h := ob h; obtain ⟨r3, er3, h⟩ := h
  refine g_callV (y := yX3_landAt) (ν := mX3_landAt) (n := 1) (As := [.int p0]) (b := v1) (st := []) (M2 := r3.2) (r1 := (some (va_rf r3.1))) (pc' := 8) O dX7_good_5 tw_299 tw_54 tw_297 tw_298 tw_296 hyX3_landAt rfl rfl eu2 (okX3_landAt er3) (Nat.le_of_ble_eq_true rfl) ⟨Nat.le_of_ble_eq_true rfl, Nat.le_of_ble_eq_true rfl⟩ ⟨Nat.le_of_ble_eq_true rfl, Nat.le_of_ble_eq_true rfl⟩ rfl ?_
  show G κ mX7_good 0 0 8 [(0, .ref this), (1, .int p0), (2, .int p1)] [va_rf r3.1] r3.2
  refine g_astoreO_n (lv' := [(3, va_rf r3.1), (0, .ref this), (1, .int p0), (2, .int p1)]) (pc' := 9) O dX7_good_8 rfl (by decide) rfl rfl ?_
  refine g_aloadO_n (pc' := 10) 0 O dX7_good_9 rfl rfl rfl ?_
  refine g_ifnull (tgt := 20) (pc' := 13) O dX7_good_10 (by decide) rfl (fun ho => ?_) (fun a4 ho => ?_)
  · replace h := oe_none ho h
    try rw [ho]
    show G κ mX7_good 0 0 20 [(3, va_rf none), (0, .ref this), (1, .int p0), (2, .int p1)] [] r3.2
    refine g_sub (lv' := []) [] rfl ?_
    exact tX7_good_20 O hf h
  · replace h := oe_some ho h
    try rw [ho]
    show G κ mX7_good 0 0 13 [(3, .ref a4), (0, .ref this), (1, .int p0), (2, .int p1)] [] r3.2
    refine g_iload_n (pc' := 14) 3 O dX7_good_13 rfl rfl rfl ?_
    replace h := ob h; obtain ⟨r5, er5, h⟩ := h
    refine g_callS (y := yX7_isKind) (ν := mX7_isKind) (n := 1) (As := [.int p1]) (b := 0) (st := []) (M2 := r5.2) (r1 := (some (.int r5.1))) (pc' := 17) O dX7_good_14 tw_286 tw_53 tw_285 tw_284 hyX7_isKind rfl (okX7_isKind er5) (Nat.le_of_ble_eq_true rfl) ⟨Nat.le_of_ble_eq_true rfl, Nat.le_of_ble_eq_true rfl⟩ ⟨Nat.le_of_ble_eq_true rfl, Nat.le_of_ble_eq_true rfl⟩ rfl ?_
    show G κ mX7_good 0 0 17 [(3, .ref a4), (0, .ref this), (1, .int p0), (2, .int p1)] [.int r5.1] r5.2
    refine g_if_ne (tgt := 22) (pc' := 20) O dX7_good_17 (by decide) rfl (fun hc => ?_) (fun hc => ?_)
    · replace h := ine hc h
      refine g_iconst (v := 0) (pc' := 23) O dX7_good_22 (by decide) rfl ?_
      refine g_istore (lv' := [(4, .int (0 : Int32)), (3, .ref a4), (0, .ref this), (1, .int p0), (2, .int p1)]) (pc' := 25) O dX7_good_23 (by decide) rfl rfl ?_
      refine g_sub (lv' := [(0, .ref this), (2, .int p1), (3, .ref a4), (4, .int (0 : Int32))]) [2, 4, 1, 0] rfl ?_
      exact tX7_good_25 O hf FU this p1 a4 (0 : Int32) r5.2 h
    · replace h := ip hc h
      refine g_sub (lv' := []) [] rfl ?_
      exact tX7_good_20 O hf h
abbrev mX7_state : MD := (cX7_state, 13, RX7, (some .int), { frames := 6, cells := 0, slots := 0, locals := 141 }, "state")
theorem hyX7_state : yX7_state.cls ≠ "java/lang/invoke/MethodHandle" ∧ yX7_state.cls ≠ "java/lang/invoke/VarHandle" ∧ (parseMethodDescriptor yX7_state.desc).map (fun d => d.parameters.length) = some 2 := by decide +kernel
def fX7_state_186  (s0 : Int32) (M : Mem) : Option (Int32 × Mem) :=
  some (s0, M)
set_option maxHeartbeats 4000000 in
set_option maxRecDepth 100000 in
theorem tX7_state_186 {κ : KT} {p : Int32 × Mem} (O : OkK κ mX7_state) (hf : κ.2.2.2.2.2.2.2.2.2.2.2.2.2 = (some (.int p.1), p.2))  {s0 : Int32} {M : Mem} (h : fX7_state_186  s0 M = some p) : G κ mX7_state 0 0 186 [] [.int s0] M := by
  unfold fX7_state_186 at h
  cases h
  exact g_ireturn O dX7_state_186 rfl rfl hf (by decide) (by decide)
def fX7_state_175  (s0 : Int32) (M : Mem) : Option (Int32 × Mem) :=
  some (s0, M)
set_option maxHeartbeats 4000000 in
set_option maxRecDepth 100000 in
theorem tX7_state_175 {κ : KT} {p : Int32 × Mem} (O : OkK κ mX7_state) (hf : κ.2.2.2.2.2.2.2.2.2.2.2.2.2 = (some (.int p.1), p.2))  {s0 : Int32} {M : Mem} (h : fX7_state_175  s0 M = some p) : G κ mX7_state 0 0 175 [] [.int s0] M := by
  unfold fX7_state_175 at h
  cases h
  exact g_ireturn O dX7_state_175 rfl rfl hf (by decide) (by decide)
def fX7_state_155 (k23 : Nat → Int32 → Int32 → Int32 → Int32 → Int32 → Int64 → Int32 → Mem → Option (Int32 × Mem)) (x0 : Nat) (x1 : Int32) (x2 : Int32) (x3 : Int32) (x4 : Int32) (x5 : Int32) (x6 : Int64) (x8 : Int32) (M : Mem) : Option (Int32 × Mem) :=
  k23 x0 x1 x2 x3 x4 x5 x6 (x8 + (1 : Int32)) M
set_option maxHeartbeats 4000000 in
set_option maxRecDepth 100000 in
theorem tX7_state_155 {κ : KT} {p : Int32 × Mem} (O : OkK κ mX7_state) (hf : κ.2.2.2.2.2.2.2.2.2.2.2.2.2 = (some (.int p.1), p.2)) {k23 : Nat → Int32 → Int32 → Int32 → Int32 → Int32 → Int64 → Int32 → Mem → Option (Int32 × Mem)} (hk23 : ∀ (x0 : Nat) (x1 : Int32) (x2 : Int32) (x3 : Int32) (x4 : Int32) (x5 : Int32) (x6 : Int64) (x8 : Int32) (M : Mem), k23 x0 x1 x2 x3 x4 x5 x6 x8 M = some p → G κ mX7_state 0 0 23 [(0, .ref x0), (1, .int x1), (2, .int x2), (3, .int x3), (4, .int x4), (5, .int x5), (6, .long x6), (8, .int x8)] [] M) {x0 : Nat} {x1 : Int32} {x2 : Int32} {x3 : Int32} {x4 : Int32} {x5 : Int32} {x6 : Int64} {x8 : Int32} {M : Mem} (h : fX7_state_155 k23 x0 x1 x2 x3 x4 x5 x6 x8 M = some p) : G κ mX7_state 0 0 155 [(0, .ref x0), (1, .int x1), (2, .int x2), (3, .int x3), (4, .int x4), (5, .int x5), (6, .long x6), (8, .int x8)] [] M := by
  unfold fX7_state_155 at h
  refine g_iinc (q := 7) (v := x8 + (1 : Int32)) (lv' := [(8, .int (x8 + (1 : Int32))), (0, .ref x0), (1, .int x1), (2, .int x2), (3, .int x3), (4, .int x4), (5, .int x5), (6, .long x6)]) (pc' := 158) O dX7_state_155 rfl rfl (by decide) rfl rfl ?_
  refine g_goto (pc' := 23) O dX7_state_158 (by decide) ?_
  refine g_sub (lv' := [(0, .ref x0), (1, .int x1), (2, .int x2), (3, .int x3), (4, .int x4), (5, .int x5), (6, .long x6), (8, .int (x8 + (1 : Int32)))]) [1, 2, 3, 4, 5, 6, 7, 0] rfl ?_
  exact hk23 x0 x1 x2 x3 x4 x5 x6 (x8 + (1 : Int32)) M h
def fX7_state_144 (k23 : Nat → Int32 → Int32 → Int32 → Int32 → Int32 → Int64 → Int32 → Mem → Option (Int32 × Mem)) (x0 : Nat) (x1 : Int32) (x2 : Int32) (x3 : Int32) (x5 : Int32) (x6 : Int64) (x8 : Int32) (s0 : Int32) (M : Mem) : Option (Int32 × Mem) :=
  fX7_state_155 k23 x0 x1 x2 x3 s0 x5 x6 x8 M
set_option maxHeartbeats 4000000 in
set_option maxRecDepth 100000 in
theorem tX7_state_144 {κ : KT} {p : Int32 × Mem} (O : OkK κ mX7_state) (hf : κ.2.2.2.2.2.2.2.2.2.2.2.2.2 = (some (.int p.1), p.2)) {k23 : Nat → Int32 → Int32 → Int32 → Int32 → Int32 → Int64 → Int32 → Mem → Option (Int32 × Mem)} (hk23 : ∀ (x0 : Nat) (x1 : Int32) (x2 : Int32) (x3 : Int32) (x4 : Int32) (x5 : Int32) (x6 : Int64) (x8 : Int32) (M : Mem), k23 x0 x1 x2 x3 x4 x5 x6 x8 M = some p → G κ mX7_state 0 0 23 [(0, .ref x0), (1, .int x1), (2, .int x2), (3, .int x3), (4, .int x4), (5, .int x5), (6, .long x6), (8, .int x8)] [] M) {x0 : Nat} {x1 : Int32} {x2 : Int32} {x3 : Int32} {x5 : Int32} {x6 : Int64} {x8 : Int32} {s0 : Int32} {M : Mem} (h : fX7_state_144 k23 x0 x1 x2 x3 x5 x6 x8 s0 M = some p) : G κ mX7_state 0 0 144 [(0, .ref x0), (1, .int x1), (2, .int x2), (3, .int x3), (5, .int x5), (6, .long x6), (8, .int x8)] [.int s0] M := by
  unfold fX7_state_144 at h
  refine g_istore (lv' := [(4, .int s0), (0, .ref x0), (1, .int x1), (2, .int x2), (3, .int x3), (5, .int x5), (6, .long x6), (8, .int x8)]) (pc' := 146) O dX7_state_144 (by decide) rfl rfl ?_
  refine g_goto (pc' := 155) O dX7_state_146 (by decide) ?_
  refine g_sub (lv' := [(0, .ref x0), (1, .int x1), (2, .int x2), (3, .int x3), (4, .int s0), (5, .int x5), (6, .long x6), (8, .int x8)]) [1, 2, 3, 4, 0, 5, 6, 7] rfl ?_
  exact tX7_state_155 O hf hk23 h
def fX7_state_143 (k23 : Nat → Int32 → Int32 → Int32 → Int32 → Int32 → Int64 → Int32 → Mem → Option (Int32 × Mem)) (x0 : Nat) (x1 : Int32) (x2 : Int32) (x3 : Int32) (x5 : Int32) (x6 : Int64) (x8 : Int32) (M : Mem) : Option (Int32 × Mem) :=
  fX7_state_144 k23 x0 x1 x2 x3 x5 x6 x8 (0 : Int32) M
set_option maxHeartbeats 4000000 in
set_option maxRecDepth 100000 in
theorem tX7_state_143 {κ : KT} {p : Int32 × Mem} (O : OkK κ mX7_state) (hf : κ.2.2.2.2.2.2.2.2.2.2.2.2.2 = (some (.int p.1), p.2)) {k23 : Nat → Int32 → Int32 → Int32 → Int32 → Int32 → Int64 → Int32 → Mem → Option (Int32 × Mem)} (hk23 : ∀ (x0 : Nat) (x1 : Int32) (x2 : Int32) (x3 : Int32) (x4 : Int32) (x5 : Int32) (x6 : Int64) (x8 : Int32) (M : Mem), k23 x0 x1 x2 x3 x4 x5 x6 x8 M = some p → G κ mX7_state 0 0 23 [(0, .ref x0), (1, .int x1), (2, .int x2), (3, .int x3), (4, .int x4), (5, .int x5), (6, .long x6), (8, .int x8)] [] M) {x0 : Nat} {x1 : Int32} {x2 : Int32} {x3 : Int32} {x5 : Int32} {x6 : Int64} {x8 : Int32} {M : Mem} (h : fX7_state_143 k23 x0 x1 x2 x3 x5 x6 x8 M = some p) : G κ mX7_state 0 0 143 [(0, .ref x0), (1, .int x1), (2, .int x2), (3, .int x3), (5, .int x5), (6, .long x6), (8, .int x8)] [] M := by
  unfold fX7_state_143 at h
  refine g_iconst (v := 0) (pc' := 144) O dX7_state_143 (by decide) rfl ?_
  exact tX7_state_144 O hf hk23 h
def fX7_state_117 (k23 : Nat → Int32 → Int32 → Int32 → Int32 → Int32 → Int64 → Int32 → Mem → Option (Int32 × Mem)) (x0 : Nat) (x1 : Int32) (x2 : Int32) (x3 : Int32) (x4 : Int32) (x6 : Int64) (x8 : Int32) (s0 : Int32) (M : Mem) : Option (Int32 × Mem) :=
  fX7_state_155 k23 x0 x1 x2 x3 x4 s0 x6 x8 M
set_option maxHeartbeats 4000000 in
set_option maxRecDepth 100000 in
theorem tX7_state_117 {κ : KT} {p : Int32 × Mem} (O : OkK κ mX7_state) (hf : κ.2.2.2.2.2.2.2.2.2.2.2.2.2 = (some (.int p.1), p.2)) {k23 : Nat → Int32 → Int32 → Int32 → Int32 → Int32 → Int64 → Int32 → Mem → Option (Int32 × Mem)} (hk23 : ∀ (x0 : Nat) (x1 : Int32) (x2 : Int32) (x3 : Int32) (x4 : Int32) (x5 : Int32) (x6 : Int64) (x8 : Int32) (M : Mem), k23 x0 x1 x2 x3 x4 x5 x6 x8 M = some p → G κ mX7_state 0 0 23 [(0, .ref x0), (1, .int x1), (2, .int x2), (3, .int x3), (4, .int x4), (5, .int x5), (6, .long x6), (8, .int x8)] [] M) {x0 : Nat} {x1 : Int32} {x2 : Int32} {x3 : Int32} {x4 : Int32} {x6 : Int64} {x8 : Int32} {s0 : Int32} {M : Mem} (h : fX7_state_117 k23 x0 x1 x2 x3 x4 x6 x8 s0 M = some p) : G κ mX7_state 0 0 117 [(0, .ref x0), (1, .int x1), (2, .int x2), (3, .int x3), (4, .int x4), (6, .long x6), (8, .int x8)] [.int s0] M := by
  unfold fX7_state_117 at h
  refine g_istore (lv' := [(5, .int s0), (0, .ref x0), (1, .int x1), (2, .int x2), (3, .int x3), (4, .int x4), (6, .long x6), (8, .int x8)]) (pc' := 119) O dX7_state_117 (by decide) rfl rfl ?_
  refine g_goto (pc' := 155) O dX7_state_119 (by decide) ?_
  refine g_sub (lv' := [(0, .ref x0), (1, .int x1), (2, .int x2), (3, .int x3), (4, .int x4), (5, .int s0), (6, .long x6), (8, .int x8)]) [1, 2, 3, 4, 5, 0, 6, 7] rfl ?_
  exact tX7_state_155 O hf hk23 h
def fX7_state_112 (k23 : Nat → Int32 → Int32 → Int32 → Int32 → Int32 → Int64 → Int32 → Mem → Option (Int32 × Mem)) (x0 : Nat) (x1 : Int32) (x2 : Int32) (x3 : Int32) (x4 : Int32) (x6 : Int64) (x8 : Int32) (M : Mem) : Option (Int32 × Mem) :=
  fX7_state_117 k23 x0 x1 x2 x3 x4 x6 x8 (1 : Int32) M
set_option maxHeartbeats 4000000 in
set_option maxRecDepth 100000 in
theorem tX7_state_112 {κ : KT} {p : Int32 × Mem} (O : OkK κ mX7_state) (hf : κ.2.2.2.2.2.2.2.2.2.2.2.2.2 = (some (.int p.1), p.2)) {k23 : Nat → Int32 → Int32 → Int32 → Int32 → Int32 → Int64 → Int32 → Mem → Option (Int32 × Mem)} (hk23 : ∀ (x0 : Nat) (x1 : Int32) (x2 : Int32) (x3 : Int32) (x4 : Int32) (x5 : Int32) (x6 : Int64) (x8 : Int32) (M : Mem), k23 x0 x1 x2 x3 x4 x5 x6 x8 M = some p → G κ mX7_state 0 0 23 [(0, .ref x0), (1, .int x1), (2, .int x2), (3, .int x3), (4, .int x4), (5, .int x5), (6, .long x6), (8, .int x8)] [] M) {x0 : Nat} {x1 : Int32} {x2 : Int32} {x3 : Int32} {x4 : Int32} {x6 : Int64} {x8 : Int32} {M : Mem} (h : fX7_state_112 k23 x0 x1 x2 x3 x4 x6 x8 M = some p) : G κ mX7_state 0 0 112 [(0, .ref x0), (1, .int x1), (2, .int x2), (3, .int x3), (4, .int x4), (6, .long x6), (8, .int x8)] [] M := by
  unfold fX7_state_112 at h
  refine g_iconst (v := 1) (pc' := 113) O dX7_state_112 (by decide) rfl ?_
  refine g_goto (pc' := 117) O dX7_state_113 (by decide) ?_
  exact tX7_state_117 O hf hk23 h
def fX7_state_81 (k23 : Nat → Int32 → Int32 → Int32 → Int32 → Int32 → Int64 → Int32 → Mem → Option (Int32 × Mem)) (x0 : Nat) (x1 : Int32) (x2 : Int32) (x3 : Int32) (x4 : Int32) (x5 : Int32) (x6 : Int64) (x8 : Int32) (s0 : Int32) (M : Mem) : Option (Int32 × Mem) :=
  (ck M 4 x0).bind fun u1 =>
  (fX7_countedValue x0 s0 x2 M).bind fun r2 =>
  if (lg_cmp r2.1 (-9223372036854775808 : Int64)) = 0 then (if x5 = 0 then (if s0 = (2 : Int32) then (fX7_state_117 k23 x0 x1 x2 x3 x4 x6 x8 (0 : Int32) r2.2)
  else (fX7_state_112 k23 x0 x1 x2 x3 x4 x6 x8 r2.2))
  else (fX7_state_112 k23 x0 x1 x2 x3 x4 x6 x8 r2.2))
  else (if x3 = 0 then (fX7_state_155 k23 x0 x1 x2 (1 : Int32) x4 x5 r2.1 x8 r2.2)
  else (if x4 = 0 then (fX7_state_143 k23 x0 x1 x2 x3 x5 x6 x8 r2.2)
  else (if (lg_cmp r2.1 x6) = 0 then (fX7_state_144 k23 x0 x1 x2 x3 x5 x6 x8 (1 : Int32) r2.2)
  else (fX7_state_143 k23 x0 x1 x2 x3 x5 x6 x8 r2.2))))
set_option maxHeartbeats 4000000 in
set_option maxRecDepth 100000 in
theorem tX7_state_81 {κ : KT} {p : Int32 × Mem} (O : OkK κ mX7_state) (hf : κ.2.2.2.2.2.2.2.2.2.2.2.2.2 = (some (.int p.1), p.2)) {k23 : Nat → Int32 → Int32 → Int32 → Int32 → Int32 → Int64 → Int32 → Mem → Option (Int32 × Mem)} (hk23 : ∀ (x0 : Nat) (x1 : Int32) (x2 : Int32) (x3 : Int32) (x4 : Int32) (x5 : Int32) (x6 : Int64) (x8 : Int32) (M : Mem), k23 x0 x1 x2 x3 x4 x5 x6 x8 M = some p → G κ mX7_state 0 0 23 [(0, .ref x0), (1, .int x1), (2, .int x2), (3, .int x3), (4, .int x4), (5, .int x5), (6, .long x6), (8, .int x8)] [] M) {x0 : Nat} {x1 : Int32} {x2 : Int32} {x3 : Int32} {x4 : Int32} {x5 : Int32} {x6 : Int64} {x8 : Int32} {s0 : Int32} {M : Mem} (h : fX7_state_81 k23 x0 x1 x2 x3 x4 x5 x6 x8 s0 M = some p) : G κ mX7_state 0 0 81 [(0, .ref x0), (1, .int x1), (2, .int x2), (3, .int x3), (4, .int x4), (5, .int x5), (6, .long x6), (8, .int x8)] [.int s0] M := by
  unfold fX7_state_81 at h
  refine g_istore (lv' := [(10, .int s0), (0, .ref x0), (1, .int x1), (2, .int x2), (3, .int x3), (4, .int x4), (5, .int x5), (6, .long x6), (8, .int x8)]) (pc' := 83) O dX7_state_81 (by decide) rfl rfl ?_
  refine g_aload_n (pc' := 84) 1 O dX7_state_83 rfl rfl rfl ?_
  refine g_iload (pc' := 86) 0 O dX7_state_84 rfl rfl ?_
  refine g_iload_n (pc' := 87) 3 O dX7_state_86 rfl rfl rfl ?_
  replace h := ob h; obtain ⟨u1, eu1, h⟩ := h
  replace h := ob h; obtain ⟨r2, er2, h⟩ := h
  refine g_callV (y := yX7_countedValue) (ν := mX7_countedValue) (n := 2) (As := [.int s0, .int x2]) (b := x0) (st := []) (M2 := r2.2) (r1 := (some (.long r2.1))) (pc' := 90) O dX7_state_87 tw_424 tw_53 tw_423 tw_17 tw_421 hyX7_countedValue rfl rfl eu1 (okX7_countedValue er2) (Nat.le_of_ble_eq_true rfl) ⟨Nat.le_of_ble_eq_true rfl, Nat.le_of_ble_eq_true rfl⟩ ⟨Nat.le_of_ble_eq_true rfl, Nat.le_of_ble_eq_true rfl⟩ rfl ?_
  show G κ mX7_state 0 0 90 [(10, .int s0), (0, .ref x0), (1, .int x1), (2, .int x2), (3, .int x3), (4, .int x4), (5, .int x5), (6, .long x6), (8, .int x8)] [.long r2.1] r2.2
  refine g_lstore (lv' := [(11, .long r2.1), (10, .int s0), (0, .ref x0), (1, .int x1), (2, .int x2), (3, .int x3), (4, .int x4), (5, .int x5), (6, .long x6), (8, .int x8)]) (pc' := 92) O dX7_state_90 (by decide) rfl rfl ?_
  refine g_lload (pc' := 94) 0 O dX7_state_92 rfl rfl ?_
  refine g_ldc2 (v := -9223372036854775808) (pc' := 97) O dX7_state_94 tw_300 rfl ?_
  refine g_lcmp (pc' := 98) O dX7_state_97 rfl ?_
  refine g_if_ne (tgt := 122) (pc' := 101) O dX7_state_98 (by decide) rfl (fun hc => ?_) (fun hc => ?_)
  · replace h := ine hc h
    refine g_iload_n (pc' := 123) 5 O dX7_state_122 rfl rfl rfl ?_
    refine g_if_eq (tgt := 149) (pc' := 126) O dX7_state_123 (by decide) rfl (fun hc => ?_) (fun hc => ?_)
    · replace h := ip hc h
      refine g_iconst (v := 1) (pc' := 150) O dX7_state_149 (by decide) rfl ?_
      refine g_istore_n (lv' := [(3, .int (1 : Int32)), (11, .long r2.1), (10, .int s0), (0, .ref x0), (1, .int x1), (2, .int x2), (4, .int x4), (5, .int x5), (6, .long x6), (8, .int x8)]) (pc' := 151) O dX7_state_150 rfl (by decide) rfl rfl ?_
      refine g_lload (pc' := 153) 1 O dX7_state_151 rfl rfl ?_
      refine g_lstore (lv' := [(6, .long r2.1), (3, .int (1 : Int32)), (11, .long r2.1), (10, .int s0), (0, .ref x0), (1, .int x1), (2, .int x2), (4, .int x4), (5, .int x5), (8, .int x8)]) (pc' := 155) O dX7_state_153 (by decide) rfl rfl ?_
      refine g_sub (lv' := [(0, .ref x0), (1, .int x1), (2, .int x2), (3, .int (1 : Int32)), (4, .int x4), (5, .int x5), (6, .long r2.1), (8, .int x8)]) [4, 5, 6, 1, 7, 8, 0, 9] rfl ?_
      exact tX7_state_155 O hf hk23 h
    · replace h := ine hc h
      refine g_iload (pc' := 128) 6 O dX7_state_126 rfl rfl ?_
      refine g_if_eq (tgt := 143) (pc' := 131) O dX7_state_128 (by decide) rfl (fun hc => ?_) (fun hc => ?_)
      · replace h := ip hc h
        refine g_sub (lv' := [(0, .ref x0), (1, .int x1), (2, .int x2), (3, .int x3), (5, .int x5), (6, .long x6), (8, .int x8)]) [2, 3, 4, 5, 7, 8, 9] rfl ?_
        exact tX7_state_143 O hf hk23 h
      · replace h := ine hc h
        refine g_lload (pc' := 133) 0 O dX7_state_131 rfl rfl ?_
        refine g_lload (pc' := 135) 8 O dX7_state_133 rfl rfl ?_
        refine g_lcmp (pc' := 136) O dX7_state_135 rfl ?_
        refine g_if_ne (tgt := 143) (pc' := 139) O dX7_state_136 (by decide) rfl (fun hc => ?_) (fun hc => ?_)
        · replace h := ine hc h
          refine g_sub (lv' := [(0, .ref x0), (1, .int x1), (2, .int x2), (3, .int x3), (5, .int x5), (6, .long x6), (8, .int x8)]) [2, 3, 4, 5, 7, 8, 9] rfl ?_
          exact tX7_state_143 O hf hk23 h
        · replace h := ip hc h
          refine g_iconst (v := 1) (pc' := 140) O dX7_state_139 (by decide) rfl ?_
          refine g_goto (pc' := 144) O dX7_state_140 (by decide) ?_
          refine g_sub (lv' := [(0, .ref x0), (1, .int x1), (2, .int x2), (3, .int x3), (5, .int x5), (6, .long x6), (8, .int x8)]) [2, 3, 4, 5, 7, 8, 9] rfl ?_
          exact tX7_state_144 O hf hk23 h
  · replace h := ip hc h
    refine g_iload (pc' := 103) 7 O dX7_state_101 rfl rfl ?_
    refine g_if_ne (tgt := 112) (pc' := 106) O dX7_state_103 (by decide) rfl (fun hc => ?_) (fun hc => ?_)
    · replace h := ine hc h
      refine g_sub (lv' := [(0, .ref x0), (1, .int x1), (2, .int x2), (3, .int x3), (4, .int x4), (6, .long x6), (8, .int x8)]) [2, 3, 4, 5, 6, 8, 9] rfl ?_
      exact tX7_state_112 O hf hk23 h
    · replace h := ip hc h
      refine g_iload (pc' := 108) 1 O dX7_state_106 rfl rfl ?_
      refine g_iconst (v := 2) (pc' := 109) O dX7_state_108 (by decide) rfl ?_
      refine g_icmp_eq (tgt := 116) (pc' := 112) O dX7_state_109 (by decide) rfl (fun hc => ?_) (fun hc => ?_)
      · replace h := ip hc h
        refine g_iconst (v := 0) (pc' := 117) O dX7_state_116 (by decide) rfl ?_
        refine g_sub (lv' := [(0, .ref x0), (1, .int x1), (2, .int x2), (3, .int x3), (4, .int x4), (6, .long x6), (8, .int x8)]) [2, 3, 4, 5, 6, 8, 9] rfl ?_
        exact tX7_state_117 O hf hk23 h
      · replace h := ine hc h
        refine g_sub (lv' := [(0, .ref x0), (1, .int x1), (2, .int x2), (3, .int x3), (4, .int x4), (6, .long x6), (8, .int x8)]) [2, 3, 4, 5, 6, 8, 9] rfl ?_
        exact tX7_state_112 O hf hk23 h
def fX7_state_53 (k23 : Nat → Int32 → Int32 → Int32 → Int32 → Int32 → Int64 → Int32 → Mem → Option (Int32 × Mem)) (x0 : Nat) (x1 : Int32) (x2 : Int32) (x3 : Int32) (x4 : Int32) (x5 : Int32) (x6 : Int64) (x8 : Int32) (s0 : Option Nat) (M : Mem) : Option (Int32 × Mem) :=
  Option.elim s0 (fX7_state_81 k23 x0 x1 x2 x3 x4 x5 x6 x8 (2 : Int32) M)
  (fun a1 => (gN M 4 x0 0).bind fun v2 =>
  (gN M 2 v2 0).bind fun v3 =>
  (ck M 3 v3).bind fun u4 =>
  (fX4_length v3 M).bind fun r5 =>
  (ck r5.2 4 x0).bind fun u6 =>
  (fX7_readLine x0 r5.1 a1 x2 r5.2).bind fun r7 =>
  fX7_state_81 k23 x0 x1 x2 x3 x4 x5 x6 x8 r7.1 r7.2)
set_option maxHeartbeats 4000000 in
set_option maxRecDepth 100000 in
theorem tX7_state_53 {κ : KT} {p : Int32 × Mem} (O : OkK κ mX7_state) (hf : κ.2.2.2.2.2.2.2.2.2.2.2.2.2 = (some (.int p.1), p.2)) {k23 : Nat → Int32 → Int32 → Int32 → Int32 → Int32 → Int64 → Int32 → Mem → Option (Int32 × Mem)} (hk23 : ∀ (x0 : Nat) (x1 : Int32) (x2 : Int32) (x3 : Int32) (x4 : Int32) (x5 : Int32) (x6 : Int64) (x8 : Int32) (M : Mem), k23 x0 x1 x2 x3 x4 x5 x6 x8 M = some p → G κ mX7_state 0 0 23 [(0, .ref x0), (1, .int x1), (2, .int x2), (3, .int x3), (4, .int x4), (5, .int x5), (6, .long x6), (8, .int x8)] [] M) {x0 : Nat} {x1 : Int32} {x2 : Int32} {x3 : Int32} {x4 : Int32} {x5 : Int32} {x6 : Int64} {x8 : Int32} {s0 : Option Nat} {M : Mem} (h : fX7_state_53 k23 x0 x1 x2 x3 x4 x5 x6 x8 s0 M = some p) : G κ mX7_state 0 0 53 [(0, .ref x0), (1, .int x1), (2, .int x2), (3, .int x3), (4, .int x4), (5, .int x5), (6, .long x6), (8, .int x8)] [va_rf s0] M := by
  unfold fX7_state_53 at h
  refine g_astoreO (lv' := [(9, va_rf s0), (0, .ref x0), (1, .int x1), (2, .int x2), (3, .int x3), (4, .int x4), (5, .int x5), (6, .long x6), (8, .int x8)]) (pc' := 55) O dX7_state_53 (by decide) rfl rfl ?_
  refine g_aloadO (pc' := 57) 0 O dX7_state_55 rfl rfl ?_
  refine g_ifnonnull (tgt := 64) (pc' := 60) O dX7_state_57 (by decide) rfl (fun a1 ho => ?_) (fun ho => ?_)
  · replace h := oe_some ho h
    try rw [ho]
    show G κ mX7_state 0 0 64 [(9, .ref a1), (0, .ref x0), (1, .int x1), (2, .int x2), (3, .int x3), (4, .int x4), (5, .int x5), (6, .long x6), (8, .int x8)] [] M
    refine g_aload_n (pc' := 65) 1 O dX7_state_64 rfl rfl rfl ?_
    refine g_aload_n (pc' := 66) 1 O dX7_state_65 rfl rfl rfl ?_
    replace h := ob h; obtain ⟨v2, ev2, h⟩ := h
    refine g_getF (C := RX7) (T := TX7) (N := 4) (ci := 4) (k := 0) (pc' := 69) O dX7_state_66 rfl inX7 (by decide) tw_177 (gN_F ev2) rfl ?_
    replace h := ob h; obtain ⟨v3, ev3, h⟩ := h
    refine g_getF (C := RX3) (T := TX3) (N := 9) (ci := 2) (k := 0) (pc' := 72) O dX7_state_69 rfl inX3 (by decide) tw_106 (gN_F ev3) rfl ?_
    replace h := ob h; obtain ⟨u4, eu4, h⟩ := h
    replace h := ob h; obtain ⟨r5, er5, h⟩ := h
    refine g_callV (y := yX4_length) (ν := mX4_length) (n := 0) (As := []) (b := v3) (st := [.ref x0]) (M2 := r5.2) (r1 := (some (.int r5.1))) (pc' := 75) O dX7_state_72 tw_260 tw_55 tw_258 tw_259 tw_257 hyX4_length rfl rfl eu4 (okX4_length er5) (Nat.le_of_ble_eq_true rfl) ⟨Nat.le_of_ble_eq_true rfl, Nat.le_of_ble_eq_true rfl⟩ ⟨Nat.le_of_ble_eq_true rfl, Nat.le_of_ble_eq_true rfl⟩ rfl ?_
    show G κ mX7_state 0 0 75 [(9, .ref a1), (0, .ref x0), (1, .int x1), (2, .int x2), (3, .int x3), (4, .int x4), (5, .int x5), (6, .long x6), (8, .int x8)] [.int r5.1, .ref x0] r5.2
    refine g_aload (pc' := 77) 0 O dX7_state_75 rfl rfl ?_
    refine g_iload_n (pc' := 78) 3 O dX7_state_77 rfl rfl rfl ?_
    replace h := ob h; obtain ⟨u6, eu6, h⟩ := h
    replace h := ob h; obtain ⟨r7, er7, h⟩ := h
    refine g_callV (y := yX7_readLine) (ν := mX7_readLine) (n := 3) (As := [.int r5.1, .ref a1, .int x2]) (b := x0) (st := []) (M2 := r7.2) (r1 := (some (.int r7.1))) (pc' := 81) O dX7_state_78 tw_304 tw_53 tw_303 tw_0 tw_301 hyX7_readLine rfl rfl eu6 (okX7_readLine er7) (Nat.le_of_ble_eq_true rfl) ⟨Nat.le_of_ble_eq_true rfl, Nat.le_of_ble_eq_true rfl⟩ ⟨Nat.le_of_ble_eq_true rfl, Nat.le_of_ble_eq_true rfl⟩ rfl ?_
    show G κ mX7_state 0 0 81 [(9, .ref a1), (0, .ref x0), (1, .int x1), (2, .int x2), (3, .int x3), (4, .int x4), (5, .int x5), (6, .long x6), (8, .int x8)] [.int r7.1] r7.2
    refine g_sub (lv' := [(0, .ref x0), (1, .int x1), (2, .int x2), (3, .int x3), (4, .int x4), (5, .int x5), (6, .long x6), (8, .int x8)]) [1, 2, 3, 4, 5, 6, 7, 8] rfl ?_
    exact tX7_state_81 O hf hk23 h
  · replace h := oe_none ho h
    try rw [ho]
    show G κ mX7_state 0 0 60 [(9, va_rf none), (0, .ref x0), (1, .int x1), (2, .int x2), (3, .int x3), (4, .int x4), (5, .int x5), (6, .long x6), (8, .int x8)] [] M
    refine g_iconst (v := 2) (pc' := 61) O dX7_state_60 (by decide) rfl ?_
    refine g_goto (pc' := 81) O dX7_state_61 (by decide) ?_
    refine g_sub (lv' := [(0, .ref x0), (1, .int x1), (2, .int x2), (3, .int x3), (4, .int x4), (5, .int x5), (6, .long x6), (8, .int x8)]) [1, 2, 3, 4, 5, 6, 7, 8] rfl ?_
    exact tX7_state_81 O hf hk23 h
def fX7_state_23  : Nat → Nat → Int32 → Int32 → Int32 → Int32 → Int32 → Int64 → Int32 → Mem → Option (Int32 × Mem)
  | 0, _, _, _, _, _, _, _, _, _ => none
  | n + 1, x0, x1, x2, x3, x4, x5, x6, x8, M =>
    if (6 : Int32) ≤ x8 then (if x3 = 0 then (if x5 = 0 then (fX7_state_186 (3 : Int32) M)
    else (fX7_state_186 (1 : Int32) M))
    else (if x4 = 0 then (fX7_state_175 (2 : Int32) M)
    else (fX7_state_175 (0 : Int32) M)))
    else (if ((x1 >>> (x8 &&& 31)) &&& (1 : Int32)) = (1 : Int32) then ((gN M 4 x0 0).bind fun v1 =>
    (ck M 2 v1).bind fun u2 =>
    (fX3_landAt v1 x8 M).bind fun r3 =>
    fX7_state_53 (fX7_state_23 n) x0 x1 x2 x3 x4 x5 x6 x8 r3.1 r3.2)
    else (fX7_state_53 (fX7_state_23 n) x0 x1 x2 x3 x4 x5 x6 x8 none M))
set_option maxHeartbeats 4000000 in
set_option maxRecDepth 100000 in
theorem tX7_state_23 {κ : KT} {p : Int32 × Mem} (O : OkK κ mX7_state) (hf : κ.2.2.2.2.2.2.2.2.2.2.2.2.2 = (some (.int p.1), p.2))  : ∀ (n : Nat) (x0 : Nat) (x1 : Int32) (x2 : Int32) (x3 : Int32) (x4 : Int32) (x5 : Int32) (x6 : Int64) (x8 : Int32) (M : Mem), fX7_state_23  n x0 x1 x2 x3 x4 x5 x6 x8 M = some p → G κ mX7_state 0 0 23 [(0, .ref x0), (1, .int x1), (2, .int x2), (3, .int x3), (4, .int x4), (5, .int x5), (6, .long x6), (8, .int x8)] [] M := by
  intro n
  induction n with
  | zero => intro x0 x1 x2 x3 x4 x5 x6 x8 M h; cases h
  | succ n ih =>
    intro x0 x1 x2 x3 x4 x5 x6 x8 M h
    rw [fX7_state_23] at h
    refine g_iload (pc' := 25) 7 O dX7_state_23 rfl rfl ?_
    refine g_bipush (v := 6) (pc' := 27) O dX7_state_25 (by decide) rfl ?_
    refine g_icmp_ge (tgt := 161) (pc' := 30) O dX7_state_27 (by decide) rfl (fun hc => ?_) (fun hc => ?_)
    · replace h := ip hc h
      refine g_iload_n (pc' := 162) 3 O dX7_state_161 rfl rfl rfl ?_
      refine g_if_eq (tgt := 176) (pc' := 165) O dX7_state_162 (by decide) rfl (fun hc => ?_) (fun hc => ?_)
      · replace h := ip hc h
        refine g_iload (pc' := 178) 5 O dX7_state_176 rfl rfl ?_
        refine g_if_eq (tgt := 185) (pc' := 181) O dX7_state_178 (by decide) rfl (fun hc => ?_) (fun hc => ?_)
        · replace h := ip hc h
          refine g_iconst (v := 3) (pc' := 186) O dX7_state_185 (by decide) rfl ?_
          refine g_sub (lv' := []) [] rfl ?_
          exact tX7_state_186 O hf h
        · replace h := ine hc h
          refine g_iconst (v := 1) (pc' := 182) O dX7_state_181 (by decide) rfl ?_
          refine g_goto (pc' := 186) O dX7_state_182 (by decide) ?_
          refine g_sub (lv' := []) [] rfl ?_
          exact tX7_state_186 O hf h
      · replace h := ine hc h
        refine g_iload (pc' := 167) 4 O dX7_state_165 rfl rfl ?_
        refine g_if_eq (tgt := 174) (pc' := 170) O dX7_state_167 (by decide) rfl (fun hc => ?_) (fun hc => ?_)
        · replace h := ip hc h
          refine g_iconst (v := 2) (pc' := 175) O dX7_state_174 (by decide) rfl ?_
          refine g_sub (lv' := []) [] rfl ?_
          exact tX7_state_175 O hf h
        · replace h := ine hc h
          refine g_iconst (v := 0) (pc' := 171) O dX7_state_170 (by decide) rfl ?_
          refine g_goto (pc' := 175) O dX7_state_171 (by decide) ?_
          refine g_sub (lv' := []) [] rfl ?_
          exact tX7_state_175 O hf h
    · replace h := ine hc h
      refine g_iload_n (pc' := 31) 1 O dX7_state_30 rfl rfl rfl ?_
      refine g_iload (pc' := 33) 7 O dX7_state_31 rfl rfl ?_
      refine g_ishr (pc' := 34) O dX7_state_33 rfl ?_
      refine g_iconst (v := 1) (pc' := 35) O dX7_state_34 (by decide) rfl ?_
      refine g_iand (pc' := 36) O dX7_state_35 rfl ?_
      refine g_iconst (v := 1) (pc' := 37) O dX7_state_36 (by decide) rfl ?_
      refine g_icmp_ne (tgt := 52) (pc' := 40) O dX7_state_37 (by decide) rfl (fun hc => ?_) (fun hc => ?_)
      · replace h := ine hc h
        refine g_null (pc' := 53) O dX7_state_52 rfl ?_
        exact tX7_state_53 O hf ih h
      · replace h := ip hc h
        refine g_aload_n (pc' := 41) 0 O dX7_state_40 rfl rfl rfl ?_
        replace h := ob h; obtain ⟨v1, ev1, h⟩ := h
        refine g_getF (C := RX7) (T := TX7) (N := 4) (ci := 4) (k := 0) (pc' := 44) O dX7_state_41 rfl inX7 (by decide) tw_177 (gN_F ev1) rfl ?_
        refine g_iload (pc' := 46) 7 O dX7_state_44 rfl rfl ?_
        replace h := ob h; obtain ⟨u2, eu2, h⟩ := h
        replace h := ob h; obtain ⟨r3, er3, h⟩ := h
        refine g_callV (y := yX3_landAt) (ν := mX3_landAt) (n := 1) (As := [.int x8]) (b := v1) (st := []) (M2 := r3.2) (r1 := (some (va_rf r3.1))) (pc' := 49) O dX7_state_46 tw_299 tw_54 tw_297 tw_298 tw_296 hyX3_landAt rfl rfl eu2 (okX3_landAt er3) (Nat.le_of_ble_eq_true rfl) ⟨Nat.le_of_ble_eq_true rfl, Nat.le_of_ble_eq_true rfl⟩ ⟨Nat.le_of_ble_eq_true rfl, Nat.le_of_ble_eq_true rfl⟩ rfl ?_
        show G κ mX7_state 0 0 49 [(0, .ref x0), (1, .int x1), (2, .int x2), (3, .int x3), (4, .int x4), (5, .int x5), (6, .long x6), (8, .int x8)] [va_rf r3.1] r3.2
        refine g_goto (pc' := 53) O dX7_state_49 (by decide) ?_
        exact tX7_state_53 O hf ih h
def fX7_state  (this : Nat) (p0 : Int32) (p1 : Int32) (M : Mem) : Option (Int32 × Mem) :=
  (fX7_isKind p1 M).bind fun r1 =>
  if r1.1 = 0 then (some ((-1 : Int32), r1.2))
  else (fX7_state_23 FU this p0 p1 (0 : Int32) (1 : Int32) (0 : Int32) (0 : Int64) (0 : Int32) r1.2)
set_option maxHeartbeats 4000000 in
set_option maxRecDepth 100000 in
theorem okX7_state {l : Launch} {p : Int32 × Mem} {this : Nat} {p0 : Int32} {p1 : Int32} {M : Mem} (h : fX7_state this p0 p1 M = some p) : Cn l yX7_state mX7_state [.ref this, .int p0, .int p1] M (some (.int p.1)) p.2 := by
  refine Cn.of [(0, .ref this), (1, .int p0), (2, .int p1)] (by decide) rfl rfl (Nat.le_of_ble_eq_true rfl) rfl (fun κ _ hf O => ?_)
  unfold fX7_state at h
  refine g_iload_n (pc' := 1) 2 O dX7_state_0 rfl rfl rfl ?_
  replace h := ob h; obtain ⟨r1, er1, h⟩ := h
  refine g_callS (y := yX7_isKind) (ν := mX7_isKind) (n := 1) (As := [.int p1]) (b := 0) (st := []) (M2 := r1.2) (r1 := (some (.int r1.1))) (pc' := 4) O dX7_state_1 tw_286 tw_53 tw_285 tw_284 hyX7_isKind rfl (okX7_isKind er1) (Nat.le_of_ble_eq_true rfl) ⟨Nat.le_of_ble_eq_true rfl, Nat.le_of_ble_eq_true rfl⟩ ⟨Nat.le_of_ble_eq_true rfl, Nat.le_of_ble_eq_true rfl⟩ rfl ?_
  show G κ mX7_state 0 0 4 [(0, .ref this), (1, .int p0), (2, .int p1)] [.int r1.1] r1.2
  refine g_if_ne (tgt := 9) (pc' := 7) O dX7_state_4 (by decide) rfl (fun hc => ?_) (fun hc => ?_)
  · replace h := ine hc h
    refine g_iconst (v := 0) (pc' := 10) O dX7_state_9 (by decide) rfl ?_
    refine g_istore_n (lv' := [(3, .int (0 : Int32)), (0, .ref this), (1, .int p0), (2, .int p1)]) (pc' := 11) O dX7_state_10 rfl (by decide) rfl rfl ?_
    refine g_iconst (v := 1) (pc' := 12) O dX7_state_11 (by decide) rfl ?_
    refine g_istore (lv' := [(4, .int (1 : Int32)), (3, .int (0 : Int32)), (0, .ref this), (1, .int p0), (2, .int p1)]) (pc' := 14) O dX7_state_12 (by decide) rfl rfl ?_
    refine g_iconst (v := 0) (pc' := 15) O dX7_state_14 (by decide) rfl ?_
    refine g_istore (lv' := [(5, .int (0 : Int32)), (4, .int (1 : Int32)), (3, .int (0 : Int32)), (0, .ref this), (1, .int p0), (2, .int p1)]) (pc' := 17) O dX7_state_15 (by decide) rfl rfl ?_
    refine g_lconst (v := 0) (pc' := 18) O dX7_state_17 (by decide) rfl ?_
    refine g_lstore (lv' := [(6, .long (0 : Int64)), (5, .int (0 : Int32)), (4, .int (1 : Int32)), (3, .int (0 : Int32)), (0, .ref this), (1, .int p0), (2, .int p1)]) (pc' := 20) O dX7_state_18 (by decide) rfl rfl ?_
    refine g_iconst (v := 0) (pc' := 21) O dX7_state_20 (by decide) rfl ?_
    refine g_istore (lv' := [(8, .int (0 : Int32)), (6, .long (0 : Int64)), (5, .int (0 : Int32)), (4, .int (1 : Int32)), (3, .int (0 : Int32)), (0, .ref this), (1, .int p0), (2, .int p1)]) (pc' := 23) O dX7_state_21 (by decide) rfl rfl ?_
    refine g_sub (lv' := [(0, .ref this), (1, .int p0), (2, .int p1), (3, .int (0 : Int32)), (4, .int (1 : Int32)), (5, .int (0 : Int32)), (6, .long (0 : Int64)), (8, .int (0 : Int32))]) [5, 6, 7, 4, 3, 2, 1, 0] rfl ?_
    exact tX7_state_23 O hf FU this p0 p1 (0 : Int32) (1 : Int32) (0 : Int32) (0 : Int64) (0 : Int32) r1.2 h
  · replace h := ip hc h
    refine g_iconst (v := -1) (pc' := 8) O dX7_state_7 (by decide) rfl ?_
    cases h
    exact g_ireturn O dX7_state_8 rfl rfl hf (by decide) (by decide)
abbrev mX7_isAmount : MD := (cX7_isAmount, 2, RX7, (some .boolean), { frames := 0, cells := 0, slots := 0, locals := 0 }, "isAmount")
theorem hyX7_isAmount : yX7_isAmount.cls ≠ "java/lang/invoke/MethodHandle" ∧ yX7_isAmount.cls ≠ "java/lang/invoke/VarHandle" ∧ (parseMethodDescriptor yX7_isAmount.desc).map (fun d => d.parameters.length) = some 1 := by decide +kernel
def fX7_isAmount_21  (s0 : Int32) (M : Mem) : Option (Int32 × Mem) :=
  (nz s0).bind fun z1 =>
  some (z1, M)
set_option maxHeartbeats 4000000 in
set_option maxRecDepth 100000 in
theorem tX7_isAmount_21 {κ : KT} {p : Int32 × Mem} (O : OkK κ mX7_isAmount) (hf : κ.2.2.2.2.2.2.2.2.2.2.2.2.2 = (some (.int p.1), p.2))  {s0 : Int32} {M : Mem} (h : fX7_isAmount_21  s0 M = some p) : G κ mX7_isAmount 0 0 21 [] [.int s0] M := by
  unfold fX7_isAmount_21 at h
  replace h := ob h; obtain ⟨z1, ez1, h⟩ := h
  obtain ⟨hz1, ez1b⟩ := nz_spec ez1
  rw [ez1b] at h
  cases h
  exact g_ireturn O dX7_isAmount_21 rfl (nz_nar hz1) hf (by decide) (by decide)
def fX7_isAmount_20  (M : Mem) : Option (Int32 × Mem) :=
  fX7_isAmount_21 (0 : Int32) M
set_option maxHeartbeats 4000000 in
set_option maxRecDepth 100000 in
theorem tX7_isAmount_20 {κ : KT} {p : Int32 × Mem} (O : OkK κ mX7_isAmount) (hf : κ.2.2.2.2.2.2.2.2.2.2.2.2.2 = (some (.int p.1), p.2))  {M : Mem} (h : fX7_isAmount_20  M = some p) : G κ mX7_isAmount 0 0 20 [] [] M := by
  unfold fX7_isAmount_20 at h
  refine g_iconst (v := 0) (pc' := 21) O dX7_isAmount_20 (by decide) rfl ?_
  exact tX7_isAmount_21 O hf h
def fX7_isAmount  (p0 : Int64) (M : Mem) : Option (Int32 × Mem) :=
  if (lg_cmp p0 (-999999999999999 : Int64)) < 0 then (fX7_isAmount_20 M)
  else (if 0 < (lg_cmp p0 (999999999999999 : Int64)) then (fX7_isAmount_20 M)
  else (fX7_isAmount_21 (1 : Int32) M))
set_option maxHeartbeats 4000000 in
set_option maxRecDepth 100000 in
theorem okX7_isAmount {l : Launch} {p : Int32 × Mem} {p0 : Int64} {M : Mem} (h : fX7_isAmount p0 M = some p) : Cn l yX7_isAmount mX7_isAmount [.long p0] M (some (.int p.1)) p.2 := by
  refine Cn.of [(0, .long p0)] (by decide) rfl rfl (Nat.le_of_ble_eq_true rfl) rfl (fun κ _ hf O => ?_)
  unfold fX7_isAmount at h
  refine g_lload_n (pc' := 1) 0 O dX7_isAmount_0 rfl rfl rfl ?_
  refine g_ldc2 (v := -999999999999999) (pc' := 4) O dX7_isAmount_1 tw_480 rfl ?_
  refine g_lcmp (pc' := 5) O dX7_isAmount_4 rfl ?_
  refine g_if_lt (tgt := 20) (pc' := 8) O dX7_isAmount_5 (by decide) rfl (fun hc => ?_) (fun hc => ?_)
  · replace h := ip hc h
    refine g_sub (lv' := []) [] rfl ?_
    exact tX7_isAmount_20 O hf h
  · replace h := ine hc h
    refine g_lload_n (pc' := 9) 0 O dX7_isAmount_8 rfl rfl rfl ?_
    refine g_ldc2 (v := 999999999999999) (pc' := 12) O dX7_isAmount_9 tw_481 rfl ?_
    refine g_lcmp (pc' := 13) O dX7_isAmount_12 rfl ?_
    refine g_if_gt (tgt := 20) (pc' := 16) O dX7_isAmount_13 (by decide) rfl (fun hc => ?_) (fun hc => ?_)
    · replace h := ip hc h
      refine g_sub (lv' := []) [] rfl ?_
      exact tX7_isAmount_20 O hf h
    · replace h := ine hc h
      refine g_iconst (v := 1) (pc' := 17) O dX7_isAmount_16 (by decide) rfl ?_
      refine g_goto (pc' := 21) O dX7_isAmount_17 (by decide) ?_
      refine g_sub (lv' := []) [] rfl ?_
      exact tX7_isAmount_21 O hf h
abbrev mX7_writeValue : MD := (cX7_writeValue, 8, RX7, (some .int), { frames := 4, cells := 0, slots := 0, locals := 90 }, "writeValue")
theorem hyX7_writeValue : yX7_writeValue.cls ≠ "java/lang/invoke/MethodHandle" ∧ yX7_writeValue.cls ≠ "java/lang/invoke/VarHandle" ∧ (parseMethodDescriptor yX7_writeValue.desc).map (fun d => d.parameters.length) = some 5 := by decide +kernel
def fX7_writeValue_99  (x0 : Nat) (x5 : Int32) (x6 : Int64) (s0 : Int32) (s1 : Nat) (s2 : Nat) (M : Mem) : Option (Int32 × Mem) :=
  (fX6_writeAmount s2 s1 s0 x6 x5 M).bind fun r1 =>
  (ck r1 3 x0).bind fun u2 =>
  (fX4_length x0 r1).bind fun r3 =>
  some (r3.1, r3.2)
set_option maxHeartbeats 4000000 in
set_option maxRecDepth 100000 in
theorem tX7_writeValue_99 {κ : KT} {p : Int32 × Mem} (O : OkK κ mX7_writeValue) (hf : κ.2.2.2.2.2.2.2.2.2.2.2.2.2 = (some (.int p.1), p.2))  {x0 : Nat} {x5 : Int32} {x6 : Int64} {s0 : Int32} {s1 : Nat} {s2 : Nat} {M : Mem} (h : fX7_writeValue_99  x0 x5 x6 s0 s1 s2 M = some p) : G κ mX7_writeValue 0 0 99 [(0, .ref x0), (5, .int x5), (6, .long x6)] [.int s0, .ref s1, .ref s2] M := by
  unfold fX7_writeValue_99 at h
  refine g_lload (pc' := 101) 2 O dX7_writeValue_99 rfl rfl ?_
  refine g_iload (pc' := 103) 1 O dX7_writeValue_101 rfl rfl ?_
  replace h := ob h; obtain ⟨r1, er1, h⟩ := h
  refine g_callS (y := yX6_writeAmount) (ν := mX6_writeAmount) (n := 5) (As := [.ref s2, .ref s1, .int s0, .long x6, .int x5]) (b := 0) (st := []) (M2 := r1) (r1 := none) (pc' := 106) O dX7_writeValue_103 tw_491 tw_61 tw_490 tw_489 hyX6_writeAmount rfl (okX6_writeAmount er1) (Nat.le_of_ble_eq_true rfl) ⟨Nat.le_of_ble_eq_true rfl, Nat.le_of_ble_eq_true rfl⟩ ⟨Nat.le_of_ble_eq_true rfl, Nat.le_of_ble_eq_true rfl⟩ rfl ?_
  show G κ mX7_writeValue 0 0 106 [(0, .ref x0), (5, .int x5), (6, .long x6)] [] r1
  refine g_aload_n (pc' := 107) 0 O dX7_writeValue_106 rfl rfl rfl ?_
  replace h := ob h; obtain ⟨u2, eu2, h⟩ := h
  replace h := ob h; obtain ⟨r3, er3, h⟩ := h
  refine g_callV (y := yX4_length) (ν := mX4_length) (n := 0) (As := []) (b := x0) (st := []) (M2 := r3.2) (r1 := (some (.int r3.1))) (pc' := 110) O dX7_writeValue_107 tw_260 tw_55 tw_258 tw_259 tw_257 hyX4_length rfl rfl eu2 (okX4_length er3) (Nat.le_of_ble_eq_true rfl) ⟨Nat.le_of_ble_eq_true rfl, Nat.le_of_ble_eq_true rfl⟩ ⟨Nat.le_of_ble_eq_true rfl, Nat.le_of_ble_eq_true rfl⟩ rfl ?_
  show G κ mX7_writeValue 0 0 110 [(0, .ref x0), (5, .int x5), (6, .long x6)] [.int r3.1] r3.2
  cases h
  exact g_ireturn O dX7_writeValue_110 rfl rfl hf (by decide) (by decide)
def fX7_writeValue_67  (M : Mem) : Option (Int32 × Mem) :=
  some ((-1 : Int32), M)
set_option maxHeartbeats 4000000 in
set_option maxRecDepth 100000 in
theorem tX7_writeValue_67 {κ : KT} {p : Int32 × Mem} (O : OkK κ mX7_writeValue) (hf : κ.2.2.2.2.2.2.2.2.2.2.2.2.2 = (some (.int p.1), p.2))  {M : Mem} (h : fX7_writeValue_67  M = some p) : G κ mX7_writeValue 0 0 67 [] [] M := by
  unfold fX7_writeValue_67 at h
  refine g_iconst (v := -1) (pc' := 68) O dX7_writeValue_67 (by decide) rfl ?_
  cases h
  exact g_ireturn O dX7_writeValue_68 rfl rfl hf (by decide) (by decide)
def fX7_writeValue_48  (x0 : Nat) (x1 : Nat) (x2 : Int32) (x3 : Int64) (x5 : Int32) (M : Mem) : Option (Int32 × Mem) :=
  if x5 < 0 then (fX7_writeValue_67 M)
  else (if (6 : Int32) < x5 then (fX7_writeValue_67 M)
  else ((fX7_isAmount x3 M).bind fun r1 =>
  if r1.1 = 0 then (fX7_writeValue_67 r1.2)
  else ((fX6_rounded x3 x5 r1.2).bind fun r2 =>
  (fX7_isAmount r2.1 r2.2).bind fun r3 =>
  if r3.1 = 0 then (some ((-1 : Int32), r3.2))
  else (if x2 = (1 : Int32) then (fX7_writeValue_99 x0 x5 r2.1 (1 : Int32) x1 x0 r3.2)
  else (fX7_writeValue_99 x0 x5 r2.1 (0 : Int32) x1 x0 r3.2)))))
set_option maxHeartbeats 4000000 in
set_option maxRecDepth 100000 in
theorem tX7_writeValue_48 {κ : KT} {p : Int32 × Mem} (O : OkK κ mX7_writeValue) (hf : κ.2.2.2.2.2.2.2.2.2.2.2.2.2 = (some (.int p.1), p.2))  {x0 : Nat} {x1 : Nat} {x2 : Int32} {x3 : Int64} {x5 : Int32} {M : Mem} (h : fX7_writeValue_48  x0 x1 x2 x3 x5 M = some p) : G κ mX7_writeValue 0 0 48 [(0, .ref x0), (1, .ref x1), (2, .int x2), (3, .long x3), (5, .int x5)] [] M := by
  unfold fX7_writeValue_48 at h
  refine g_iload (pc' := 50) 4 O dX7_writeValue_48 rfl rfl ?_
  refine g_if_lt (tgt := 67) (pc' := 53) O dX7_writeValue_50 (by decide) rfl (fun hc => ?_) (fun hc => ?_)
  · replace h := ip hc h
    refine g_sub (lv' := []) [] rfl ?_
    exact tX7_writeValue_67 O hf h
  · replace h := ine hc h
    refine g_iload (pc' := 55) 4 O dX7_writeValue_53 rfl rfl ?_
    refine g_bipush (v := 6) (pc' := 57) O dX7_writeValue_55 (by decide) rfl ?_
    refine g_icmp_gt (tgt := 67) (pc' := 60) O dX7_writeValue_57 (by decide) rfl (fun hc => ?_) (fun hc => ?_)
    · replace h := ip hc h
      refine g_sub (lv' := []) [] rfl ?_
      exact tX7_writeValue_67 O hf h
    · replace h := ine hc h
      refine g_lload_n (pc' := 61) 3 O dX7_writeValue_60 rfl rfl rfl ?_
      replace h := ob h; obtain ⟨r1, er1, h⟩ := h
      refine g_callS (y := yX7_isAmount) (ν := mX7_isAmount) (n := 1) (As := [.long x3]) (b := 0) (st := []) (M2 := r1.2) (r1 := (some (.int r1.1))) (pc' := 64) O dX7_writeValue_61 tw_479 tw_53 tw_478 tw_477 hyX7_isAmount rfl (okX7_isAmount er1) (Nat.le_of_ble_eq_true rfl) ⟨Nat.le_of_ble_eq_true rfl, Nat.le_of_ble_eq_true rfl⟩ ⟨Nat.le_of_ble_eq_true rfl, Nat.le_of_ble_eq_true rfl⟩ rfl ?_
      show G κ mX7_writeValue 0 0 64 [(0, .ref x0), (1, .ref x1), (2, .int x2), (3, .long x3), (5, .int x5)] [.int r1.1] r1.2
      refine g_if_ne (tgt := 69) (pc' := 67) O dX7_writeValue_64 (by decide) rfl (fun hc => ?_) (fun hc => ?_)
      · replace h := ine hc h
        refine g_lload_n (pc' := 70) 3 O dX7_writeValue_69 rfl rfl rfl ?_
        refine g_iload (pc' := 72) 4 O dX7_writeValue_70 rfl rfl ?_
        replace h := ob h; obtain ⟨r2, er2, h⟩ := h
        refine g_callS (y := yX6_rounded) (ν := mX6_rounded) (n := 2) (As := [.long x3, .int x5]) (b := 0) (st := []) (M2 := r2.2) (r1 := (some (.long r2.1))) (pc' := 75) O dX7_writeValue_72 tw_484 tw_61 tw_483 tw_482 hyX6_rounded rfl (okX6_rounded er2) (Nat.le_of_ble_eq_true rfl) ⟨Nat.le_of_ble_eq_true rfl, Nat.le_of_ble_eq_true rfl⟩ ⟨Nat.le_of_ble_eq_true rfl, Nat.le_of_ble_eq_true rfl⟩ rfl ?_
        show G κ mX7_writeValue 0 0 75 [(0, .ref x0), (1, .ref x1), (2, .int x2), (3, .long x3), (5, .int x5)] [.long r2.1] r2.2
        refine g_lstore (lv' := [(6, .long r2.1), (0, .ref x0), (1, .ref x1), (2, .int x2), (3, .long x3), (5, .int x5)]) (pc' := 77) O dX7_writeValue_75 (by decide) rfl rfl ?_
        refine g_lload (pc' := 79) 0 O dX7_writeValue_77 rfl rfl ?_
        replace h := ob h; obtain ⟨r3, er3, h⟩ := h
        refine g_callS (y := yX7_isAmount) (ν := mX7_isAmount) (n := 1) (As := [.long r2.1]) (b := 0) (st := []) (M2 := r3.2) (r1 := (some (.int r3.1))) (pc' := 82) O dX7_writeValue_79 tw_479 tw_53 tw_478 tw_477 hyX7_isAmount rfl (okX7_isAmount er3) (Nat.le_of_ble_eq_true rfl) ⟨Nat.le_of_ble_eq_true rfl, Nat.le_of_ble_eq_true rfl⟩ ⟨Nat.le_of_ble_eq_true rfl, Nat.le_of_ble_eq_true rfl⟩ rfl ?_
        show G κ mX7_writeValue 0 0 82 [(6, .long r2.1), (0, .ref x0), (1, .ref x1), (2, .int x2), (3, .long x3), (5, .int x5)] [.int r3.1] r3.2
        refine g_if_ne (tgt := 87) (pc' := 85) O dX7_writeValue_82 (by decide) rfl (fun hc => ?_) (fun hc => ?_)
        · replace h := ine hc h
          refine g_aload_n (pc' := 88) 1 O dX7_writeValue_87 rfl rfl rfl ?_
          refine g_aload_n (pc' := 89) 2 O dX7_writeValue_88 rfl rfl rfl ?_
          refine g_iload_n (pc' := 90) 3 O dX7_writeValue_89 rfl rfl rfl ?_
          refine g_iconst (v := 1) (pc' := 91) O dX7_writeValue_90 (by decide) rfl ?_
          refine g_icmp_ne (tgt := 98) (pc' := 94) O dX7_writeValue_91 (by decide) rfl (fun hc => ?_) (fun hc => ?_)
          · replace h := ine hc h
            refine g_iconst (v := 0) (pc' := 99) O dX7_writeValue_98 (by decide) rfl ?_
            refine g_sub (lv' := [(0, .ref x0), (5, .int x5), (6, .long r2.1)]) [1, 5, 0] rfl ?_
            exact tX7_writeValue_99 O hf h
          · replace h := ip hc h
            refine g_iconst (v := 1) (pc' := 95) O dX7_writeValue_94 (by decide) rfl ?_
            refine g_goto (pc' := 99) O dX7_writeValue_95 (by decide) ?_
            refine g_sub (lv' := [(0, .ref x0), (5, .int x5), (6, .long r2.1)]) [1, 5, 0] rfl ?_
            exact tX7_writeValue_99 O hf h
        · replace h := ip hc h
          refine g_iconst (v := -1) (pc' := 86) O dX7_writeValue_85 (by decide) rfl ?_
          cases h
          exact g_ireturn O dX7_writeValue_86 rfl rfl hf (by decide) (by decide)
      · replace h := ip hc h
        refine g_sub (lv' := []) [] rfl ?_
        exact tX7_writeValue_67 O hf h
def fX7_writeValue_25  (M : Mem) : Option (Int32 × Mem) :=
  some ((-1 : Int32), M)
set_option maxHeartbeats 4000000 in
set_option maxRecDepth 100000 in
theorem tX7_writeValue_25 {κ : KT} {p : Int32 × Mem} (O : OkK κ mX7_writeValue) (hf : κ.2.2.2.2.2.2.2.2.2.2.2.2.2 = (some (.int p.1), p.2))  {M : Mem} (h : fX7_writeValue_25  M = some p) : G κ mX7_writeValue 0 0 25 [] [] M := by
  unfold fX7_writeValue_25 at h
  refine g_iconst (v := -1) (pc' := 26) O dX7_writeValue_25 (by decide) rfl ?_
  cases h
  exact g_ireturn O dX7_writeValue_26 rfl rfl hf (by decide) (by decide)
def fX7_writeValue  (p0 : Nat) (p1 : Option Nat) (p2 : Int32) (p3 : Int64) (p4 : Int32) (M : Mem) : Option (Int32 × Mem) :=
  Option.elim p1 (some ((-1 : Int32), M))
  (fun a1 => if p2 = (2 : Int32) then (if (lg_cmp p3 (0 : Int64)) < 0 then (fX7_writeValue_25 M)
  else (if (lg_cmp p3 (3652058 : Int64)) ≤ 0 then ((fX6_writeDay p0 a1 (p3.toInt32) M).bind fun r2 =>
  (ck r2 3 p0).bind fun u3 =>
  (fX4_length p0 r2).bind fun r4 =>
  some (r4.1, r4.2))
  else (fX7_writeValue_25 M)))
  else (if p2 = 0 then (fX7_writeValue_48 p0 a1 p2 p3 p4 M)
  else (if p2 = (1 : Int32) then (fX7_writeValue_48 p0 a1 p2 p3 p4 M)
  else (fX7_writeValue_67 M))))
set_option maxHeartbeats 4000000 in
set_option maxRecDepth 100000 in
theorem okX7_writeValue {l : Launch} {p : Int32 × Mem} {p0 : Nat} {p1 : Option Nat} {p2 : Int32} {p3 : Int64} {p4 : Int32} {M : Mem} (h : fX7_writeValue p0 p1 p2 p3 p4 M = some p) : Cn l yX7_writeValue mX7_writeValue [.ref p0, va_rf p1, .int p2, .long p3, .int p4] M (some (.int p.1)) p.2 := by
  refine Cn.of [(0, .ref p0), (1, va_rf p1), (2, .int p2), (3, .long p3), (5, .int p4)] (by decide) rfl rfl (by cases p1 <;> exact Nat.le_of_ble_eq_true rfl) (by cases p1 <;> rfl) (fun κ _ hf O => ?_)
  unfold fX7_writeValue at h
  refine g_aloadO_n (pc' := 1) 1 O dX7_writeValue_0 rfl rfl rfl ?_
  refine g_ifnonnull (tgt := 6) (pc' := 4) O dX7_writeValue_1 (by decide) rfl (fun a1 ho => ?_) (fun ho => ?_)
  · replace h := oe_some ho h
    try rw [ho]
    show G κ mX7_writeValue 0 0 6 [(0, .ref p0), (1, .ref a1), (2, .int p2), (3, .long p3), (5, .int p4)] [] M
    refine g_iload_n (pc' := 7) 2 O dX7_writeValue_6 rfl rfl rfl ?_
    refine g_iconst (v := 2) (pc' := 8) O dX7_writeValue_7 (by decide) rfl ?_
    refine g_icmp_ne (tgt := 39) (pc' := 11) O dX7_writeValue_8 (by decide) rfl (fun hc => ?_) (fun hc => ?_)
    · replace h := ine hc h
      refine g_iload_n (pc' := 40) 2 O dX7_writeValue_39 rfl rfl rfl ?_
      refine g_if_eq (tgt := 48) (pc' := 43) O dX7_writeValue_40 (by decide) rfl (fun hc => ?_) (fun hc => ?_)
      · replace h := ip hc h
        exact tX7_writeValue_48 O hf h
      · replace h := ine hc h
        refine g_iload_n (pc' := 44) 2 O dX7_writeValue_43 rfl rfl rfl ?_
        refine g_iconst (v := 1) (pc' := 45) O dX7_writeValue_44 (by decide) rfl ?_
        refine g_icmp_ne (tgt := 67) (pc' := 48) O dX7_writeValue_45 (by decide) rfl (fun hc => ?_) (fun hc => ?_)
        · replace h := ine hc h
          refine g_sub (lv' := []) [] rfl ?_
          exact tX7_writeValue_67 O hf h
        · replace h := ip hc h
          exact tX7_writeValue_48 O hf h
    · replace h := ip hc h
      refine g_lload_n (pc' := 12) 3 O dX7_writeValue_11 rfl rfl rfl ?_
      refine g_lconst (v := 0) (pc' := 13) O dX7_writeValue_12 (by decide) rfl ?_
      refine g_lcmp (pc' := 14) O dX7_writeValue_13 rfl ?_
      refine g_if_lt (tgt := 25) (pc' := 17) O dX7_writeValue_14 (by decide) rfl (fun hc => ?_) (fun hc => ?_)
      · replace h := ip hc h
        refine g_sub (lv' := []) [] rfl ?_
        exact tX7_writeValue_25 O hf h
      · replace h := ine hc h
        refine g_lload_n (pc' := 18) 3 O dX7_writeValue_17 rfl rfl rfl ?_
        refine g_ldc2 (v := 3652058) (pc' := 21) O dX7_writeValue_18 tw_448 rfl ?_
        refine g_lcmp (pc' := 22) O dX7_writeValue_21 rfl ?_
        refine g_if_le (tgt := 27) (pc' := 25) O dX7_writeValue_22 (by decide) rfl (fun hc => ?_) (fun hc => ?_)
        · replace h := ip hc h
          refine g_aload_n (pc' := 28) 0 O dX7_writeValue_27 rfl rfl rfl ?_
          refine g_aload_n (pc' := 29) 1 O dX7_writeValue_28 rfl rfl rfl ?_
          refine g_lload_n (pc' := 30) 3 O dX7_writeValue_29 rfl rfl rfl ?_
          refine g_l2i (pc' := 31) O dX7_writeValue_30 rfl ?_
          replace h := ob h; obtain ⟨r2, er2, h⟩ := h
          refine g_callS (y := yX6_writeDay) (ν := mX6_writeDay) (n := 3) (As := [.ref p0, .ref a1, .int (p3.toInt32)]) (b := 0) (st := []) (M2 := r2) (r1 := none) (pc' := 34) O dX7_writeValue_31 tw_451 tw_61 tw_450 tw_449 hyX6_writeDay rfl (okX6_writeDay er2) (Nat.le_of_ble_eq_true rfl) ⟨Nat.le_of_ble_eq_true rfl, Nat.le_of_ble_eq_true rfl⟩ ⟨Nat.le_of_ble_eq_true rfl, Nat.le_of_ble_eq_true rfl⟩ rfl ?_
          show G κ mX7_writeValue 0 0 34 [(0, .ref p0), (1, .ref a1), (2, .int p2), (3, .long p3), (5, .int p4)] [] r2
          refine g_aload_n (pc' := 35) 0 O dX7_writeValue_34 rfl rfl rfl ?_
          replace h := ob h; obtain ⟨u3, eu3, h⟩ := h
          replace h := ob h; obtain ⟨r4, er4, h⟩ := h
          refine g_callV (y := yX4_length) (ν := mX4_length) (n := 0) (As := []) (b := p0) (st := []) (M2 := r4.2) (r1 := (some (.int r4.1))) (pc' := 38) O dX7_writeValue_35 tw_260 tw_55 tw_258 tw_259 tw_257 hyX4_length rfl rfl eu3 (okX4_length er4) (Nat.le_of_ble_eq_true rfl) ⟨Nat.le_of_ble_eq_true rfl, Nat.le_of_ble_eq_true rfl⟩ ⟨Nat.le_of_ble_eq_true rfl, Nat.le_of_ble_eq_true rfl⟩ rfl ?_
          show G κ mX7_writeValue 0 0 38 [(0, .ref p0), (1, .ref a1), (2, .int p2), (3, .long p3), (5, .int p4)] [.int r4.1] r4.2
          cases h
          exact g_ireturn O dX7_writeValue_38 rfl rfl hf (by decide) (by decide)
        · replace h := ine hc h
          refine g_sub (lv' := []) [] rfl ?_
          exact tX7_writeValue_25 O hf h
  · replace h := oe_none ho h
    try rw [ho]
    show G κ mX7_writeValue 0 0 4 [(0, .ref p0), (1, va_rf none), (2, .int p2), (3, .long p3), (5, .int p4)] [] M
    refine g_iconst (v := -1) (pc' := 5) O dX7_writeValue_4 (by decide) rfl ?_
    cases h
    exact g_ireturn O dX7_writeValue_5 rfl rfl hf (by decide) (by decide)
abbrev mX7_show : MD := (cX7_show, 6, RX7, (some .int), { frames := 5, cells := 0, slots := 0, locals := 117 }, "show")
theorem hyX7_show : yX7_show.cls ≠ "java/lang/invoke/MethodHandle" ∧ yX7_show.cls ≠ "java/lang/invoke/VarHandle" ∧ (parseMethodDescriptor yX7_show.desc).map (fun d => d.parameters.length) = some 4 := by decide +kernel
def fX7_show  (this : Nat) (p0 : Int32) (p1 : Int32) (p2 : Int64) (p3 : Int32) (M : Mem) : Option (Int32 × Mem) :=
  (gN M 4 this 0).bind fun v1 =>
  (gN M 2 v1 1).bind fun v2 =>
  (gN M 4 this 0).bind fun v3 =>
  (ck M 2 v3).bind fun u4 =>
  (fX3_landAt v3 p0 M).bind fun r5 =>
  (fX7_writeValue v2 r5.1 p1 p2 p3 r5.2).bind fun r6 =>
  some (r6.1, r6.2)
set_option maxHeartbeats 4000000 in
set_option maxRecDepth 100000 in
theorem okX7_show {l : Launch} {p : Int32 × Mem} {this : Nat} {p0 : Int32} {p1 : Int32} {p2 : Int64} {p3 : Int32} {M : Mem} (h : fX7_show this p0 p1 p2 p3 M = some p) : Cn l yX7_show mX7_show [.ref this, .int p0, .int p1, .long p2, .int p3] M (some (.int p.1)) p.2 := by
  refine Cn.of [(0, .ref this), (1, .int p0), (2, .int p1), (3, .long p2), (5, .int p3)] (by decide) rfl rfl (Nat.le_of_ble_eq_true rfl) rfl (fun κ _ hf O => ?_)
  unfold fX7_show at h
  refine g_aload_n (pc' := 1) 0 O dX7_show_0 rfl rfl rfl ?_
  replace h := ob h; obtain ⟨v1, ev1, h⟩ := h
  refine g_getF (C := RX7) (T := TX7) (N := 4) (ci := 4) (k := 0) (pc' := 4) O dX7_show_1 rfl inX7 (by decide) tw_177 (gN_F ev1) rfl ?_
  replace h := ob h; obtain ⟨v2, ev2, h⟩ := h
  refine g_getF (C := RX3) (T := TX3) (N := 9) (ci := 2) (k := 1) (pc' := 7) O dX7_show_4 rfl inX3 (by decide) tw_108 (gN_F ev2) rfl ?_
  refine g_aload_n (pc' := 8) 0 O dX7_show_7 rfl rfl rfl ?_
  replace h := ob h; obtain ⟨v3, ev3, h⟩ := h
  refine g_getF (C := RX7) (T := TX7) (N := 4) (ci := 4) (k := 0) (pc' := 11) O dX7_show_8 rfl inX7 (by decide) tw_177 (gN_F ev3) rfl ?_
  refine g_iload_n (pc' := 12) 1 O dX7_show_11 rfl rfl rfl ?_
  replace h := ob h; obtain ⟨u4, eu4, h⟩ := h
  replace h := ob h; obtain ⟨r5, er5, h⟩ := h
  refine g_callV (y := yX3_landAt) (ν := mX3_landAt) (n := 1) (As := [.int p0]) (b := v3) (st := [.ref v2]) (M2 := r5.2) (r1 := (some (va_rf r5.1))) (pc' := 15) O dX7_show_12 tw_299 tw_54 tw_297 tw_298 tw_296 hyX3_landAt rfl rfl eu4 (okX3_landAt er5) (Nat.le_of_ble_eq_true rfl) ⟨Nat.le_of_ble_eq_true rfl, Nat.le_of_ble_eq_true rfl⟩ ⟨Nat.le_of_ble_eq_true rfl, Nat.le_of_ble_eq_true rfl⟩ rfl ?_
  show G κ mX7_show 0 0 15 [(0, .ref this), (1, .int p0), (2, .int p1), (3, .long p2), (5, .int p3)] [va_rf r5.1, .ref v2] r5.2
  refine g_iload_n (pc' := 16) 2 O dX7_show_15 rfl rfl rfl ?_
  refine g_lload_n (pc' := 17) 3 O dX7_show_16 rfl rfl rfl ?_
  refine g_iload (pc' := 19) 4 O dX7_show_17 rfl rfl ?_
  replace h := ob h; obtain ⟨r6, er6, h⟩ := h
  refine g_callS (y := yX7_writeValue) (ν := mX7_writeValue) (n := 5) (As := [.ref v2, va_rf r5.1, .int p1, .long p2, .int p3]) (b := 0) (st := []) (M2 := r6.2) (r1 := (some (.int r6.1))) (pc' := 22) O dX7_show_19 tw_447 tw_53 tw_446 tw_445 hyX7_writeValue rfl (okX7_writeValue er6) (Nat.le_of_ble_eq_true rfl) ⟨Nat.le_of_ble_eq_true rfl, Nat.le_of_ble_eq_true rfl⟩ ⟨Nat.le_of_ble_eq_true rfl, Nat.le_of_ble_eq_true rfl⟩ rfl ?_
  show G κ mX7_show 0 0 22 [(0, .ref this), (1, .int p0), (2, .int p1), (3, .long p2), (5, .int p3)] [.int r6.1] r6.2
  cases h
  exact g_ireturn O dX7_show_22 rfl rfl hf (by decide) (by decide)
abbrev mX7_words : MD := (cX7_words, 2, RX7, (some .int), { frames := 7, cells := 0, slots := 0, locals := 152 }, "words")
theorem hyX7_words : yX7_words.cls ≠ "java/lang/invoke/MethodHandle" ∧ yX7_words.cls ≠ "java/lang/invoke/VarHandle" ∧ (parseMethodDescriptor yX7_words.desc).map (fun d => d.parameters.length) = some 1 := by decide +kernel
def fX7_words_10  (M : Mem) : Option (Int32 × Mem) :=
  some ((-1 : Int32), M)
set_option maxHeartbeats 4000000 in
set_option maxRecDepth 100000 in
theorem tX7_words_10 {κ : KT} {p : Int32 × Mem} (O : OkK κ mX7_words) (hf : κ.2.2.2.2.2.2.2.2.2.2.2.2.2 = (some (.int p.1), p.2))  {M : Mem} (h : fX7_words_10  M = some p) : G κ mX7_words 0 0 10 [] [] M := by
  unfold fX7_words_10 at h
  refine g_iconst (v := -1) (pc' := 11) O dX7_words_10 (by decide) rfl ?_
  cases h
  exact g_ireturn O dX7_words_11 rfl rfl hf (by decide) (by decide)
def fX7_words  (this : Nat) (p0 : Int32) (M : Mem) : Option (Int32 × Mem) :=
  if p0 < 0 then (fX7_words_10 M)
  else (if p0 ≤ (999999999 : Int32) then ((gN M 4 this 0).bind fun v1 =>
  (gN M 2 v1 1).bind fun v2 =>
  (fX5_write v2 p0 M).bind fun r3 =>
  (gN r3 4 this 0).bind fun v4 =>
  (gN r3 2 v4 1).bind fun v5 =>
  (ck r3 3 v5).bind fun u6 =>
  (fX4_length v5 r3).bind fun r7 =>
  some (r7.1, r7.2))
  else (fX7_words_10 M))
set_option maxHeartbeats 4000000 in
set_option maxRecDepth 100000 in
theorem okX7_words {l : Launch} {p : Int32 × Mem} {this : Nat} {p0 : Int32} {M : Mem} (h : fX7_words this p0 M = some p) : Cn l yX7_words mX7_words [.ref this, .int p0] M (some (.int p.1)) p.2 := by
  refine Cn.of [(0, .ref this), (1, .int p0)] (by decide) rfl rfl (Nat.le_of_ble_eq_true rfl) rfl (fun κ _ hf O => ?_)
  unfold fX7_words at h
  refine g_iload_n (pc' := 1) 1 O dX7_words_0 rfl rfl rfl ?_
  refine g_if_lt (tgt := 10) (pc' := 4) O dX7_words_1 (by decide) rfl (fun hc => ?_) (fun hc => ?_)
  · replace h := ip hc h
    refine g_sub (lv' := []) [] rfl ?_
    exact tX7_words_10 O hf h
  · replace h := ine hc h
    refine g_iload_n (pc' := 5) 1 O dX7_words_4 rfl rfl rfl ?_
    refine g_ldc (v := 999999999) (pc' := 7) O dX7_words_5 tw_510 rfl ?_
    refine g_icmp_le (tgt := 12) (pc' := 10) O dX7_words_7 (by decide) rfl (fun hc => ?_) (fun hc => ?_)
    · replace h := ip hc h
      refine g_aload_n (pc' := 13) 0 O dX7_words_12 rfl rfl rfl ?_
      replace h := ob h; obtain ⟨v1, ev1, h⟩ := h
      refine g_getF (C := RX7) (T := TX7) (N := 4) (ci := 4) (k := 0) (pc' := 16) O dX7_words_13 rfl inX7 (by decide) tw_177 (gN_F ev1) rfl ?_
      replace h := ob h; obtain ⟨v2, ev2, h⟩ := h
      refine g_getF (C := RX3) (T := TX3) (N := 9) (ci := 2) (k := 1) (pc' := 19) O dX7_words_16 rfl inX3 (by decide) tw_108 (gN_F ev2) rfl ?_
      refine g_iload_n (pc' := 20) 1 O dX7_words_19 rfl rfl rfl ?_
      replace h := ob h; obtain ⟨r3, er3, h⟩ := h
      refine g_callS (y := yX5_write) (ν := mX5_write) (n := 2) (As := [.ref v2, .int p0]) (b := 0) (st := []) (M2 := r3) (r1 := none) (pc' := 23) O dX7_words_20 tw_513 tw_62 tw_512 tw_511 hyX5_write rfl (okX5_write er3) (Nat.le_of_ble_eq_true rfl) ⟨Nat.le_of_ble_eq_true rfl, Nat.le_of_ble_eq_true rfl⟩ ⟨Nat.le_of_ble_eq_true rfl, Nat.le_of_ble_eq_true rfl⟩ rfl ?_
      show G κ mX7_words 0 0 23 [(0, .ref this), (1, .int p0)] [] r3
      refine g_aload_n (pc' := 24) 0 O dX7_words_23 rfl rfl rfl ?_
      replace h := ob h; obtain ⟨v4, ev4, h⟩ := h
      refine g_getF (C := RX7) (T := TX7) (N := 4) (ci := 4) (k := 0) (pc' := 27) O dX7_words_24 rfl inX7 (by decide) tw_177 (gN_F ev4) rfl ?_
      replace h := ob h; obtain ⟨v5, ev5, h⟩ := h
      refine g_getF (C := RX3) (T := TX3) (N := 9) (ci := 2) (k := 1) (pc' := 30) O dX7_words_27 rfl inX3 (by decide) tw_108 (gN_F ev5) rfl ?_
      replace h := ob h; obtain ⟨u6, eu6, h⟩ := h
      replace h := ob h; obtain ⟨r7, er7, h⟩ := h
      refine g_callV (y := yX4_length) (ν := mX4_length) (n := 0) (As := []) (b := v5) (st := []) (M2 := r7.2) (r1 := (some (.int r7.1))) (pc' := 33) O dX7_words_30 tw_260 tw_55 tw_258 tw_259 tw_257 hyX4_length rfl rfl eu6 (okX4_length er7) (Nat.le_of_ble_eq_true rfl) ⟨Nat.le_of_ble_eq_true rfl, Nat.le_of_ble_eq_true rfl⟩ ⟨Nat.le_of_ble_eq_true rfl, Nat.le_of_ble_eq_true rfl⟩ rfl ?_
      show G κ mX7_words 0 0 33 [(0, .ref this), (1, .int p0)] [.int r7.1] r7.2
      cases h
      exact g_ireturn O dX7_words_33 rfl rfl hf (by decide) (by decide)
    · replace h := ine hc h
      refine g_sub (lv' := []) [] rfl ?_
      exact tX7_words_10 O hf h
abbrev mX7_shown : MD := (cX7_shown, 2, RX7, (some .int), { frames := 1, cells := 0, slots := 0, locals := 21 }, "shown")
theorem hyX7_shown : yX7_shown.cls ≠ "java/lang/invoke/MethodHandle" ∧ yX7_shown.cls ≠ "java/lang/invoke/VarHandle" ∧ (parseMethodDescriptor yX7_shown.desc).map (fun d => d.parameters.length) = some 1 := by decide +kernel
def fX7_shown  (this : Nat) (p0 : Int32) (M : Mem) : Option (Int32 × Mem) :=
  (gN M 4 this 0).bind fun v1 =>
  (gN M 2 v1 1).bind fun v2 =>
  (ck M 3 v2).bind fun u3 =>
  (fX4_byteAt v2 p0 M).bind fun r4 =>
  some (r4.1, r4.2)
set_option maxHeartbeats 4000000 in
set_option maxRecDepth 100000 in
theorem okX7_shown {l : Launch} {p : Int32 × Mem} {this : Nat} {p0 : Int32} {M : Mem} (h : fX7_shown this p0 M = some p) : Cn l yX7_shown mX7_shown [.ref this, .int p0] M (some (.int p.1)) p.2 := by
  refine Cn.of [(0, .ref this), (1, .int p0)] (by decide) rfl rfl (Nat.le_of_ble_eq_true rfl) rfl (fun κ _ hf O => ?_)
  unfold fX7_shown at h
  refine g_aload_n (pc' := 1) 0 O dX7_shown_0 rfl rfl rfl ?_
  replace h := ob h; obtain ⟨v1, ev1, h⟩ := h
  refine g_getF (C := RX7) (T := TX7) (N := 4) (ci := 4) (k := 0) (pc' := 4) O dX7_shown_1 rfl inX7 (by decide) tw_177 (gN_F ev1) rfl ?_
  replace h := ob h; obtain ⟨v2, ev2, h⟩ := h
  refine g_getF (C := RX3) (T := TX3) (N := 9) (ci := 2) (k := 1) (pc' := 7) O dX7_shown_4 rfl inX3 (by decide) tw_108 (gN_F ev2) rfl ?_
  refine g_iload_n (pc' := 8) 1 O dX7_shown_7 rfl rfl rfl ?_
  replace h := ob h; obtain ⟨u3, eu3, h⟩ := h
  replace h := ob h; obtain ⟨r4, er4, h⟩ := h
  refine g_callV (y := yX4_byteAt) (ν := mX4_byteAt) (n := 1) (As := [.int p0]) (b := v2) (st := []) (M2 := r4.2) (r1 := (some (.int r4.1))) (pc' := 11) O dX7_shown_8 tw_615 tw_55 tw_613 tw_614 tw_612 hyX4_byteAt rfl rfl eu3 (okX4_byteAt er4) (Nat.le_of_ble_eq_true rfl) ⟨Nat.le_of_ble_eq_true rfl, Nat.le_of_ble_eq_true rfl⟩ ⟨Nat.le_of_ble_eq_true rfl, Nat.le_of_ble_eq_true rfl⟩ rfl ?_
  show G κ mX7_shown 0 0 11 [(0, .ref this), (1, .int p0)] [.int r4.1] r4.2
  cases h
  exact g_ireturn O dX7_shown_11 rfl rfl hf (by decide) (by decide)
abbrev mX7_take : MD := (cX7_take, 2, RX7, (some .int), { frames := 2, cells := 0, slots := 0, locals := 59 }, "take")
theorem hyX7_take : yX7_take.cls ≠ "java/lang/invoke/MethodHandle" ∧ yX7_take.cls ≠ "java/lang/invoke/VarHandle" ∧ (parseMethodDescriptor yX7_take.desc).map (fun d => d.parameters.length) = some 0 := by decide +kernel
def fX7_take_21  (M : Mem) : Option (Int32 × Mem) :=
  some ((-1 : Int32), M)
set_option maxHeartbeats 4000000 in
set_option maxRecDepth 100000 in
theorem tX7_take_21 {κ : KT} {p : Int32 × Mem} (O : OkK κ mX7_take) (hf : κ.2.2.2.2.2.2.2.2.2.2.2.2.2 = (some (.int p.1), p.2))  {M : Mem} (h : fX7_take_21  M = some p) : G κ mX7_take 0 0 21 [] [] M := by
  unfold fX7_take_21 at h
  refine g_iconst (v := -1) (pc' := 22) O dX7_take_21 (by decide) rfl ?_
  cases h
  exact g_ireturn O dX7_take_22 rfl rfl hf (by decide) (by decide)
def fX7_take  (this : Nat) (M : Mem) : Option (Int32 × Mem) :=
  (gN M 4 this 0).bind fun v1 =>
  (gN M 2 v1 1).bind fun v2 =>
  (ck M 3 v2).bind fun u3 =>
  (fX4_length v2 M).bind fun r4 =>
  if r4.1 = 0 then (fX7_take_21 r4.2)
  else (if r4.1 ≤ (60 : Int32) then ((gN r4.2 4 this 0).bind fun v5 =>
  (gN r4.2 2 v5 0).bind fun v6 =>
  (gN r4.2 4 this 0).bind fun v7 =>
  (gN r4.2 2 v7 1).bind fun v8 =>
  (ck r4.2 3 v6).bind fun u9 =>
  (fX4_copyFrom v6 v8 r4.2).bind fun r10 =>
  some (r4.1, r10))
  else (fX7_take_21 r4.2))
set_option maxHeartbeats 4000000 in
set_option maxRecDepth 100000 in
theorem okX7_take {l : Launch} {p : Int32 × Mem} {this : Nat} {M : Mem} (h : fX7_take this M = some p) : Cn l yX7_take mX7_take [.ref this] M (some (.int p.1)) p.2 := by
  refine Cn.of [(0, .ref this)] (by decide) rfl rfl (Nat.le_of_ble_eq_true rfl) rfl (fun κ _ hf O => ?_)
  unfold fX7_take at h
  refine g_aload_n (pc' := 1) 0 O dX7_take_0 rfl rfl rfl ?_
  replace h := ob h; obtain ⟨v1, ev1, h⟩ := h
  refine g_getF (C := RX7) (T := TX7) (N := 4) (ci := 4) (k := 0) (pc' := 4) O dX7_take_1 rfl inX7 (by decide) tw_177 (gN_F ev1) rfl ?_
  replace h := ob h; obtain ⟨v2, ev2, h⟩ := h
  refine g_getF (C := RX3) (T := TX3) (N := 9) (ci := 2) (k := 1) (pc' := 7) O dX7_take_4 rfl inX3 (by decide) tw_108 (gN_F ev2) rfl ?_
  replace h := ob h; obtain ⟨u3, eu3, h⟩ := h
  replace h := ob h; obtain ⟨r4, er4, h⟩ := h
  refine g_callV (y := yX4_length) (ν := mX4_length) (n := 0) (As := []) (b := v2) (st := []) (M2 := r4.2) (r1 := (some (.int r4.1))) (pc' := 10) O dX7_take_7 tw_260 tw_55 tw_258 tw_259 tw_257 hyX4_length rfl rfl eu3 (okX4_length er4) (Nat.le_of_ble_eq_true rfl) ⟨Nat.le_of_ble_eq_true rfl, Nat.le_of_ble_eq_true rfl⟩ ⟨Nat.le_of_ble_eq_true rfl, Nat.le_of_ble_eq_true rfl⟩ rfl ?_
  show G κ mX7_take 0 0 10 [(0, .ref this)] [.int r4.1] r4.2
  refine g_istore_n (lv' := [(1, .int r4.1), (0, .ref this)]) (pc' := 11) O dX7_take_10 rfl (by decide) rfl rfl ?_
  refine g_iload_n (pc' := 12) 0 O dX7_take_11 rfl rfl rfl ?_
  refine g_if_eq (tgt := 21) (pc' := 15) O dX7_take_12 (by decide) rfl (fun hc => ?_) (fun hc => ?_)
  · replace h := ip hc h
    refine g_sub (lv' := []) [] rfl ?_
    exact tX7_take_21 O hf h
  · replace h := ine hc h
    refine g_iload_n (pc' := 16) 0 O dX7_take_15 rfl rfl rfl ?_
    refine g_bipush (v := 60) (pc' := 18) O dX7_take_16 (by decide) rfl ?_
    refine g_icmp_le (tgt := 23) (pc' := 21) O dX7_take_18 (by decide) rfl (fun hc => ?_) (fun hc => ?_)
    · replace h := ip hc h
      refine g_aload_n (pc' := 24) 1 O dX7_take_23 rfl rfl rfl ?_
      replace h := ob h; obtain ⟨v5, ev5, h⟩ := h
      refine g_getF (C := RX7) (T := TX7) (N := 4) (ci := 4) (k := 0) (pc' := 27) O dX7_take_24 rfl inX7 (by decide) tw_177 (gN_F ev5) rfl ?_
      replace h := ob h; obtain ⟨v6, ev6, h⟩ := h
      refine g_getF (C := RX3) (T := TX3) (N := 9) (ci := 2) (k := 0) (pc' := 30) O dX7_take_27 rfl inX3 (by decide) tw_106 (gN_F ev6) rfl ?_
      refine g_aload_n (pc' := 31) 1 O dX7_take_30 rfl rfl rfl ?_
      replace h := ob h; obtain ⟨v7, ev7, h⟩ := h
      refine g_getF (C := RX7) (T := TX7) (N := 4) (ci := 4) (k := 0) (pc' := 34) O dX7_take_31 rfl inX7 (by decide) tw_177 (gN_F ev7) rfl ?_
      replace h := ob h; obtain ⟨v8, ev8, h⟩ := h
      refine g_getF (C := RX3) (T := TX3) (N := 9) (ci := 2) (k := 1) (pc' := 37) O dX7_take_34 rfl inX3 (by decide) tw_108 (gN_F ev8) rfl ?_
      replace h := ob h; obtain ⟨u9, eu9, h⟩ := h
      replace h := ob h; obtain ⟨r10, er10, h⟩ := h
      refine g_callV (y := yX4_copyFrom) (ν := mX4_copyFrom) (n := 1) (As := [.ref v8]) (b := v6) (st := []) (M2 := r10) (r1 := none) (pc' := 40) O dX7_take_37 tw_623 tw_55 tw_621 tw_622 tw_620 hyX4_copyFrom rfl rfl eu9 (okX4_copyFrom er10) (Nat.le_of_ble_eq_true rfl) ⟨Nat.le_of_ble_eq_true rfl, Nat.le_of_ble_eq_true rfl⟩ ⟨Nat.le_of_ble_eq_true rfl, Nat.le_of_ble_eq_true rfl⟩ rfl ?_
      show G κ mX7_take 0 0 40 [(1, .int r4.1), (0, .ref this)] [] r10
      refine g_iload_n (pc' := 41) 0 O dX7_take_40 rfl rfl rfl ?_
      cases h
      exact g_ireturn O dX7_take_41 rfl rfl hf (by decide) (by decide)
    · replace h := ine hc h
      refine g_sub (lv' := []) [] rfl ?_
      exact tX7_take_21 O hf h
abbrev mX7_spoken : MD := (cX7_spoken, 2, RX7, (some .int), { frames := 7, cells := 0, slots := 0, locals := 157 }, "spoken")
theorem hyX7_spoken : yX7_spoken.cls ≠ "java/lang/invoke/MethodHandle" ∧ yX7_spoken.cls ≠ "java/lang/invoke/VarHandle" ∧ (parseMethodDescriptor yX7_spoken.desc).map (fun d => d.parameters.length) = some 0 := by decide +kernel
def fX7_spoken_53  (s0 : Int32) (M : Mem) : Option (Int32 × Mem) :=
  some (s0, M)
set_option maxHeartbeats 4000000 in
set_option maxRecDepth 100000 in
theorem tX7_spoken_53 {κ : KT} {p : Int32 × Mem} (O : OkK κ mX7_spoken) (hf : κ.2.2.2.2.2.2.2.2.2.2.2.2.2 = (some (.int p.1), p.2))  {s0 : Int32} {M : Mem} (h : fX7_spoken_53  s0 M = some p) : G κ mX7_spoken 0 0 53 [] [.int s0] M := by
  unfold fX7_spoken_53 at h
  cases h
  exact g_ireturn O dX7_spoken_53 rfl rfl hf (by decide) (by decide)
def fX7_spoken_21  (M : Mem) : Option (Int32 × Mem) :=
  some ((-1 : Int32), M)
set_option maxHeartbeats 4000000 in
set_option maxRecDepth 100000 in
theorem tX7_spoken_21 {κ : KT} {p : Int32 × Mem} (O : OkK κ mX7_spoken) (hf : κ.2.2.2.2.2.2.2.2.2.2.2.2.2 = (some (.int p.1), p.2))  {M : Mem} (h : fX7_spoken_21  M = some p) : G κ mX7_spoken 0 0 21 [] [] M := by
  unfold fX7_spoken_21 at h
  refine g_iconst (v := -1) (pc' := 22) O dX7_spoken_21 (by decide) rfl ?_
  cases h
  exact g_ireturn O dX7_spoken_22 rfl rfl hf (by decide) (by decide)
def fX7_spoken  (this : Nat) (M : Mem) : Option (Int32 × Mem) :=
  (gN M 4 this 0).bind fun v1 =>
  (gN M 2 v1 0).bind fun v2 =>
  (fX5_meaning v2 M).bind fun r3 =>
  if r3.1 < 0 then (fX7_spoken_21 r3.2)
  else (if r3.1 ≤ (999999999 : Int32) then ((gN r3.2 4 this 3).bind fun v4 =>
  (fX5_write v4 r3.1 r3.2).bind fun r5 =>
  (gN r5 4 this 3).bind fun v6 =>
  (gN r5 4 this 0).bind fun v7 =>
  (gN r5 2 v7 0).bind fun v8 =>
  (ck r5 3 v6).bind fun u9 =>
  (fX4_sameAs v6 v8 r5).bind fun r10 =>
  if r10.1 = 0 then (fX7_spoken_53 (-1 : Int32) r10.2)
  else (fX7_spoken_53 r3.1 r10.2))
  else (fX7_spoken_21 r3.2))
set_option maxHeartbeats 4000000 in
set_option maxRecDepth 100000 in
theorem okX7_spoken {l : Launch} {p : Int32 × Mem} {this : Nat} {M : Mem} (h : fX7_spoken this M = some p) : Cn l yX7_spoken mX7_spoken [.ref this] M (some (.int p.1)) p.2 := by
  refine Cn.of [(0, .ref this)] (by decide) rfl rfl (Nat.le_of_ble_eq_true rfl) rfl (fun κ _ hf O => ?_)
  unfold fX7_spoken at h
  refine g_aload_n (pc' := 1) 0 O dX7_spoken_0 rfl rfl rfl ?_
  replace h := ob h; obtain ⟨v1, ev1, h⟩ := h
  refine g_getF (C := RX7) (T := TX7) (N := 4) (ci := 4) (k := 0) (pc' := 4) O dX7_spoken_1 rfl inX7 (by decide) tw_177 (gN_F ev1) rfl ?_
  replace h := ob h; obtain ⟨v2, ev2, h⟩ := h
  refine g_getF (C := RX3) (T := TX3) (N := 9) (ci := 2) (k := 0) (pc' := 7) O dX7_spoken_4 rfl inX3 (by decide) tw_106 (gN_F ev2) rfl ?_
  replace h := ob h; obtain ⟨r3, er3, h⟩ := h
  refine g_callS (y := yX5_meaning) (ν := mX5_meaning) (n := 1) (As := [.ref v2]) (b := 0) (st := []) (M2 := r3.2) (r1 := (some (.int r3.1))) (pc' := 10) O dX7_spoken_7 tw_634 tw_62 tw_633 tw_632 hyX5_meaning rfl (okX5_meaning er3) (Nat.le_of_ble_eq_true rfl) ⟨Nat.le_of_ble_eq_true rfl, Nat.le_of_ble_eq_true rfl⟩ ⟨Nat.le_of_ble_eq_true rfl, Nat.le_of_ble_eq_true rfl⟩ rfl ?_
  show G κ mX7_spoken 0 0 10 [(0, .ref this)] [.int r3.1] r3.2
  refine g_istore_n (lv' := [(1, .int r3.1), (0, .ref this)]) (pc' := 11) O dX7_spoken_10 rfl (by decide) rfl rfl ?_
  refine g_iload_n (pc' := 12) 0 O dX7_spoken_11 rfl rfl rfl ?_
  refine g_if_lt (tgt := 21) (pc' := 15) O dX7_spoken_12 (by decide) rfl (fun hc => ?_) (fun hc => ?_)
  · replace h := ip hc h
    refine g_sub (lv' := []) [] rfl ?_
    exact tX7_spoken_21 O hf h
  · replace h := ine hc h
    refine g_iload_n (pc' := 16) 0 O dX7_spoken_15 rfl rfl rfl ?_
    refine g_ldc (v := 999999999) (pc' := 18) O dX7_spoken_16 tw_510 rfl ?_
    refine g_icmp_le (tgt := 23) (pc' := 21) O dX7_spoken_18 (by decide) rfl (fun hc => ?_) (fun hc => ?_)
    · replace h := ip hc h
      refine g_aload_n (pc' := 24) 1 O dX7_spoken_23 rfl rfl rfl ?_
      replace h := ob h; obtain ⟨v4, ev4, h⟩ := h
      refine g_getF (C := RX7) (T := TX7) (N := 4) (ci := 4) (k := 3) (pc' := 27) O dX7_spoken_24 rfl inX7 (by decide) tw_180 (gN_F ev4) rfl ?_
      refine g_iload_n (pc' := 28) 0 O dX7_spoken_27 rfl rfl rfl ?_
      replace h := ob h; obtain ⟨r5, er5, h⟩ := h
      refine g_callS (y := yX5_write) (ν := mX5_write) (n := 2) (As := [.ref v4, .int r3.1]) (b := 0) (st := []) (M2 := r5) (r1 := none) (pc' := 31) O dX7_spoken_28 tw_513 tw_62 tw_512 tw_511 hyX5_write rfl (okX5_write er5) (Nat.le_of_ble_eq_true rfl) ⟨Nat.le_of_ble_eq_true rfl, Nat.le_of_ble_eq_true rfl⟩ ⟨Nat.le_of_ble_eq_true rfl, Nat.le_of_ble_eq_true rfl⟩ rfl ?_
      show G κ mX7_spoken 0 0 31 [(1, .int r3.1), (0, .ref this)] [] r5
      refine g_aload_n (pc' := 32) 1 O dX7_spoken_31 rfl rfl rfl ?_
      replace h := ob h; obtain ⟨v6, ev6, h⟩ := h
      refine g_getF (C := RX7) (T := TX7) (N := 4) (ci := 4) (k := 3) (pc' := 35) O dX7_spoken_32 rfl inX7 (by decide) tw_180 (gN_F ev6) rfl ?_
      refine g_aload_n (pc' := 36) 1 O dX7_spoken_35 rfl rfl rfl ?_
      replace h := ob h; obtain ⟨v7, ev7, h⟩ := h
      refine g_getF (C := RX7) (T := TX7) (N := 4) (ci := 4) (k := 0) (pc' := 39) O dX7_spoken_36 rfl inX7 (by decide) tw_177 (gN_F ev7) rfl ?_
      replace h := ob h; obtain ⟨v8, ev8, h⟩ := h
      refine g_getF (C := RX3) (T := TX3) (N := 9) (ci := 2) (k := 0) (pc' := 42) O dX7_spoken_39 rfl inX3 (by decide) tw_106 (gN_F ev8) rfl ?_
      replace h := ob h; obtain ⟨u9, eu9, h⟩ := h
      replace h := ob h; obtain ⟨r10, er10, h⟩ := h
      refine g_callV (y := yX4_sameAs) (ν := mX4_sameAs) (n := 1) (As := [.ref v8]) (b := v6) (st := []) (M2 := r10.2) (r1 := (some (.int r10.1))) (pc' := 45) O dX7_spoken_42 tw_645 tw_55 tw_643 tw_644 tw_642 hyX4_sameAs rfl rfl eu9 (okX4_sameAs er10) (Nat.le_of_ble_eq_true rfl) ⟨Nat.le_of_ble_eq_true rfl, Nat.le_of_ble_eq_true rfl⟩ ⟨Nat.le_of_ble_eq_true rfl, Nat.le_of_ble_eq_true rfl⟩ rfl ?_
      show G κ mX7_spoken 0 0 45 [(1, .int r3.1), (0, .ref this)] [.int r10.1] r10.2
      refine g_if_eq (tgt := 52) (pc' := 48) O dX7_spoken_45 (by decide) rfl (fun hc => ?_) (fun hc => ?_)
      · replace h := ip hc h
        refine g_iconst (v := -1) (pc' := 53) O dX7_spoken_52 (by decide) rfl ?_
        refine g_sub (lv' := []) [] rfl ?_
        exact tX7_spoken_53 O hf h
      · replace h := ine hc h
        refine g_iload_n (pc' := 49) 0 O dX7_spoken_48 rfl rfl rfl ?_
        refine g_goto (pc' := 53) O dX7_spoken_49 (by decide) ?_
        refine g_sub (lv' := []) [] rfl ?_
        exact tX7_spoken_53 O hf h
    · replace h := ine hc h
      refine g_sub (lv' := []) [] rfl ?_
      exact tX7_spoken_21 O hf h
abbrev mX7_other : MD := (cX7_other, 10, RX7, (some .long), { frames := 5, cells := 0, slots := 0, locals := 118 }, "other")
theorem hyX7_other : yX7_other.cls ≠ "java/lang/invoke/MethodHandle" ∧ yX7_other.cls ≠ "java/lang/invoke/VarHandle" ∧ (parseMethodDescriptor yX7_other.desc).map (fun d => d.parameters.length) = some 5 := by decide +kernel
def fX7_other_87  (s0 : Int64) (M : Mem) : Option (Int64 × Mem) :=
  some (s0, M)
set_option maxHeartbeats 4000000 in
set_option maxRecDepth 100000 in
theorem tX7_other_87 {κ : KT} {p : Int64 × Mem} (O : OkK κ mX7_other) (hf : κ.2.2.2.2.2.2.2.2.2.2.2.2.2 = (some (.long p.1), p.2))  {s0 : Int64} {M : Mem} (h : fX7_other_87  s0 M = some p) : G κ mX7_other 0 0 87 [] [.long s0] M := by
  unfold fX7_other_87 at h
  cases h
  exact g_lreturn O dX7_other_87 rfl hf (by decide) (by decide)
def fX7_other_43  (M : Mem) : Option (Int64 × Mem) :=
  some ((-9223372036854775808 : Int64), M)
set_option maxHeartbeats 4000000 in
set_option maxRecDepth 100000 in
theorem tX7_other_43 {κ : KT} {p : Int64 × Mem} (O : OkK κ mX7_other) (hf : κ.2.2.2.2.2.2.2.2.2.2.2.2.2 = (some (.long p.1), p.2))  {M : Mem} (h : fX7_other_43  M = some p) : G κ mX7_other 0 0 43 [] [] M := by
  unfold fX7_other_43 at h
  refine g_ldc2 (v := -9223372036854775808) (pc' := 46) O dX7_other_43 tw_300 rfl ?_
  cases h
  exact g_lreturn O dX7_other_46 rfl hf (by decide) (by decide)
def fX7_other  (this : Nat) (p0 : Int32) (p1 : Int32) (p2 : Int32) (p3 : Int64) (p4 : Int32) (M : Mem) : Option (Int64 × Mem) :=
  (gN M 4 this 0).bind fun v1 =>
  (ck M 2 v1).bind fun u2 =>
  (fX3_landAt v1 p1 M).bind fun r3 =>
  (gN r3.2 4 this 3).bind fun v4 =>
  (gN r3.2 4 this 0).bind fun v5 =>
  (ck r3.2 2 v5).bind fun u6 =>
  (fX3_landAt v5 p0 r3.2).bind fun r7 =>
  (fX7_writeValue v4 r7.1 p2 p3 p4 r7.2).bind fun r8 =>
  Option.elim r3.1 (fX7_other_43 r8.2)
  (fun a9 => if r8.1 = (-1 : Int32) then (fX7_other_43 r8.2)
  else ((gN r8.2 4 this 2).bind fun v10 =>
  (gN r8.2 4 this 3).bind fun v11 =>
  (gN r8.2 3 v11 0).bind fun v12 =>
  (ck r8.2 1 v10).bind fun u13 =>
  (fX2_read v10 v12 (0 : Int32) r8.1 a9 p2 r8.2).bind fun r14 =>
  if r14.1 = 0 then ((gN r14.2 4 this 2).bind fun v15 =>
  (gL r14.2 1 v15 5).bind fun v16 =>
  fX7_other_87 v16 r14.2)
  else (fX7_other_87 (-9223372036854775808 : Int64) r14.2)))
set_option maxHeartbeats 4000000 in
set_option maxRecDepth 100000 in
theorem okX7_other {l : Launch} {p : Int64 × Mem} {this : Nat} {p0 : Int32} {p1 : Int32} {p2 : Int32} {p3 : Int64} {p4 : Int32} {M : Mem} (h : fX7_other this p0 p1 p2 p3 p4 M = some p) : Cn l yX7_other mX7_other [.ref this, .int p0, .int p1, .int p2, .long p3, .int p4] M (some (.long p.1)) p.2 := by
  refine Cn.of [(0, .ref this), (1, .int p0), (2, .int p1), (3, .int p2), (4, .long p3), (6, .int p4)] (by decide) rfl rfl (Nat.le_of_ble_eq_true rfl) rfl (fun κ _ hf O => ?_)
  unfold fX7_other at h
  refine g_aload_n (pc' := 1) 0 O dX7_other_0 rfl rfl rfl ?_
  replace h := ob h; obtain ⟨v1, ev1, h⟩ := h
  refine g_getF (C := RX7) (T := TX7) (N := 4) (ci := 4) (k := 0) (pc' := 4) O dX7_other_1 rfl inX7 (by decide) tw_177 (gN_F ev1) rfl ?_
  refine g_iload_n (pc' := 5) 2 O dX7_other_4 rfl rfl rfl ?_
  replace h := ob h; obtain ⟨u2, eu2, h⟩ := h
  replace h := ob h; obtain ⟨r3, er3, h⟩ := h
  refine g_callV (y := yX3_landAt) (ν := mX3_landAt) (n := 1) (As := [.int p1]) (b := v1) (st := []) (M2 := r3.2) (r1 := (some (va_rf r3.1))) (pc' := 8) O dX7_other_5 tw_299 tw_54 tw_297 tw_298 tw_296 hyX3_landAt rfl rfl eu2 (okX3_landAt er3) (Nat.le_of_ble_eq_true rfl) ⟨Nat.le_of_ble_eq_true rfl, Nat.le_of_ble_eq_true rfl⟩ ⟨Nat.le_of_ble_eq_true rfl, Nat.le_of_ble_eq_true rfl⟩ rfl ?_
  show G κ mX7_other 0 0 8 [(0, .ref this), (1, .int p0), (2, .int p1), (3, .int p2), (4, .long p3), (6, .int p4)] [va_rf r3.1] r3.2
  refine g_astoreO (lv' := [(7, va_rf r3.1), (0, .ref this), (1, .int p0), (2, .int p1), (3, .int p2), (4, .long p3), (6, .int p4)]) (pc' := 10) O dX7_other_8 (by decide) rfl rfl ?_
  refine g_aload_n (pc' := 11) 1 O dX7_other_10 rfl rfl rfl ?_
  replace h := ob h; obtain ⟨v4, ev4, h⟩ := h
  refine g_getF (C := RX7) (T := TX7) (N := 4) (ci := 4) (k := 3) (pc' := 14) O dX7_other_11 rfl inX7 (by decide) tw_180 (gN_F ev4) rfl ?_
  refine g_aload_n (pc' := 15) 1 O dX7_other_14 rfl rfl rfl ?_
  replace h := ob h; obtain ⟨v5, ev5, h⟩ := h
  refine g_getF (C := RX7) (T := TX7) (N := 4) (ci := 4) (k := 0) (pc' := 18) O dX7_other_15 rfl inX7 (by decide) tw_177 (gN_F ev5) rfl ?_
  refine g_iload_n (pc' := 19) 2 O dX7_other_18 rfl rfl rfl ?_
  replace h := ob h; obtain ⟨u6, eu6, h⟩ := h
  replace h := ob h; obtain ⟨r7, er7, h⟩ := h
  refine g_callV (y := yX3_landAt) (ν := mX3_landAt) (n := 1) (As := [.int p0]) (b := v5) (st := [.ref v4]) (M2 := r7.2) (r1 := (some (va_rf r7.1))) (pc' := 22) O dX7_other_19 tw_299 tw_54 tw_297 tw_298 tw_296 hyX3_landAt rfl rfl eu6 (okX3_landAt er7) (Nat.le_of_ble_eq_true rfl) ⟨Nat.le_of_ble_eq_true rfl, Nat.le_of_ble_eq_true rfl⟩ ⟨Nat.le_of_ble_eq_true rfl, Nat.le_of_ble_eq_true rfl⟩ rfl ?_
  show G κ mX7_other 0 0 22 [(7, va_rf r3.1), (0, .ref this), (1, .int p0), (2, .int p1), (3, .int p2), (4, .long p3), (6, .int p4)] [va_rf r7.1, .ref v4] r7.2
  refine g_iload_n (pc' := 23) 4 O dX7_other_22 rfl rfl rfl ?_
  refine g_lload (pc' := 25) 5 O dX7_other_23 rfl rfl ?_
  refine g_iload (pc' := 27) 6 O dX7_other_25 rfl rfl ?_
  replace h := ob h; obtain ⟨r8, er8, h⟩ := h
  refine g_callS (y := yX7_writeValue) (ν := mX7_writeValue) (n := 5) (As := [.ref v4, va_rf r7.1, .int p2, .long p3, .int p4]) (b := 0) (st := []) (M2 := r8.2) (r1 := (some (.int r8.1))) (pc' := 30) O dX7_other_27 tw_447 tw_53 tw_446 tw_445 hyX7_writeValue rfl (okX7_writeValue er8) (Nat.le_of_ble_eq_true rfl) ⟨Nat.le_of_ble_eq_true rfl, Nat.le_of_ble_eq_true rfl⟩ ⟨Nat.le_of_ble_eq_true rfl, Nat.le_of_ble_eq_true rfl⟩ rfl ?_
  show G κ mX7_other 0 0 30 [(7, va_rf r3.1), (0, .ref this), (1, .int p0), (2, .int p1), (3, .int p2), (4, .long p3), (6, .int p4)] [.int r8.1] r8.2
  refine g_istore (lv' := [(8, .int r8.1), (7, va_rf r3.1), (0, .ref this), (1, .int p0), (2, .int p1), (3, .int p2), (4, .long p3), (6, .int p4)]) (pc' := 32) O dX7_other_30 (by decide) (by simp [cat_rf]) rfl ?_
  refine g_aloadO (pc' := 34) 1 O dX7_other_32 rfl rfl ?_
  refine g_ifnull (tgt := 43) (pc' := 37) O dX7_other_34 (by decide) rfl (fun ho => ?_) (fun a9 ho => ?_)
  · replace h := oe_none ho h
    try rw [ho]
    show G κ mX7_other 0 0 43 [(8, .int r8.1), (7, va_rf none), (0, .ref this), (1, .int p0), (2, .int p1), (3, .int p2), (4, .long p3), (6, .int p4)] [] r8.2
    refine g_sub (lv' := []) [] rfl ?_
    exact tX7_other_43 O hf h
  · replace h := oe_some ho h
    try rw [ho]
    show G κ mX7_other 0 0 37 [(8, .int r8.1), (7, .ref a9), (0, .ref this), (1, .int p0), (2, .int p1), (3, .int p2), (4, .long p3), (6, .int p4)] [] r8.2
    refine g_iload (pc' := 39) 0 O dX7_other_37 rfl rfl ?_
    refine g_iconst (v := -1) (pc' := 40) O dX7_other_39 (by decide) rfl ?_
    refine g_icmp_ne (tgt := 47) (pc' := 43) O dX7_other_40 (by decide) rfl (fun hc => ?_) (fun hc => ?_)
    · replace h := ine hc h
      refine g_aload_n (pc' := 48) 2 O dX7_other_47 rfl rfl rfl ?_
      replace h := ob h; obtain ⟨v10, ev10, h⟩ := h
      refine g_getF (C := RX7) (T := TX7) (N := 4) (ci := 4) (k := 2) (pc' := 51) O dX7_other_48 rfl inX7 (by decide) tw_179 (gN_F ev10) rfl ?_
      refine g_aload_n (pc' := 52) 2 O dX7_other_51 rfl rfl rfl ?_
      replace h := ob h; obtain ⟨v11, ev11, h⟩ := h
      refine g_getF (C := RX7) (T := TX7) (N := 4) (ci := 4) (k := 3) (pc' := 55) O dX7_other_52 rfl inX7 (by decide) tw_180 (gN_F ev11) rfl ?_
      replace h := ob h; obtain ⟨v12, ev12, h⟩ := h
      refine g_getF (C := RX4) (T := TX4) (N := 2) (ci := 3) (k := 0) (pc' := 58) O dX7_other_55 rfl inX4 (by decide) tw_93 (gN_F ev12) rfl ?_
      refine g_iconst (v := 0) (pc' := 59) O dX7_other_58 (by decide) rfl ?_
      refine g_iload (pc' := 61) 0 O dX7_other_59 rfl rfl ?_
      refine g_aload (pc' := 63) 1 O dX7_other_61 rfl rfl ?_
      refine g_iload_n (pc' := 64) 5 O dX7_other_63 rfl rfl rfl ?_
      replace h := ob h; obtain ⟨u13, eu13, h⟩ := h
      replace h := ob h; obtain ⟨r14, er14, h⟩ := h
      refine g_callV (y := yX2_read) (ν := mX2_read) (n := 5) (As := [.ref v12, .int (0 : Int32), .int r8.1, .ref a9, .int p2]) (b := v10) (st := []) (M2 := r14.2) (r1 := (some (.int r14.1))) (pc' := 67) O dX7_other_64 tw_308 tw_57 tw_306 tw_307 tw_305 hyX2_read rfl rfl eu13 (okX2_read er14) (Nat.le_of_ble_eq_true rfl) ⟨Nat.le_of_ble_eq_true rfl, Nat.le_of_ble_eq_true rfl⟩ ⟨Nat.le_of_ble_eq_true rfl, Nat.le_of_ble_eq_true rfl⟩ rfl ?_
      show G κ mX7_other 0 0 67 [(8, .int r8.1), (7, .ref a9), (0, .ref this), (1, .int p0), (2, .int p1), (3, .int p2), (4, .long p3), (6, .int p4)] [.int r14.1] r14.2
      refine g_istore (lv' := [(9, .int r14.1), (8, .int r8.1), (7, .ref a9), (0, .ref this), (1, .int p0), (2, .int p1), (3, .int p2), (4, .long p3), (6, .int p4)]) (pc' := 69) O dX7_other_67 (by decide) rfl rfl ?_
      refine g_iload (pc' := 71) 0 O dX7_other_69 rfl rfl ?_
      refine g_if_ne (tgt := 84) (pc' := 74) O dX7_other_71 (by decide) rfl (fun hc => ?_) (fun hc => ?_)
      · replace h := ine hc h
        refine g_ldc2 (v := -9223372036854775808) (pc' := 87) O dX7_other_84 tw_300 rfl ?_
        refine g_sub (lv' := []) [] rfl ?_
        exact tX7_other_87 O hf h
      · replace h := ip hc h
        refine g_aload_n (pc' := 75) 3 O dX7_other_74 rfl rfl rfl ?_
        replace h := ob h; obtain ⟨v15, ev15, h⟩ := h
        refine g_getF (C := RX7) (T := TX7) (N := 4) (ci := 4) (k := 2) (pc' := 78) O dX7_other_75 rfl inX7 (by decide) tw_179 (gN_F ev15) rfl ?_
        replace h := ob h; obtain ⟨v16, ev16, h⟩ := h
        refine g_getF (C := RX2) (T := TX2) (N := 9) (ci := 1) (k := 5) (pc' := 81) O dX7_other_78 rfl inX2 (by decide) tw_152 (gL_F ev16) rfl ?_
        refine g_goto (pc' := 87) O dX7_other_81 (by decide) ?_
        refine g_sub (lv' := []) [] rfl ?_
        exact tX7_other_87 O hf h
    · replace h := ip hc h
      refine g_sub (lv' := []) [] rfl ?_
      exact tX7_other_43 O hf h
