abbrev mX2_readDay : MD := (cX2_readDay, 5, RX2, none, { frames := 3, cells := 0, slots := 0, locals := 69 }, "readDay")
theorem hyX2_readDay : yX2_readDay.cls ≠ "java/lang/invoke/MethodHandle" ∧ yX2_readDay.cls ≠ "java/lang/invoke/VarHandle" ∧ (parseMethodDescriptor yX2_readDay.desc).map (fun d => d.parameters.length) = some 1 := by decide +kernel
def fX2_readDay_148  (M : Mem) : Option (Mem) :=
  some M
set_option maxHeartbeats 4000000 in
set_option maxRecDepth 100000 in
theorem tX2_readDay_148 {κ : KT} {p : Mem} (O : OkK κ mX2_readDay) (hf : κ.2.2.2.2.2.2.2.2.2.2.2.2.2 = (none, p))  {M : Mem} (h : fX2_readDay_148  M = some p) : G κ mX2_readDay 0 0 148 [] [] M := by
  unfold fX2_readDay_148 at h
  cases h
  exact g_vreturn O dX2_readDay_148 rfl hf (by decide) (by decide)
def fX2_readDay_145  (s0 : Int32) (s1 : Nat) (M : Mem) : Option (Mem) :=
  (pF M 1 s1 3 (.int s0)).bind fun M1 =>
  fX2_readDay_148 M1
set_option maxHeartbeats 4000000 in
set_option maxRecDepth 100000 in
theorem tX2_readDay_145 {κ : KT} {p : Mem} (O : OkK κ mX2_readDay) (hf : κ.2.2.2.2.2.2.2.2.2.2.2.2.2 = (none, p))  {s0 : Int32} {s1 : Nat} {M : Mem} (h : fX2_readDay_145  s0 s1 M = some p) : G κ mX2_readDay 0 0 145 [] [.int s0, .ref s1] M := by
  unfold fX2_readDay_145 at h
  replace h := ob h; obtain ⟨M1, eM1, h⟩ := h
  refine g_putF (C := RX2) (T := TX2) (N := 9) (ci := 1) (k := 3) (pc' := 148) O dX2_readDay_145 rfl inX2 (by decide) tw_149 tyX2 tyX2_ok nmX2 rfl rfl rfl rfl eM1 rfl ?_
  exact tX2_readDay_148 O hf h
def fX2_readDay_124  (x0 : Nat) (M : Mem) : Option (Mem) :=
  (gI M 1 x0 3).bind fun v1 =>
  if v1 = (2 : Int32) then (fX2_readDay_148 M)
  else ((ck M 1 x0).bind fun u2 =>
  (fX2_couldBeDay x0 M).bind fun r3 =>
  if r3.1 = 0 then (fX2_readDay_145 (2 : Int32) x0 r3.2)
  else (fX2_readDay_145 (1 : Int32) x0 r3.2))
set_option maxHeartbeats 4000000 in
set_option maxRecDepth 100000 in
theorem tX2_readDay_124 {κ : KT} {p : Mem} (O : OkK κ mX2_readDay) (hf : κ.2.2.2.2.2.2.2.2.2.2.2.2.2 = (none, p))  {x0 : Nat} {M : Mem} (h : fX2_readDay_124  x0 M = some p) : G κ mX2_readDay 0 0 124 [(0, .ref x0)] [] M := by
  unfold fX2_readDay_124 at h
  refine g_aload_n (pc' := 125) 0 O dX2_readDay_124 rfl rfl rfl ?_
  replace h := ob h; obtain ⟨v1, ev1, h⟩ := h
  refine g_getF (C := RX2) (T := TX2) (N := 9) (ci := 1) (k := 3) (pc' := 128) O dX2_readDay_125 rfl inX2 (by decide) tw_149 (gI_F ev1) rfl ?_
  refine g_iconst (v := 2) (pc' := 129) O dX2_readDay_128 (by decide) rfl ?_
  refine g_icmp_eq (tgt := 148) (pc' := 132) O dX2_readDay_129 (by decide) rfl (fun hc => ?_) (fun hc => ?_)
  · replace h := ip hc h
    refine g_sub (lv' := []) [] rfl ?_
    exact tX2_readDay_148 O hf h
  · replace h := ine hc h
    refine g_aload_n (pc' := 133) 0 O dX2_readDay_132 rfl rfl rfl ?_
    refine g_aload_n (pc' := 134) 0 O dX2_readDay_133 rfl rfl rfl ?_
    replace h := ob h; obtain ⟨u2, eu2, h⟩ := h
    replace h := ob h; obtain ⟨r3, er3, h⟩ := h
    refine g_callV (y := yX2_couldBeDay) (ν := mX2_couldBeDay) (n := 0) (As := []) (b := x0) (st := [.ref x0]) (M2 := r3.2) (r1 := (some (.int r3.1))) (pc' := 137) O dX2_readDay_134 tw_373 tw_57 tw_372 tw_8 tw_370 hyX2_couldBeDay rfl rfl eu2 (okX2_couldBeDay er3) (Nat.le_of_ble_eq_true rfl) ⟨Nat.le_of_ble_eq_true rfl, Nat.le_of_ble_eq_true rfl⟩ ⟨Nat.le_of_ble_eq_true rfl, Nat.le_of_ble_eq_true rfl⟩ rfl ?_
    show G κ mX2_readDay 0 0 137 [(0, .ref x0)] [.int r3.1, .ref x0] r3.2
    refine g_if_eq (tgt := 144) (pc' := 140) O dX2_readDay_137 (by decide) rfl (fun hc => ?_) (fun hc => ?_)
    · replace h := ip hc h
      refine g_iconst (v := 2) (pc' := 145) O dX2_readDay_144 (by decide) rfl ?_
      refine g_sub (lv' := []) [] rfl ?_
      exact tX2_readDay_145 O hf h
    · replace h := ine hc h
      refine g_iconst (v := 1) (pc' := 141) O dX2_readDay_140 (by decide) rfl ?_
      refine g_goto (pc' := 145) O dX2_readDay_141 (by decide) ?_
      refine g_sub (lv' := []) [] rfl ?_
      exact tX2_readDay_145 O hf h
def fX2_readDay_51 (k34 : Nat → Nat → Int32 → Mem → Option (Mem)) (x0 : Nat) (x1 : Nat) (x2 : Int32) (M : Mem) : Option (Mem) :=
  (ck M 0 x1).bind fun u1 =>
  (fX1_partAt x1 x2 M).bind fun r2 =>
  (ck r2.2 1 x0).bind fun u3 =>
  (fX2_needPart x0 r2.1 r2.2).bind fun r4 =>
  k34 x0 x1 (x2 + (1 : Int32)) r4
set_option maxHeartbeats 4000000 in
set_option maxRecDepth 100000 in
theorem tX2_readDay_51 {κ : KT} {p : Mem} (O : OkK κ mX2_readDay) (hf : κ.2.2.2.2.2.2.2.2.2.2.2.2.2 = (none, p)) {k34 : Nat → Nat → Int32 → Mem → Option (Mem)} (hk34 : ∀ (x0 : Nat) (x1 : Nat) (x2 : Int32) (M : Mem), k34 x0 x1 x2 M = some p → G κ mX2_readDay 0 0 34 [(0, .ref x0), (1, .ref x1), (2, .int x2)] [] M) {x0 : Nat} {x1 : Nat} {x2 : Int32} {M : Mem} (h : fX2_readDay_51 k34 x0 x1 x2 M = some p) : G κ mX2_readDay 0 0 51 [(0, .ref x0), (1, .ref x1), (2, .int x2)] [] M := by
  unfold fX2_readDay_51 at h
  refine g_aload_n (pc' := 52) 0 O dX2_readDay_51 rfl rfl rfl ?_
  refine g_aload_n (pc' := 53) 1 O dX2_readDay_52 rfl rfl rfl ?_
  refine g_iload_n (pc' := 54) 2 O dX2_readDay_53 rfl rfl rfl ?_
  replace h := ob h; obtain ⟨u1, eu1, h⟩ := h
  replace h := ob h; obtain ⟨r2, er2, h⟩ := h
  refine g_callV (y := yX1_partAt) (ν := mX1_partAt) (n := 1) (As := [.int x2]) (b := x1) (st := [.ref x0]) (M2 := r2.2) (r1 := (some (.int r2.1))) (pc' := 57) O dX2_readDay_54 tw_336 tw_59 tw_334 tw_335 tw_333 hyX1_partAt rfl rfl eu1 (okX1_partAt er2) (Nat.le_of_ble_eq_true rfl) ⟨Nat.le_of_ble_eq_true rfl, Nat.le_of_ble_eq_true rfl⟩ ⟨Nat.le_of_ble_eq_true rfl, Nat.le_of_ble_eq_true rfl⟩ rfl ?_
  show G κ mX2_readDay 0 0 57 [(0, .ref x0), (1, .ref x1), (2, .int x2)] [.int r2.1, .ref x0] r2.2
  replace h := ob h; obtain ⟨u3, eu3, h⟩ := h
  replace h := ob h; obtain ⟨r4, er4, h⟩ := h
  refine g_callV (y := yX2_needPart) (ν := mX2_needPart) (n := 1) (As := [.int r2.1]) (b := x0) (st := []) (M2 := r4) (r1 := none) (pc' := 60) O dX2_readDay_57 tw_340 tw_57 tw_339 tw_5 tw_337 hyX2_needPart rfl rfl eu3 (okX2_needPart er4) (Nat.le_of_ble_eq_true rfl) ⟨Nat.le_of_ble_eq_true rfl, Nat.le_of_ble_eq_true rfl⟩ ⟨Nat.le_of_ble_eq_true rfl, Nat.le_of_ble_eq_true rfl⟩ rfl ?_
  show G κ mX2_readDay 0 0 60 [(0, .ref x0), (1, .ref x1), (2, .int x2)] [] r4
  refine g_iinc (q := 2) (v := x2 + (1 : Int32)) (lv' := [(2, .int (x2 + (1 : Int32))), (0, .ref x0), (1, .ref x1)]) (pc' := 63) O dX2_readDay_60 rfl rfl (by decide) rfl rfl ?_
  refine g_goto (pc' := 34) O dX2_readDay_63 (by decide) ?_
  refine g_sub (lv' := [(0, .ref x0), (1, .ref x1), (2, .int (x2 + (1 : Int32)))]) [1, 2, 0] rfl ?_
  exact hk34 x0 x1 (x2 + (1 : Int32)) r4 h
def fX2_readDay_34  : Nat → Nat → Nat → Int32 → Mem → Option (Mem)
  | 0, _, _, _, _ => none
  | n + 1, x0, x1, x2, M =>
    if (3 : Int32) ≤ x2 then ((ck M 1 x0).bind fun u1 =>
    (fX2_needEnd x0 M).bind fun r2 =>
    (gN r2 1 x0 6).bind fun v3 =>
    (aI r2 v3 (2 : Int32)).bind fun v4 =>
    (gN r2 1 x0 6).bind fun v5 =>
    (aI r2 v5 (1 : Int32)).bind fun v6 =>
    (gN r2 1 x0 6).bind fun v7 =>
    (aI r2 v7 (0 : Int32)).bind fun v8 =>
    (gI r2 1 x0 3).bind fun v9 =>
    if v9 = 0 then ((fX0_isDay v4 v6 v8 r2).bind fun r10 =>
    if r10.1 = 0 then (fX2_readDay_124 x0 r10.2)
    else ((fX0_numberOf v4 v6 v8 r10.2).bind fun r11 =>
    (pF r11.2 1 x0 5 (.long (r11.1.toInt64))).bind fun M12 =>
    fX2_readDay_148 M12))
    else (fX2_readDay_124 x0 r2))
    else (if x2 ≤ 0 then (fX2_readDay_51 (fX2_readDay_34 n) x0 x1 x2 M)
    else ((ck M 0 x1).bind fun u13 =>
    (fX1_signOfDays x1 M).bind fun r14 =>
    (ck r14.2 1 x0).bind fun u15 =>
    (fX2_need x0 r14.1 r14.2).bind fun r16 =>
    fX2_readDay_51 (fX2_readDay_34 n) x0 x1 x2 r16))
set_option maxHeartbeats 4000000 in
set_option maxRecDepth 100000 in
theorem tX2_readDay_34 {κ : KT} {p : Mem} (O : OkK κ mX2_readDay) (hf : κ.2.2.2.2.2.2.2.2.2.2.2.2.2 = (none, p))  : ∀ (n : Nat) (x0 : Nat) (x1 : Nat) (x2 : Int32) (M : Mem), fX2_readDay_34  n x0 x1 x2 M = some p → G κ mX2_readDay 0 0 34 [(0, .ref x0), (1, .ref x1), (2, .int x2)] [] M := by
  intro n
  induction n with
  | zero => intro x0 x1 x2 M h; cases h
  | succ n ih =>
    intro x0 x1 x2 M h
    rw [fX2_readDay_34] at h
    refine g_iload_n (pc' := 35) 2 O dX2_readDay_34 rfl rfl rfl ?_
    refine g_iconst (v := 3) (pc' := 36) O dX2_readDay_35 (by decide) rfl ?_
    refine g_icmp_ge (tgt := 66) (pc' := 39) O dX2_readDay_36 (by decide) rfl (fun hc => ?_) (fun hc => ?_)
    · replace h := ip hc h
      refine g_aload_n (pc' := 67) 0 O dX2_readDay_66 rfl rfl rfl ?_
      replace h := ob h; obtain ⟨u1, eu1, h⟩ := h
      replace h := ob h; obtain ⟨r2, er2, h⟩ := h
      refine g_callV (y := yX2_needEnd) (ν := mX2_needEnd) (n := 0) (As := []) (b := x0) (st := []) (M2 := r2) (r1 := none) (pc' := 70) O dX2_readDay_67 tw_352 tw_57 tw_351 tw_7 tw_349 hyX2_needEnd rfl rfl eu1 (okX2_needEnd er2) (Nat.le_of_ble_eq_true rfl) ⟨Nat.le_of_ble_eq_true rfl, Nat.le_of_ble_eq_true rfl⟩ ⟨Nat.le_of_ble_eq_true rfl, Nat.le_of_ble_eq_true rfl⟩ rfl ?_
      show G κ mX2_readDay 0 0 70 [(0, .ref x0), (1, .ref x1), (2, .int x2)] [] r2
      refine g_aload_n (pc' := 71) 0 O dX2_readDay_70 rfl rfl rfl ?_
      replace h := ob h; obtain ⟨v3, ev3, h⟩ := h
      refine g_getF (C := RX2) (T := TX2) (N := 9) (ci := 1) (k := 6) (pc' := 74) O dX2_readDay_71 rfl inX2 (by decide) tw_153 (gN_F ev3) rfl ?_
      refine g_iconst (v := 2) (pc' := 75) O dX2_readDay_74 (by decide) rfl ?_
      replace h := ob h; obtain ⟨v4, ev4, h⟩ := h
      refine g_iald (pc' := 76) O dX2_readDay_75 ev4 rfl ?_
      refine g_istore_n (lv' := [(2, .int v4), (0, .ref x0), (1, .ref x1)]) (pc' := 77) O dX2_readDay_76 rfl (by decide) rfl rfl ?_
      refine g_aload_n (pc' := 78) 1 O dX2_readDay_77 rfl rfl rfl ?_
      replace h := ob h; obtain ⟨v5, ev5, h⟩ := h
      refine g_getF (C := RX2) (T := TX2) (N := 9) (ci := 1) (k := 6) (pc' := 81) O dX2_readDay_78 rfl inX2 (by decide) tw_153 (gN_F ev5) rfl ?_
      refine g_iconst (v := 1) (pc' := 82) O dX2_readDay_81 (by decide) rfl ?_
      replace h := ob h; obtain ⟨v6, ev6, h⟩ := h
      refine g_iald (pc' := 83) O dX2_readDay_82 ev6 rfl ?_
      refine g_istore_n (lv' := [(3, .int v6), (2, .int v4), (0, .ref x0), (1, .ref x1)]) (pc' := 84) O dX2_readDay_83 rfl (by decide) rfl rfl ?_
      refine g_aload_n (pc' := 85) 2 O dX2_readDay_84 rfl rfl rfl ?_
      replace h := ob h; obtain ⟨v7, ev7, h⟩ := h
      refine g_getF (C := RX2) (T := TX2) (N := 9) (ci := 1) (k := 6) (pc' := 88) O dX2_readDay_85 rfl inX2 (by decide) tw_153 (gN_F ev7) rfl ?_
      refine g_iconst (v := 0) (pc' := 89) O dX2_readDay_88 (by decide) rfl ?_
      replace h := ob h; obtain ⟨v8, ev8, h⟩ := h
      refine g_iald (pc' := 90) O dX2_readDay_89 ev8 rfl ?_
      refine g_istore (lv' := [(4, .int v8), (3, .int v6), (2, .int v4), (0, .ref x0), (1, .ref x1)]) (pc' := 92) O dX2_readDay_90 (by decide) rfl rfl ?_
      refine g_aload_n (pc' := 93) 3 O dX2_readDay_92 rfl rfl rfl ?_
      replace h := ob h; obtain ⟨v9, ev9, h⟩ := h
      refine g_getF (C := RX2) (T := TX2) (N := 9) (ci := 1) (k := 3) (pc' := 96) O dX2_readDay_93 rfl inX2 (by decide) tw_149 (gI_F ev9) rfl ?_
      refine g_if_ne (tgt := 124) (pc' := 99) O dX2_readDay_96 (by decide) rfl (fun hc => ?_) (fun hc => ?_)
      · replace h := ine hc h
        refine g_sub (lv' := [(0, .ref x0)]) [3] rfl ?_
        exact tX2_readDay_124 O hf h
      · replace h := ip hc h
        refine g_iload_n (pc' := 100) 2 O dX2_readDay_99 rfl rfl rfl ?_
        refine g_iload_n (pc' := 101) 1 O dX2_readDay_100 rfl rfl rfl ?_
        refine g_iload (pc' := 103) 0 O dX2_readDay_101 rfl rfl ?_
        replace h := ob h; obtain ⟨r10, er10, h⟩ := h
        refine g_callS (y := yX0_isDay) (ν := mX0_isDay) (n := 3) (As := [.int v4, .int v6, .int v8]) (b := 0) (st := []) (M2 := r10.2) (r1 := (some (.int r10.1))) (pc' := 106) O dX2_readDay_103 tw_355 tw_60 tw_354 tw_353 hyX0_isDay rfl (okX0_isDay er10) (Nat.le_of_ble_eq_true rfl) ⟨Nat.le_of_ble_eq_true rfl, Nat.le_of_ble_eq_true rfl⟩ ⟨Nat.le_of_ble_eq_true rfl, Nat.le_of_ble_eq_true rfl⟩ rfl ?_
        show G κ mX2_readDay 0 0 106 [(4, .int v8), (3, .int v6), (2, .int v4), (0, .ref x0), (1, .ref x1)] [.int r10.1] r10.2
        refine g_if_eq (tgt := 124) (pc' := 109) O dX2_readDay_106 (by decide) rfl (fun hc => ?_) (fun hc => ?_)
        · replace h := ip hc h
          refine g_sub (lv' := [(0, .ref x0)]) [3] rfl ?_
          exact tX2_readDay_124 O hf h
        · replace h := ine hc h
          refine g_aload_n (pc' := 110) 3 O dX2_readDay_109 rfl rfl rfl ?_
          refine g_iload_n (pc' := 111) 2 O dX2_readDay_110 rfl rfl rfl ?_
          refine g_iload_n (pc' := 112) 1 O dX2_readDay_111 rfl rfl rfl ?_
          refine g_iload (pc' := 114) 0 O dX2_readDay_112 rfl rfl ?_
          replace h := ob h; obtain ⟨r11, er11, h⟩ := h
          refine g_callS (y := yX0_numberOf) (ν := mX0_numberOf) (n := 3) (As := [.int v4, .int v6, .int v8]) (b := 0) (st := [.ref x0]) (M2 := r11.2) (r1 := (some (.int r11.1))) (pc' := 117) O dX2_readDay_114 tw_366 tw_60 tw_365 tw_364 hyX0_numberOf rfl (okX0_numberOf er11) (Nat.le_of_ble_eq_true rfl) ⟨Nat.le_of_ble_eq_true rfl, Nat.le_of_ble_eq_true rfl⟩ ⟨Nat.le_of_ble_eq_true rfl, Nat.le_of_ble_eq_true rfl⟩ rfl ?_
          show G κ mX2_readDay 0 0 117 [(4, .int v8), (3, .int v6), (2, .int v4), (0, .ref x0), (1, .ref x1)] [.int r11.1, .ref x0] r11.2
          refine g_i2l (pc' := 118) O dX2_readDay_117 rfl ?_
          replace h := ob h; obtain ⟨M12, eM12, h⟩ := h
          refine g_putF (C := RX2) (T := TX2) (N := 9) (ci := 1) (k := 5) (pc' := 121) O dX2_readDay_118 rfl inX2 (by decide) tw_151 tyX2 tyX2_ok nmX2 rfl rfl rfl rfl eM12 rfl ?_
          refine g_goto (pc' := 148) O dX2_readDay_121 (by decide) ?_
          refine g_sub (lv' := []) [] rfl ?_
          exact tX2_readDay_148 O hf h
    · replace h := ine hc h
      refine g_iload_n (pc' := 40) 2 O dX2_readDay_39 rfl rfl rfl ?_
      refine g_if_le (tgt := 51) (pc' := 43) O dX2_readDay_40 (by decide) rfl (fun hc => ?_) (fun hc => ?_)
      · replace h := ip hc h
        exact tX2_readDay_51 O hf ih h
      · replace h := ine hc h
        refine g_aload_n (pc' := 44) 0 O dX2_readDay_43 rfl rfl rfl ?_
        refine g_aload_n (pc' := 45) 1 O dX2_readDay_44 rfl rfl rfl ?_
        replace h := ob h; obtain ⟨u13, eu13, h⟩ := h
        replace h := ob h; obtain ⟨r14, er14, h⟩ := h
        refine g_callV (y := yX1_signOfDays) (ν := mX1_signOfDays) (n := 0) (As := []) (b := x1) (st := [.ref x0]) (M2 := r14.2) (r1 := (some (.int r14.1))) (pc' := 48) O dX2_readDay_45 tw_320 tw_59 tw_318 tw_319 tw_317 hyX1_signOfDays rfl rfl eu13 (okX1_signOfDays er14) (Nat.le_of_ble_eq_true rfl) ⟨Nat.le_of_ble_eq_true rfl, Nat.le_of_ble_eq_true rfl⟩ ⟨Nat.le_of_ble_eq_true rfl, Nat.le_of_ble_eq_true rfl⟩ rfl ?_
        show G κ mX2_readDay 0 0 48 [(0, .ref x0), (1, .ref x1), (2, .int x2)] [.int r14.1, .ref x0] r14.2
        replace h := ob h; obtain ⟨u15, eu15, h⟩ := h
        replace h := ob h; obtain ⟨r16, er16, h⟩ := h
        refine g_callV (y := yX2_need) (ν := mX2_need) (n := 1) (As := [.int r14.1]) (b := x0) (st := []) (M2 := r16) (r1 := none) (pc' := 51) O dX2_readDay_48 tw_324 tw_57 tw_323 tw_2 tw_321 hyX2_need rfl rfl eu15 (okX2_need er16) (Nat.le_of_ble_eq_true rfl) ⟨Nat.le_of_ble_eq_true rfl, Nat.le_of_ble_eq_true rfl⟩ ⟨Nat.le_of_ble_eq_true rfl, Nat.le_of_ble_eq_true rfl⟩ rfl ?_
        show G κ mX2_readDay 0 0 51 [(0, .ref x0), (1, .ref x1), (2, .int x2)] [] r16
        exact tX2_readDay_51 O hf ih h
def fX2_readDay_7  : Nat → Nat → Nat → Int32 → Mem → Option (Mem)
  | 0, _, _, _, _ => none
  | n + 1, x0, x1, x2, M =>
    if (3 : Int32) ≤ x2 then (fX2_readDay_34 FU x0 x1 (0 : Int32) M)
    else ((gN M 1 x0 6).bind fun v1 =>
    (sI M v1 x2 (0 : Int32)).bind fun M2 =>
    (gN M2 1 x0 7).bind fun v3 =>
    (sI M2 v3 x2 (0 : Int32)).bind fun M4 =>
    fX2_readDay_7 n x0 x1 (x2 + (1 : Int32)) M4)
set_option maxHeartbeats 4000000 in
set_option maxRecDepth 100000 in
theorem tX2_readDay_7 {κ : KT} {p : Mem} (O : OkK κ mX2_readDay) (hf : κ.2.2.2.2.2.2.2.2.2.2.2.2.2 = (none, p))  : ∀ (n : Nat) (x0 : Nat) (x1 : Nat) (x2 : Int32) (M : Mem), fX2_readDay_7  n x0 x1 x2 M = some p → G κ mX2_readDay 0 0 7 [(0, .ref x0), (1, .ref x1), (2, .int x2)] [] M := by
  intro n
  induction n with
  | zero => intro x0 x1 x2 M h; cases h
  | succ n ih =>
    intro x0 x1 x2 M h
    rw [fX2_readDay_7] at h
    refine g_iload_n (pc' := 8) 2 O dX2_readDay_7 rfl rfl rfl ?_
    refine g_iconst (v := 3) (pc' := 9) O dX2_readDay_8 (by decide) rfl ?_
    refine g_icmp_ge (tgt := 32) (pc' := 12) O dX2_readDay_9 (by decide) rfl (fun hc => ?_) (fun hc => ?_)
    · replace h := ip hc h
      refine g_iconst (v := 0) (pc' := 33) O dX2_readDay_32 (by decide) rfl ?_
      refine g_istore_n (lv' := [(2, .int (0 : Int32)), (0, .ref x0), (1, .ref x1)]) (pc' := 34) O dX2_readDay_33 rfl (by decide) rfl rfl ?_
      refine g_sub (lv' := [(0, .ref x0), (1, .ref x1), (2, .int (0 : Int32))]) [1, 2, 0] rfl ?_
      exact tX2_readDay_34 O hf FU x0 x1 (0 : Int32) M h
    · replace h := ine hc h
      refine g_aload_n (pc' := 13) 0 O dX2_readDay_12 rfl rfl rfl ?_
      replace h := ob h; obtain ⟨v1, ev1, h⟩ := h
      refine g_getF (C := RX2) (T := TX2) (N := 9) (ci := 1) (k := 6) (pc' := 16) O dX2_readDay_13 rfl inX2 (by decide) tw_153 (gN_F ev1) rfl ?_
      refine g_iload_n (pc' := 17) 2 O dX2_readDay_16 rfl rfl rfl ?_
      refine g_iconst (v := 0) (pc' := 18) O dX2_readDay_17 (by decide) rfl ?_
      replace h := ob h; obtain ⟨M2, eM2, h⟩ := h
      refine g_iast (pc' := 19) O dX2_readDay_18 eM2 rfl ?_
      refine g_aload_n (pc' := 20) 0 O dX2_readDay_19 rfl rfl rfl ?_
      replace h := ob h; obtain ⟨v3, ev3, h⟩ := h
      refine g_getF (C := RX2) (T := TX2) (N := 9) (ci := 1) (k := 7) (pc' := 23) O dX2_readDay_20 rfl inX2 (by decide) tw_154 (gN_F ev3) rfl ?_
      refine g_iload_n (pc' := 24) 2 O dX2_readDay_23 rfl rfl rfl ?_
      refine g_iconst (v := 0) (pc' := 25) O dX2_readDay_24 (by decide) rfl ?_
      replace h := ob h; obtain ⟨M4, eM4, h⟩ := h
      refine g_iast (pc' := 26) O dX2_readDay_25 eM4 rfl ?_
      refine g_iinc (q := 2) (v := x2 + (1 : Int32)) (lv' := [(2, .int (x2 + (1 : Int32))), (0, .ref x0), (1, .ref x1)]) (pc' := 29) O dX2_readDay_26 rfl rfl (by decide) rfl rfl ?_
      refine g_goto (pc' := 7) O dX2_readDay_29 (by decide) ?_
      refine g_sub (lv' := [(0, .ref x0), (1, .ref x1), (2, .int (x2 + (1 : Int32)))]) [1, 2, 0] rfl ?_
      exact ih x0 x1 (x2 + (1 : Int32)) M4 h
def fX2_readDay  (this : Nat) (p0 : Nat) (M : Mem) : Option (Mem) :=
  (pF M 1 this 8 (.int (-1 : Int32))).bind fun M1 =>
  fX2_readDay_7 FU this p0 (0 : Int32) M1
set_option maxHeartbeats 4000000 in
set_option maxRecDepth 100000 in
theorem okX2_readDay {l : Launch} {p : Mem} {this : Nat} {p0 : Nat} {M : Mem} (h : fX2_readDay this p0 M = some p) : Cn l yX2_readDay mX2_readDay [.ref this, .ref p0] M none p := by
  refine Cn.of [(0, .ref this), (1, .ref p0)] (by decide) rfl rfl (Nat.le_of_ble_eq_true rfl) rfl (fun κ _ hf O => ?_)
  unfold fX2_readDay at h
  refine g_aload_n (pc' := 1) 0 O dX2_readDay_0 rfl rfl rfl ?_
  refine g_iconst (v := -1) (pc' := 2) O dX2_readDay_1 (by decide) rfl ?_
  replace h := ob h; obtain ⟨M1, eM1, h⟩ := h
  refine g_putF (C := RX2) (T := TX2) (N := 9) (ci := 1) (k := 8) (pc' := 5) O dX2_readDay_2 rfl inX2 (by decide) tw_155 tyX2 tyX2_ok nmX2 rfl rfl rfl rfl eM1 rfl ?_
  refine g_iconst (v := 0) (pc' := 6) O dX2_readDay_5 (by decide) rfl ?_
  refine g_istore_n (lv' := [(2, .int (0 : Int32)), (0, .ref this), (1, .ref p0)]) (pc' := 7) O dX2_readDay_6 rfl (by decide) rfl rfl ?_
  refine g_sub (lv' := [(0, .ref this), (1, .ref p0), (2, .int (0 : Int32))]) [1, 2, 0] rfl ?_
  exact tX2_readDay_7 O hf FU this p0 (0 : Int32) M1 h
abbrev mX2_needMark : MD := (cX2_needMark, 3, RX2, none, { frames := 2, cells := 0, slots := 0, locals := 42 }, "needMark")
theorem hyX2_needMark : yX2_needMark.cls ≠ "java/lang/invoke/MethodHandle" ∧ yX2_needMark.cls ≠ "java/lang/invoke/VarHandle" ∧ (parseMethodDescriptor yX2_needMark.desc).map (fun d => d.parameters.length) = some 1 := by decide +kernel
def fX2_needMark_2  : Nat → Nat → Nat → Int32 → Mem → Option (Mem)
  | 0, _, _, _, _ => none
  | n + 1, x0, x1, x2, M =>
    if (3 : Int32) ≤ x2 then (some M)
    else ((ck M 0 x1).bind fun u1 =>
    (fX1_markByte x1 x2 M).bind fun r2 =>
    (ck r2.2 1 x0).bind fun u3 =>
    (fX2_need x0 r2.1 r2.2).bind fun r4 =>
    fX2_needMark_2 n x0 x1 (x2 + (1 : Int32)) r4)
set_option maxHeartbeats 4000000 in
set_option maxRecDepth 100000 in
theorem tX2_needMark_2 {κ : KT} {p : Mem} (O : OkK κ mX2_needMark) (hf : κ.2.2.2.2.2.2.2.2.2.2.2.2.2 = (none, p))  : ∀ (n : Nat) (x0 : Nat) (x1 : Nat) (x2 : Int32) (M : Mem), fX2_needMark_2  n x0 x1 x2 M = some p → G κ mX2_needMark 0 0 2 [(0, .ref x0), (1, .ref x1), (2, .int x2)] [] M := by
  intro n
  induction n with
  | zero => intro x0 x1 x2 M h; cases h
  | succ n ih =>
    intro x0 x1 x2 M h
    rw [fX2_needMark_2] at h
    refine g_iload_n (pc' := 3) 2 O dX2_needMark_2 rfl rfl rfl ?_
    refine g_iconst (v := 3) (pc' := 4) O dX2_needMark_3 (by decide) rfl ?_
    refine g_icmp_ge (tgt := 22) (pc' := 7) O dX2_needMark_4 (by decide) rfl (fun hc => ?_) (fun hc => ?_)
    · replace h := ip hc h
      cases h
      exact g_vreturn O dX2_needMark_22 rfl hf (by decide) (by decide)
    · replace h := ine hc h
      refine g_aload_n (pc' := 8) 0 O dX2_needMark_7 rfl rfl rfl ?_
      refine g_aload_n (pc' := 9) 1 O dX2_needMark_8 rfl rfl rfl ?_
      refine g_iload_n (pc' := 10) 2 O dX2_needMark_9 rfl rfl rfl ?_
      replace h := ob h; obtain ⟨u1, eu1, h⟩ := h
      replace h := ob h; obtain ⟨r2, er2, h⟩ := h
      refine g_callV (y := yX1_markByte) (ν := mX1_markByte) (n := 1) (As := [.int x2]) (b := x1) (st := [.ref x0]) (M2 := r2.2) (r1 := (some (.int r2.1))) (pc' := 13) O dX2_needMark_10 tw_399 tw_59 tw_397 tw_398 tw_396 hyX1_markByte rfl rfl eu1 (okX1_markByte er2) (Nat.le_of_ble_eq_true rfl) ⟨Nat.le_of_ble_eq_true rfl, Nat.le_of_ble_eq_true rfl⟩ ⟨Nat.le_of_ble_eq_true rfl, Nat.le_of_ble_eq_true rfl⟩ rfl ?_
      show G κ mX2_needMark 0 0 13 [(0, .ref x0), (1, .ref x1), (2, .int x2)] [.int r2.1, .ref x0] r2.2
      replace h := ob h; obtain ⟨u3, eu3, h⟩ := h
      replace h := ob h; obtain ⟨r4, er4, h⟩ := h
      refine g_callV (y := yX2_need) (ν := mX2_need) (n := 1) (As := [.int r2.1]) (b := x0) (st := []) (M2 := r4) (r1 := none) (pc' := 16) O dX2_needMark_13 tw_324 tw_57 tw_323 tw_2 tw_321 hyX2_need rfl rfl eu3 (okX2_need er4) (Nat.le_of_ble_eq_true rfl) ⟨Nat.le_of_ble_eq_true rfl, Nat.le_of_ble_eq_true rfl⟩ ⟨Nat.le_of_ble_eq_true rfl, Nat.le_of_ble_eq_true rfl⟩ rfl ?_
      show G κ mX2_needMark 0 0 16 [(0, .ref x0), (1, .ref x1), (2, .int x2)] [] r4
      refine g_iinc (q := 2) (v := x2 + (1 : Int32)) (lv' := [(2, .int (x2 + (1 : Int32))), (0, .ref x0), (1, .ref x1)]) (pc' := 19) O dX2_needMark_16 rfl rfl (by decide) rfl rfl ?_
      refine g_goto (pc' := 2) O dX2_needMark_19 (by decide) ?_
      refine g_sub (lv' := [(0, .ref x0), (1, .ref x1), (2, .int (x2 + (1 : Int32)))]) [1, 2, 0] rfl ?_
      exact ih x0 x1 (x2 + (1 : Int32)) r4 h
def fX2_needMark  (this : Nat) (p0 : Nat) (M : Mem) : Option (Mem) :=
  fX2_needMark_2 FU this p0 (0 : Int32) M
set_option maxHeartbeats 4000000 in
set_option maxRecDepth 100000 in
theorem okX2_needMark {l : Launch} {p : Mem} {this : Nat} {p0 : Nat} {M : Mem} (h : fX2_needMark this p0 M = some p) : Cn l yX2_needMark mX2_needMark [.ref this, .ref p0] M none p := by
  refine Cn.of [(0, .ref this), (1, .ref p0)] (by decide) rfl rfl (Nat.le_of_ble_eq_true rfl) rfl (fun κ _ hf O => ?_)
  unfold fX2_needMark at h
  refine g_iconst (v := 0) (pc' := 1) O dX2_needMark_0 (by decide) rfl ?_
  refine g_istore_n (lv' := [(2, .int (0 : Int32)), (0, .ref this), (1, .ref p0)]) (pc' := 2) O dX2_needMark_1 rfl (by decide) rfl rfl ?_
  refine g_sub (lv' := [(0, .ref this), (1, .ref p0), (2, .int (0 : Int32))]) [1, 2, 0] rfl ?_
  exact tX2_needMark_2 O hf FU this p0 (0 : Int32) M h
abbrev mX2_needFirstDigits : MD := (cX2_needFirstDigits, 2, RX2, (some .int), { frames := 2, cells := 0, slots := 0, locals := 42 }, "needFirstDigits")
theorem hyX2_needFirstDigits : yX2_needFirstDigits.cls ≠ "java/lang/invoke/MethodHandle" ∧ yX2_needFirstDigits.cls ≠ "java/lang/invoke/VarHandle" ∧ (parseMethodDescriptor yX2_needFirstDigits.desc).map (fun d => d.parameters.length) = some 0 := by decide +kernel
def fX2_needFirstDigits_28  (x1 : Int32) (M : Mem) : Option (Int32 × Mem) :=
  some (x1, M)
set_option maxHeartbeats 4000000 in
set_option maxRecDepth 100000 in
theorem tX2_needFirstDigits_28 {κ : KT} {p : Int32 × Mem} (O : OkK κ mX2_needFirstDigits) (hf : κ.2.2.2.2.2.2.2.2.2.2.2.2.2 = (some (.int p.1), p.2))  {x1 : Int32} {M : Mem} (h : fX2_needFirstDigits_28  x1 M = some p) : G κ mX2_needFirstDigits 0 0 28 [(1, .int x1)] [] M := by
  unfold fX2_needFirstDigits_28 at h
  refine g_iload_n (pc' := 29) 0 O dX2_needFirstDigits_28 rfl rfl rfl ?_
  cases h
  exact g_ireturn O dX2_needFirstDigits_29 rfl rfl hf (by decide) (by decide)
def fX2_needFirstDigits_19  (x0 : Nat) (s0 : Int32) (M : Mem) : Option (Int32 × Mem) :=
  if s0 = 0 then ((ck M 1 x0).bind fun u1 =>
  (fX2_lack x0 M).bind fun r2 =>
  fX2_needFirstDigits_28 s0 r2)
  else (fX2_needFirstDigits_28 s0 M)
set_option maxHeartbeats 4000000 in
set_option maxRecDepth 100000 in
theorem tX2_needFirstDigits_19 {κ : KT} {p : Int32 × Mem} (O : OkK κ mX2_needFirstDigits) (hf : κ.2.2.2.2.2.2.2.2.2.2.2.2.2 = (some (.int p.1), p.2))  {x0 : Nat} {s0 : Int32} {M : Mem} (h : fX2_needFirstDigits_19  x0 s0 M = some p) : G κ mX2_needFirstDigits 0 0 19 [(0, .ref x0)] [.int s0] M := by
  unfold fX2_needFirstDigits_19 at h
  refine g_istore_n (lv' := [(1, .int s0), (0, .ref x0)]) (pc' := 20) O dX2_needFirstDigits_19 rfl (by decide) rfl rfl ?_
  refine g_iload_n (pc' := 21) 0 O dX2_needFirstDigits_20 rfl rfl rfl ?_
  refine g_if_ne (tgt := 28) (pc' := 24) O dX2_needFirstDigits_21 (by decide) rfl (fun hc => ?_) (fun hc => ?_)
  · replace h := ine hc h
    refine g_sub (lv' := [(1, .int s0)]) [0] rfl ?_
    exact tX2_needFirstDigits_28 O hf h
  · replace h := ip hc h
    refine g_aload_n (pc' := 25) 1 O dX2_needFirstDigits_24 rfl rfl rfl ?_
    replace h := ob h; obtain ⟨u1, eu1, h⟩ := h
    replace h := ob h; obtain ⟨r2, er2, h⟩ := h
    refine g_callV (y := yX2_lack) (ν := mX2_lack) (n := 0) (As := []) (b := x0) (st := []) (M2 := r2) (r1 := none) (pc' := 28) O dX2_needFirstDigits_25 tw_332 tw_57 tw_331 tw_4 tw_329 hyX2_lack rfl rfl eu1 (okX2_lack er2) (Nat.le_of_ble_eq_true rfl) ⟨Nat.le_of_ble_eq_true rfl, Nat.le_of_ble_eq_true rfl⟩ ⟨Nat.le_of_ble_eq_true rfl, Nat.le_of_ble_eq_true rfl⟩ rfl ?_
    show G κ mX2_needFirstDigits 0 0 28 [(1, .int s0), (0, .ref x0)] [] r2
    refine g_sub (lv' := [(1, .int s0)]) [0] rfl ?_
    exact tX2_needFirstDigits_28 O hf h
def fX2_needFirstDigits  (this : Nat) (M : Mem) : Option (Int32 × Mem) :=
  (ck M 1 this).bind fun u1 =>
  (fX2_passes this (48 : Int32) M).bind fun r2 =>
  if r2.1 = 0 then ((ck r2.2 1 this).bind fun u3 =>
  (fX2_passDigits this (9 : Int32) r2.2).bind fun r4 =>
  fX2_needFirstDigits_19 this r4.1 r4.2)
  else (fX2_needFirstDigits_19 this (1 : Int32) r2.2)
set_option maxHeartbeats 4000000 in
set_option maxRecDepth 100000 in
theorem okX2_needFirstDigits {l : Launch} {p : Int32 × Mem} {this : Nat} {M : Mem} (h : fX2_needFirstDigits this M = some p) : Cn l yX2_needFirstDigits mX2_needFirstDigits [.ref this] M (some (.int p.1)) p.2 := by
  refine Cn.of [(0, .ref this)] (by decide) rfl rfl (Nat.le_of_ble_eq_true rfl) rfl (fun κ _ hf O => ?_)
  unfold fX2_needFirstDigits at h
  refine g_aload_n (pc' := 1) 0 O dX2_needFirstDigits_0 rfl rfl rfl ?_
  refine g_bipush (v := 48) (pc' := 3) O dX2_needFirstDigits_1 (by decide) rfl ?_
  replace h := ob h; obtain ⟨u1, eu1, h⟩ := h
  replace h := ob h; obtain ⟨r2, er2, h⟩ := h
  refine g_callV (y := yX2_passes) (ν := mX2_passes) (n := 1) (As := [.int (48 : Int32)]) (b := this) (st := []) (M2 := r2.2) (r1 := (some (.int r2.1))) (pc' := 6) O dX2_needFirstDigits_3 tw_328 tw_57 tw_327 tw_3 tw_325 hyX2_passes rfl rfl eu1 (okX2_passes er2) (Nat.le_of_ble_eq_true rfl) ⟨Nat.le_of_ble_eq_true rfl, Nat.le_of_ble_eq_true rfl⟩ ⟨Nat.le_of_ble_eq_true rfl, Nat.le_of_ble_eq_true rfl⟩ rfl ?_
  show G κ mX2_needFirstDigits 0 0 6 [(0, .ref this)] [.int r2.1] r2.2
  refine g_if_eq (tgt := 13) (pc' := 9) O dX2_needFirstDigits_6 (by decide) rfl (fun hc => ?_) (fun hc => ?_)
  · replace h := ip hc h
    refine g_aload_n (pc' := 14) 0 O dX2_needFirstDigits_13 rfl rfl rfl ?_
    refine g_bipush (v := 9) (pc' := 16) O dX2_needFirstDigits_14 (by decide) rfl ?_
    replace h := ob h; obtain ⟨u3, eu3, h⟩ := h
    replace h := ob h; obtain ⟨r4, er4, h⟩ := h
    refine g_callV (y := yX2_passDigits) (ν := mX2_passDigits) (n := 1) (As := [.int (9 : Int32)]) (b := this) (st := []) (M2 := r4.2) (r1 := (some (.int r4.1))) (pc' := 19) O dX2_needFirstDigits_16 tw_344 tw_57 tw_343 tw_6 tw_341 hyX2_passDigits rfl rfl eu3 (okX2_passDigits er4) (Nat.le_of_ble_eq_true rfl) ⟨Nat.le_of_ble_eq_true rfl, Nat.le_of_ble_eq_true rfl⟩ ⟨Nat.le_of_ble_eq_true rfl, Nat.le_of_ble_eq_true rfl⟩ rfl ?_
    show G κ mX2_needFirstDigits 0 0 19 [(0, .ref this)] [.int r4.1] r4.2
    exact tX2_needFirstDigits_19 O hf h
  · replace h := ine hc h
    refine g_iconst (v := 1) (pc' := 10) O dX2_needFirstDigits_9 (by decide) rfl ?_
    refine g_goto (pc' := 19) O dX2_needFirstDigits_10 (by decide) ?_
    exact tX2_needFirstDigits_19 O hf h
abbrev mX2_isGroupNext : MD := (cX2_isGroupNext, 2, RX2, (some .boolean), { frames := 1, cells := 0, slots := 0, locals := 20 }, "isGroupNext")
theorem hyX2_isGroupNext : yX2_isGroupNext.cls ≠ "java/lang/invoke/MethodHandle" ∧ yX2_isGroupNext.cls ≠ "java/lang/invoke/VarHandle" ∧ (parseMethodDescriptor yX2_isGroupNext.desc).map (fun d => d.parameters.length) = some 1 := by decide +kernel
def fX2_isGroupNext_66  (s0 : Int32) (M : Mem) : Option (Int32 × Mem) :=
  (nz s0).bind fun z1 =>
  some (z1, M)
set_option maxHeartbeats 4000000 in
set_option maxRecDepth 100000 in
theorem tX2_isGroupNext_66 {κ : KT} {p : Int32 × Mem} (O : OkK κ mX2_isGroupNext) (hf : κ.2.2.2.2.2.2.2.2.2.2.2.2.2 = (some (.int p.1), p.2))  {s0 : Int32} {M : Mem} (h : fX2_isGroupNext_66  s0 M = some p) : G κ mX2_isGroupNext 0 0 66 [] [.int s0] M := by
  unfold fX2_isGroupNext_66 at h
  replace h := ob h; obtain ⟨z1, ez1, h⟩ := h
  obtain ⟨hz1, ez1b⟩ := nz_spec ez1
  rw [ez1b] at h
  cases h
  exact g_ireturn O dX2_isGroupNext_66 rfl (nz_nar hz1) hf (by decide) (by decide)
def fX2_isGroupNext_65  (M : Mem) : Option (Int32 × Mem) :=
  fX2_isGroupNext_66 (0 : Int32) M
set_option maxHeartbeats 4000000 in
set_option maxRecDepth 100000 in
theorem tX2_isGroupNext_65 {κ : KT} {p : Int32 × Mem} (O : OkK κ mX2_isGroupNext) (hf : κ.2.2.2.2.2.2.2.2.2.2.2.2.2 = (some (.int p.1), p.2))  {M : Mem} (h : fX2_isGroupNext_65  M = some p) : G κ mX2_isGroupNext 0 0 65 [] [] M := by
  unfold fX2_isGroupNext_65 at h
  refine g_iconst (v := 0) (pc' := 66) O dX2_isGroupNext_65 (by decide) rfl ?_
  exact tX2_isGroupNext_66 O hf h
def fX2_isGroupNext_61  (M : Mem) : Option (Int32 × Mem) :=
  fX2_isGroupNext_66 (1 : Int32) M
set_option maxHeartbeats 4000000 in
set_option maxRecDepth 100000 in
theorem tX2_isGroupNext_61 {κ : KT} {p : Int32 × Mem} (O : OkK κ mX2_isGroupNext) (hf : κ.2.2.2.2.2.2.2.2.2.2.2.2.2 = (some (.int p.1), p.2))  {M : Mem} (h : fX2_isGroupNext_61  M = some p) : G κ mX2_isGroupNext 0 0 61 [] [] M := by
  unfold fX2_isGroupNext_61 at h
  refine g_iconst (v := 1) (pc' := 62) O dX2_isGroupNext_61 (by decide) rfl ?_
  refine g_goto (pc' := 66) O dX2_isGroupNext_62 (by decide) ?_
  exact tX2_isGroupNext_66 O hf h
def fX2_isGroupNext  (this : Nat) (p0 : Int32) (M : Mem) : Option (Int32 × Mem) :=
  (gI M 1 this 3).bind fun v1 =>
  if v1 = 0 then ((gI M 1 this 1).bind fun v2 =>
  (gI M 1 this 2).bind fun v3 =>
  if v3 ≤ v2 then (fX2_isGroupNext_65 M)
  else ((gN M 1 this 0).bind fun v4 =>
  (gI M 1 this 1).bind fun v5 =>
  (aI M v4 v5).bind fun v6 =>
  if v6 = p0 then ((gI M 1 this 1).bind fun v7 =>
  (gI M 1 this 2).bind fun v8 =>
  if v8 ≤ (v7 + (1 : Int32)) then (fX2_isGroupNext_61 M)
  else ((gN M 1 this 0).bind fun v9 =>
  (gI M 1 this 1).bind fun v10 =>
  (aI M v9 (v10 + (1 : Int32))).bind fun v11 =>
  (fX7_isDigit v11 M).bind fun r12 =>
  if r12.1 = 0 then (fX2_isGroupNext_65 r12.2)
  else (fX2_isGroupNext_61 r12.2)))
  else (fX2_isGroupNext_65 M)))
  else (fX2_isGroupNext_65 M)
set_option maxHeartbeats 4000000 in
set_option maxRecDepth 100000 in
theorem okX2_isGroupNext {l : Launch} {p : Int32 × Mem} {this : Nat} {p0 : Int32} {M : Mem} (h : fX2_isGroupNext this p0 M = some p) : Cn l yX2_isGroupNext mX2_isGroupNext [.ref this, .int p0] M (some (.int p.1)) p.2 := by
  refine Cn.of [(0, .ref this), (1, .int p0)] (by decide) rfl rfl (Nat.le_of_ble_eq_true rfl) rfl (fun κ _ hf O => ?_)
  unfold fX2_isGroupNext at h
  refine g_aload_n (pc' := 1) 0 O dX2_isGroupNext_0 rfl rfl rfl ?_
  replace h := ob h; obtain ⟨v1, ev1, h⟩ := h
  refine g_getF (C := RX2) (T := TX2) (N := 9) (ci := 1) (k := 3) (pc' := 4) O dX2_isGroupNext_1 rfl inX2 (by decide) tw_149 (gI_F ev1) rfl ?_
  refine g_if_ne (tgt := 65) (pc' := 7) O dX2_isGroupNext_4 (by decide) rfl (fun hc => ?_) (fun hc => ?_)
  · replace h := ine hc h
    refine g_sub (lv' := []) [] rfl ?_
    exact tX2_isGroupNext_65 O hf h
  · replace h := ip hc h
    refine g_aload_n (pc' := 8) 0 O dX2_isGroupNext_7 rfl rfl rfl ?_
    replace h := ob h; obtain ⟨v2, ev2, h⟩ := h
    refine g_getF (C := RX2) (T := TX2) (N := 9) (ci := 1) (k := 1) (pc' := 11) O dX2_isGroupNext_8 rfl inX2 (by decide) tw_147 (gI_F ev2) rfl ?_
    refine g_aload_n (pc' := 12) 0 O dX2_isGroupNext_11 rfl rfl rfl ?_
    replace h := ob h; obtain ⟨v3, ev3, h⟩ := h
    refine g_getF (C := RX2) (T := TX2) (N := 9) (ci := 1) (k := 2) (pc' := 15) O dX2_isGroupNext_12 rfl inX2 (by decide) tw_148 (gI_F ev3) rfl ?_
    refine g_icmp_ge (tgt := 65) (pc' := 18) O dX2_isGroupNext_15 (by decide) rfl (fun hc => ?_) (fun hc => ?_)
    · replace h := ip hc h
      refine g_sub (lv' := []) [] rfl ?_
      exact tX2_isGroupNext_65 O hf h
    · replace h := ine hc h
      refine g_aload_n (pc' := 19) 0 O dX2_isGroupNext_18 rfl rfl rfl ?_
      replace h := ob h; obtain ⟨v4, ev4, h⟩ := h
      refine g_getF (C := RX2) (T := TX2) (N := 9) (ci := 1) (k := 0) (pc' := 22) O dX2_isGroupNext_19 rfl inX2 (by decide) tw_146 (gN_F ev4) rfl ?_
      refine g_aload_n (pc' := 23) 0 O dX2_isGroupNext_22 rfl rfl rfl ?_
      replace h := ob h; obtain ⟨v5, ev5, h⟩ := h
      refine g_getF (C := RX2) (T := TX2) (N := 9) (ci := 1) (k := 1) (pc' := 26) O dX2_isGroupNext_23 rfl inX2 (by decide) tw_147 (gI_F ev5) rfl ?_
      replace h := ob h; obtain ⟨v6, ev6, h⟩ := h
      refine g_iald (pc' := 27) O dX2_isGroupNext_26 ev6 rfl ?_
      refine g_iload_n (pc' := 28) 1 O dX2_isGroupNext_27 rfl rfl rfl ?_
      refine g_icmp_ne (tgt := 65) (pc' := 31) O dX2_isGroupNext_28 (by decide) rfl (fun hc => ?_) (fun hc => ?_)
      · replace h := ine hc h
        refine g_sub (lv' := []) [] rfl ?_
        exact tX2_isGroupNext_65 O hf h
      · replace h := ip hc h
        refine g_aload_n (pc' := 32) 0 O dX2_isGroupNext_31 rfl rfl rfl ?_
        replace h := ob h; obtain ⟨v7, ev7, h⟩ := h
        refine g_getF (C := RX2) (T := TX2) (N := 9) (ci := 1) (k := 1) (pc' := 35) O dX2_isGroupNext_32 rfl inX2 (by decide) tw_147 (gI_F ev7) rfl ?_
        refine g_iconst (v := 1) (pc' := 36) O dX2_isGroupNext_35 (by decide) rfl ?_
        refine g_iadd (pc' := 37) O dX2_isGroupNext_36 rfl ?_
        refine g_aload_n (pc' := 38) 0 O dX2_isGroupNext_37 rfl rfl rfl ?_
        replace h := ob h; obtain ⟨v8, ev8, h⟩ := h
        refine g_getF (C := RX2) (T := TX2) (N := 9) (ci := 1) (k := 2) (pc' := 41) O dX2_isGroupNext_38 rfl inX2 (by decide) tw_148 (gI_F ev8) rfl ?_
        refine g_icmp_ge (tgt := 61) (pc' := 44) O dX2_isGroupNext_41 (by decide) rfl (fun hc => ?_) (fun hc => ?_)
        · replace h := ip hc h
          refine g_sub (lv' := []) [] rfl ?_
          exact tX2_isGroupNext_61 O hf h
        · replace h := ine hc h
          refine g_aload_n (pc' := 45) 0 O dX2_isGroupNext_44 rfl rfl rfl ?_
          replace h := ob h; obtain ⟨v9, ev9, h⟩ := h
          refine g_getF (C := RX2) (T := TX2) (N := 9) (ci := 1) (k := 0) (pc' := 48) O dX2_isGroupNext_45 rfl inX2 (by decide) tw_146 (gN_F ev9) rfl ?_
          refine g_aload_n (pc' := 49) 0 O dX2_isGroupNext_48 rfl rfl rfl ?_
          replace h := ob h; obtain ⟨v10, ev10, h⟩ := h
          refine g_getF (C := RX2) (T := TX2) (N := 9) (ci := 1) (k := 1) (pc' := 52) O dX2_isGroupNext_49 rfl inX2 (by decide) tw_147 (gI_F ev10) rfl ?_
          refine g_iconst (v := 1) (pc' := 53) O dX2_isGroupNext_52 (by decide) rfl ?_
          refine g_iadd (pc' := 54) O dX2_isGroupNext_53 rfl ?_
          replace h := ob h; obtain ⟨v11, ev11, h⟩ := h
          refine g_iald (pc' := 55) O dX2_isGroupNext_54 ev11 rfl ?_
          replace h := ob h; obtain ⟨r12, er12, h⟩ := h
          refine g_callSN (y := yX7_isDigit) (ν := mX7_isDigit) (n := 1) (As := [.int v11]) (b := 0) (st := []) (M2 := r12.2) (r1 := (some (.int r12.1))) (pc' := 58) O dX2_isGroupNext_55 tw_347 tw_53 tw_346 (by decide) hyX7_isDigit rfl (okX7_isDigit er12) (Nat.le_of_ble_eq_true rfl) ⟨Nat.le_of_ble_eq_true rfl, Nat.le_of_ble_eq_true rfl⟩ ⟨Nat.le_of_ble_eq_true rfl, Nat.le_of_ble_eq_true rfl⟩ rfl ?_
          show G κ mX2_isGroupNext 0 0 58 [(0, .ref this), (1, .int p0)] [.int r12.1] r12.2
          refine g_if_eq (tgt := 65) (pc' := 61) O dX2_isGroupNext_58 (by decide) rfl (fun hc => ?_) (fun hc => ?_)
          · replace h := ip hc h
            refine g_sub (lv' := []) [] rfl ?_
            exact tX2_isGroupNext_65 O hf h
          · replace h := ine hc h
            refine g_sub (lv' := []) [] rfl ?_
            exact tX2_isGroupNext_61 O hf h
abbrev mX2_needGroups : MD := (cX2_needGroups, 8, RX2, none, { frames := 2, cells := 0, slots := 0, locals := 42 }, "needGroups")
theorem hyX2_needGroups : yX2_needGroups.cls ≠ "java/lang/invoke/MethodHandle" ∧ yX2_needGroups.cls ≠ "java/lang/invoke/VarHandle" ∧ (parseMethodDescriptor yX2_needGroups.desc).map (fun d => d.parameters.length) = some 2 := by decide +kernel
def fX2_needGroups_149  (M : Mem) : Option (Mem) :=
  some M
set_option maxHeartbeats 4000000 in
set_option maxRecDepth 100000 in
theorem tX2_needGroups_149 {κ : KT} {p : Mem} (O : OkK κ mX2_needGroups) (hf : κ.2.2.2.2.2.2.2.2.2.2.2.2.2 = (none, p))  {M : Mem} (h : fX2_needGroups_149  M = some p) : G κ mX2_needGroups 0 0 149 [] [] M := by
  unfold fX2_needGroups_149 at h
  cases h
  exact g_vreturn O dX2_needGroups_149 rfl hf (by decide) (by decide)
def fX2_needGroups_140  (x0 : Nat) (x5 : Int32) (M : Mem) : Option (Mem) :=
  if x5 = 0 then ((ck M 1 x0).bind fun u1 =>
  (fX2_lack x0 M).bind fun r2 =>
  fX2_needGroups_149 r2)
  else (fX2_needGroups_149 M)
set_option maxHeartbeats 4000000 in
set_option maxRecDepth 100000 in
theorem tX2_needGroups_140 {κ : KT} {p : Mem} (O : OkK κ mX2_needGroups) (hf : κ.2.2.2.2.2.2.2.2.2.2.2.2.2 = (none, p))  {x0 : Nat} {x5 : Int32} {M : Mem} (h : fX2_needGroups_140  x0 x5 M = some p) : G κ mX2_needGroups 0 0 140 [(0, .ref x0), (5, .int x5)] [] M := by
  unfold fX2_needGroups_140 at h
  refine g_iload (pc' := 142) 1 O dX2_needGroups_140 rfl rfl ?_
  refine g_if_ne (tgt := 149) (pc' := 145) O dX2_needGroups_142 (by decide) rfl (fun hc => ?_) (fun hc => ?_)
  · replace h := ine hc h
    refine g_sub (lv' := []) [] rfl ?_
    exact tX2_needGroups_149 O hf h
  · replace h := ip hc h
    refine g_aload_n (pc' := 146) 0 O dX2_needGroups_145 rfl rfl rfl ?_
    replace h := ob h; obtain ⟨u1, eu1, h⟩ := h
    replace h := ob h; obtain ⟨r2, er2, h⟩ := h
    refine g_callV (y := yX2_lack) (ν := mX2_lack) (n := 0) (As := []) (b := x0) (st := []) (M2 := r2) (r1 := none) (pc' := 149) O dX2_needGroups_146 tw_332 tw_57 tw_331 tw_4 tw_329 hyX2_lack rfl rfl eu1 (okX2_lack er2) (Nat.le_of_ble_eq_true rfl) ⟨Nat.le_of_ble_eq_true rfl, Nat.le_of_ble_eq_true rfl⟩ ⟨Nat.le_of_ble_eq_true rfl, Nat.le_of_ble_eq_true rfl⟩ rfl ?_
    show G κ mX2_needGroups 0 0 149 [(0, .ref x0), (5, .int x5)] [] r2
    refine g_sub (lv' := []) [] rfl ?_
    exact tX2_needGroups_149 O hf h
def fX2_needGroups_133 (k58 : Nat → Nat → Int32 → Int32 → Int32 → Int32 → Mem → Option (Mem)) (x0 : Nat) (x1 : Nat) (x4 : Int32) (x5 : Int32) (x6 : Int32) (s0 : Int32) (M : Mem) : Option (Mem) :=
  k58 x0 x1 s0 x4 x5 (x6 + (1 : Int32)) M
set_option maxHeartbeats 4000000 in
set_option maxRecDepth 100000 in
theorem tX2_needGroups_133 {κ : KT} {p : Mem} (O : OkK κ mX2_needGroups) (hf : κ.2.2.2.2.2.2.2.2.2.2.2.2.2 = (none, p)) {k58 : Nat → Nat → Int32 → Int32 → Int32 → Int32 → Mem → Option (Mem)} (hk58 : ∀ (x0 : Nat) (x1 : Nat) (x3 : Int32) (x4 : Int32) (x5 : Int32) (x6 : Int32) (M : Mem), k58 x0 x1 x3 x4 x5 x6 M = some p → G κ mX2_needGroups 0 0 58 [(0, .ref x0), (1, .ref x1), (3, .int x3), (4, .int x4), (5, .int x5), (6, .int x6)] [] M) {x0 : Nat} {x1 : Nat} {x4 : Int32} {x5 : Int32} {x6 : Int32} {s0 : Int32} {M : Mem} (h : fX2_needGroups_133 k58 x0 x1 x4 x5 x6 s0 M = some p) : G κ mX2_needGroups 0 0 133 [(0, .ref x0), (1, .ref x1), (4, .int x4), (5, .int x5), (6, .int x6)] [.int s0] M := by
  unfold fX2_needGroups_133 at h
  refine g_istore_n (lv' := [(3, .int s0), (0, .ref x0), (1, .ref x1), (4, .int x4), (5, .int x5), (6, .int x6)]) (pc' := 134) O dX2_needGroups_133 rfl (by decide) rfl rfl ?_
  refine g_iinc (q := 5) (v := x6 + (1 : Int32)) (lv' := [(6, .int (x6 + (1 : Int32))), (3, .int s0), (0, .ref x0), (1, .ref x1), (4, .int x4), (5, .int x5)]) (pc' := 137) O dX2_needGroups_134 rfl rfl (by decide) rfl rfl ?_
  refine g_goto (pc' := 58) O dX2_needGroups_137 (by decide) ?_
  refine g_sub (lv' := [(0, .ref x0), (1, .ref x1), (3, .int s0), (4, .int x4), (5, .int x5), (6, .int (x6 + (1 : Int32)))]) [2, 3, 1, 4, 5, 0] rfl ?_
  exact hk58 x0 x1 s0 x4 x5 (x6 + (1 : Int32)) M h
def fX2_needGroups_108 (k58 : Nat → Nat → Int32 → Int32 → Int32 → Int32 → Mem → Option (Mem)) (x0 : Nat) (x1 : Nat) (x4 : Int32) (x6 : Int32) (x7 : Int32) (s0 : Int32) (M : Mem) : Option (Mem) :=
  (gI M 0 x1 2).bind fun v1 =>
  if v1 = 0 then (fX2_needGroups_133 k58 x0 x1 x4 s0 x6 s0 M)
  else (if x7 = (2 : Int32) then (fX2_needGroups_133 k58 x0 x1 x4 s0 x6 (1 : Int32) M)
  else (fX2_needGroups_133 k58 x0 x1 x4 s0 x6 (0 : Int32) M))
set_option maxHeartbeats 4000000 in
set_option maxRecDepth 100000 in
theorem tX2_needGroups_108 {κ : KT} {p : Mem} (O : OkK κ mX2_needGroups) (hf : κ.2.2.2.2.2.2.2.2.2.2.2.2.2 = (none, p)) {k58 : Nat → Nat → Int32 → Int32 → Int32 → Int32 → Mem → Option (Mem)} (hk58 : ∀ (x0 : Nat) (x1 : Nat) (x3 : Int32) (x4 : Int32) (x5 : Int32) (x6 : Int32) (M : Mem), k58 x0 x1 x3 x4 x5 x6 M = some p → G κ mX2_needGroups 0 0 58 [(0, .ref x0), (1, .ref x1), (3, .int x3), (4, .int x4), (5, .int x5), (6, .int x6)] [] M) {x0 : Nat} {x1 : Nat} {x4 : Int32} {x6 : Int32} {x7 : Int32} {s0 : Int32} {M : Mem} (h : fX2_needGroups_108 k58 x0 x1 x4 x6 x7 s0 M = some p) : G κ mX2_needGroups 0 0 108 [(0, .ref x0), (1, .ref x1), (4, .int x4), (6, .int x6), (7, .int x7)] [.int s0] M := by
  unfold fX2_needGroups_108 at h
  refine g_istore (lv' := [(5, .int s0), (0, .ref x0), (1, .ref x1), (4, .int x4), (6, .int x6), (7, .int x7)]) (pc' := 110) O dX2_needGroups_108 (by decide) rfl rfl ?_
  refine g_aload_n (pc' := 111) 2 O dX2_needGroups_110 rfl rfl rfl ?_
  replace h := ob h; obtain ⟨v1, ev1, h⟩ := h
  refine g_getF (C := RX1) (T := TX1) (N := 8) (ci := 0) (k := 2) (pc' := 114) O dX2_needGroups_111 rfl inX1 (by decide) tw_219 (gI_F ev1) rfl ?_
  refine g_if_eq (tgt := 131) (pc' := 117) O dX2_needGroups_114 (by decide) rfl (fun hc => ?_) (fun hc => ?_)
  · replace h := ip hc h
    refine g_iload (pc' := 133) 0 O dX2_needGroups_131 rfl rfl ?_
    refine g_sub (lv' := [(0, .ref x0), (1, .ref x1), (4, .int x4), (5, .int s0), (6, .int x6)]) [1, 2, 3, 0, 4] rfl ?_
    exact tX2_needGroups_133 O hf hk58 h
  · replace h := ine hc h
    refine g_iload (pc' := 119) 5 O dX2_needGroups_117 rfl rfl ?_
    refine g_iconst (v := 2) (pc' := 120) O dX2_needGroups_119 (by decide) rfl ?_
    refine g_icmp_ne (tgt := 127) (pc' := 123) O dX2_needGroups_120 (by decide) rfl (fun hc => ?_) (fun hc => ?_)
    · replace h := ine hc h
      refine g_iconst (v := 0) (pc' := 128) O dX2_needGroups_127 (by decide) rfl ?_
      refine g_goto (pc' := 133) O dX2_needGroups_128 (by decide) ?_
      refine g_sub (lv' := [(0, .ref x0), (1, .ref x1), (4, .int x4), (5, .int s0), (6, .int x6)]) [1, 2, 3, 0, 4] rfl ?_
      exact tX2_needGroups_133 O hf hk58 h
    · replace h := ip hc h
      refine g_iconst (v := 1) (pc' := 124) O dX2_needGroups_123 (by decide) rfl ?_
      refine g_goto (pc' := 133) O dX2_needGroups_124 (by decide) ?_
      refine g_sub (lv' := [(0, .ref x0), (1, .ref x1), (4, .int x4), (5, .int s0), (6, .int x6)]) [1, 2, 3, 0, 4] rfl ?_
      exact tX2_needGroups_133 O hf hk58 h
def fX2_needGroups_58  : Nat → Nat → Nat → Int32 → Int32 → Int32 → Int32 → Mem → Option (Mem)
  | 0, _, _, _, _, _, _, _ => none
  | n + 1, x0, x1, x3, x4, x5, x6, M =>
    if x4 ≤ x6 then (fX2_needGroups_140 x0 x5 M)
    else (if x3 = 0 then (fX2_needGroups_140 x0 x5 M)
    else ((gI M 0 x1 1).bind fun v1 =>
    (ck M 1 x0).bind fun u2 =>
    (fX2_isGroupNext x0 v1 M).bind fun r3 =>
    if r3.1 = 0 then (fX2_needGroups_140 x0 x5 r3.2)
    else ((gI r3.2 1 x0 1).bind fun v4 =>
    (pF r3.2 1 x0 1 (.int (v4 + (1 : Int32)))).bind fun M5 =>
    (ck M5 1 x0).bind fun u6 =>
    (fX2_passDigits x0 (3 : Int32) M5).bind fun r7 =>
    if r7.1 = (3 : Int32) then (fX2_needGroups_108 (fX2_needGroups_58 n) x0 x1 x4 x6 r7.1 (1 : Int32) r7.2)
    else (fX2_needGroups_108 (fX2_needGroups_58 n) x0 x1 x4 x6 r7.1 (0 : Int32) r7.2))))
set_option maxHeartbeats 4000000 in
set_option maxRecDepth 100000 in
theorem tX2_needGroups_58 {κ : KT} {p : Mem} (O : OkK κ mX2_needGroups) (hf : κ.2.2.2.2.2.2.2.2.2.2.2.2.2 = (none, p))  : ∀ (n : Nat) (x0 : Nat) (x1 : Nat) (x3 : Int32) (x4 : Int32) (x5 : Int32) (x6 : Int32) (M : Mem), fX2_needGroups_58  n x0 x1 x3 x4 x5 x6 M = some p → G κ mX2_needGroups 0 0 58 [(0, .ref x0), (1, .ref x1), (3, .int x3), (4, .int x4), (5, .int x5), (6, .int x6)] [] M := by
  intro n
  induction n with
  | zero => intro x0 x1 x3 x4 x5 x6 M h; cases h
  | succ n ih =>
    intro x0 x1 x3 x4 x5 x6 M h
    rw [fX2_needGroups_58] at h
    refine g_iload (pc' := 60) 5 O dX2_needGroups_58 rfl rfl ?_
    refine g_iload (pc' := 62) 3 O dX2_needGroups_60 rfl rfl ?_
    refine g_icmp_ge (tgt := 140) (pc' := 65) O dX2_needGroups_62 (by decide) rfl (fun hc => ?_) (fun hc => ?_)
    · replace h := ip hc h
      refine g_sub (lv' := [(0, .ref x0), (5, .int x5)]) [0, 4] rfl ?_
      exact tX2_needGroups_140 O hf h
    · replace h := ine hc h
      refine g_iload_n (pc' := 66) 2 O dX2_needGroups_65 rfl rfl rfl ?_
      refine g_if_eq (tgt := 140) (pc' := 69) O dX2_needGroups_66 (by decide) rfl (fun hc => ?_) (fun hc => ?_)
      · replace h := ip hc h
        refine g_sub (lv' := [(0, .ref x0), (5, .int x5)]) [0, 4] rfl ?_
        exact tX2_needGroups_140 O hf h
      · replace h := ine hc h
        refine g_aload_n (pc' := 70) 0 O dX2_needGroups_69 rfl rfl rfl ?_
        refine g_aload_n (pc' := 71) 1 O dX2_needGroups_70 rfl rfl rfl ?_
        replace h := ob h; obtain ⟨v1, ev1, h⟩ := h
        refine g_getF (C := RX1) (T := TX1) (N := 8) (ci := 0) (k := 1) (pc' := 74) O dX2_needGroups_71 rfl inX1 (by decide) tw_216 (gI_F ev1) rfl ?_
        replace h := ob h; obtain ⟨u2, eu2, h⟩ := h
        replace h := ob h; obtain ⟨r3, er3, h⟩ := h
        refine g_callV (y := yX2_isGroupNext) (ν := mX2_isGroupNext) (n := 1) (As := [.int v1]) (b := x0) (st := []) (M2 := r3.2) (r1 := (some (.int r3.1))) (pc' := 77) O dX2_needGroups_74 tw_412 tw_57 tw_411 tw_15 tw_409 hyX2_isGroupNext rfl rfl eu2 (okX2_isGroupNext er3) (Nat.le_of_ble_eq_true rfl) ⟨Nat.le_of_ble_eq_true rfl, Nat.le_of_ble_eq_true rfl⟩ ⟨Nat.le_of_ble_eq_true rfl, Nat.le_of_ble_eq_true rfl⟩ rfl ?_
        show G κ mX2_needGroups 0 0 77 [(0, .ref x0), (1, .ref x1), (3, .int x3), (4, .int x4), (5, .int x5), (6, .int x6)] [.int r3.1] r3.2
        refine g_if_eq (tgt := 140) (pc' := 80) O dX2_needGroups_77 (by decide) rfl (fun hc => ?_) (fun hc => ?_)
        · replace h := ip hc h
          refine g_sub (lv' := [(0, .ref x0), (5, .int x5)]) [0, 4] rfl ?_
          exact tX2_needGroups_140 O hf h
        · replace h := ine hc h
          refine g_aload_n (pc' := 81) 0 O dX2_needGroups_80 rfl rfl rfl ?_
          refine g_dup (pc' := 82) O dX2_needGroups_81 rfl rfl ?_
          replace h := ob h; obtain ⟨v4, ev4, h⟩ := h
          refine g_getF (C := RX2) (T := TX2) (N := 9) (ci := 1) (k := 1) (pc' := 85) O dX2_needGroups_82 rfl inX2 (by decide) tw_147 (gI_F ev4) rfl ?_
          refine g_iconst (v := 1) (pc' := 86) O dX2_needGroups_85 (by decide) rfl ?_
          refine g_iadd (pc' := 87) O dX2_needGroups_86 rfl ?_
          replace h := ob h; obtain ⟨M5, eM5, h⟩ := h
          refine g_putF (C := RX2) (T := TX2) (N := 9) (ci := 1) (k := 1) (pc' := 90) O dX2_needGroups_87 rfl inX2 (by decide) tw_147 tyX2 tyX2_ok nmX2 rfl rfl rfl rfl eM5 rfl ?_
          refine g_aload_n (pc' := 91) 0 O dX2_needGroups_90 rfl rfl rfl ?_
          refine g_iconst (v := 3) (pc' := 92) O dX2_needGroups_91 (by decide) rfl ?_
          replace h := ob h; obtain ⟨u6, eu6, h⟩ := h
          replace h := ob h; obtain ⟨r7, er7, h⟩ := h
          refine g_callV (y := yX2_passDigits) (ν := mX2_passDigits) (n := 1) (As := [.int (3 : Int32)]) (b := x0) (st := []) (M2 := r7.2) (r1 := (some (.int r7.1))) (pc' := 95) O dX2_needGroups_92 tw_344 tw_57 tw_343 tw_6 tw_341 hyX2_passDigits rfl rfl eu6 (okX2_passDigits er7) (Nat.le_of_ble_eq_true rfl) ⟨Nat.le_of_ble_eq_true rfl, Nat.le_of_ble_eq_true rfl⟩ ⟨Nat.le_of_ble_eq_true rfl, Nat.le_of_ble_eq_true rfl⟩ rfl ?_
          show G κ mX2_needGroups 0 0 95 [(0, .ref x0), (1, .ref x1), (3, .int x3), (4, .int x4), (5, .int x5), (6, .int x6)] [.int r7.1] r7.2
          refine g_istore (lv' := [(7, .int r7.1), (0, .ref x0), (1, .ref x1), (3, .int x3), (4, .int x4), (5, .int x5), (6, .int x6)]) (pc' := 97) O dX2_needGroups_95 (by decide) rfl rfl ?_
          refine g_iload (pc' := 99) 0 O dX2_needGroups_97 rfl rfl ?_
          refine g_iconst (v := 3) (pc' := 100) O dX2_needGroups_99 (by decide) rfl ?_
          refine g_icmp_ne (tgt := 107) (pc' := 103) O dX2_needGroups_100 (by decide) rfl (fun hc => ?_) (fun hc => ?_)
          · replace h := ine hc h
            refine g_iconst (v := 0) (pc' := 108) O dX2_needGroups_107 (by decide) rfl ?_
            refine g_sub (lv' := [(0, .ref x0), (1, .ref x1), (4, .int x4), (6, .int x6), (7, .int r7.1)]) [1, 2, 4, 6, 0] rfl ?_
            exact tX2_needGroups_108 O hf ih h
          · replace h := ip hc h
            refine g_iconst (v := 1) (pc' := 104) O dX2_needGroups_103 (by decide) rfl ?_
            refine g_goto (pc' := 108) O dX2_needGroups_104 (by decide) ?_
            refine g_sub (lv' := [(0, .ref x0), (1, .ref x1), (4, .int x4), (6, .int x6), (7, .int r7.1)]) [1, 2, 4, 6, 0] rfl ?_
            exact tX2_needGroups_108 O hf ih h
def fX2_needGroups_50  (x0 : Nat) (x1 : Nat) (x3 : Int32) (s0 : Int32) (M : Mem) : Option (Mem) :=
  fX2_needGroups_58 FU x0 x1 x3 s0 (1 : Int32) (0 : Int32) M
set_option maxHeartbeats 4000000 in
set_option maxRecDepth 100000 in
theorem tX2_needGroups_50 {κ : KT} {p : Mem} (O : OkK κ mX2_needGroups) (hf : κ.2.2.2.2.2.2.2.2.2.2.2.2.2 = (none, p))  {x0 : Nat} {x1 : Nat} {x3 : Int32} {s0 : Int32} {M : Mem} (h : fX2_needGroups_50  x0 x1 x3 s0 M = some p) : G κ mX2_needGroups 0 0 50 [(0, .ref x0), (1, .ref x1), (3, .int x3)] [.int s0] M := by
  unfold fX2_needGroups_50 at h
  refine g_istore (lv' := [(4, .int s0), (0, .ref x0), (1, .ref x1), (3, .int x3)]) (pc' := 52) O dX2_needGroups_50 (by decide) rfl rfl ?_
  refine g_iconst (v := 1) (pc' := 53) O dX2_needGroups_52 (by decide) rfl ?_
  refine g_istore (lv' := [(5, .int (1 : Int32)), (4, .int s0), (0, .ref x0), (1, .ref x1), (3, .int x3)]) (pc' := 55) O dX2_needGroups_53 (by decide) rfl rfl ?_
  refine g_iconst (v := 0) (pc' := 56) O dX2_needGroups_55 (by decide) rfl ?_
  refine g_istore (lv' := [(6, .int (0 : Int32)), (5, .int (1 : Int32)), (4, .int s0), (0, .ref x0), (1, .ref x1), (3, .int x3)]) (pc' := 58) O dX2_needGroups_56 (by decide) rfl rfl ?_
  refine g_sub (lv' := [(0, .ref x0), (1, .ref x1), (3, .int x3), (4, .int s0), (5, .int (1 : Int32)), (6, .int (0 : Int32))]) [3, 4, 5, 2, 1, 0] rfl ?_
  exact tX2_needGroups_58 O hf FU x0 x1 x3 s0 (1 : Int32) (0 : Int32) M h
def fX2_needGroups_37  (x0 : Nat) (x1 : Nat) (s0 : Int32) (M : Mem) : Option (Mem) :=
  (gI M 0 x1 2).bind fun v1 =>
  if v1 = 0 then (fX2_needGroups_50 x0 x1 s0 (2 : Int32) M)
  else (fX2_needGroups_50 x0 x1 s0 (3 : Int32) M)
set_option maxHeartbeats 4000000 in
set_option maxRecDepth 100000 in
theorem tX2_needGroups_37 {κ : KT} {p : Mem} (O : OkK κ mX2_needGroups) (hf : κ.2.2.2.2.2.2.2.2.2.2.2.2.2 = (none, p))  {x0 : Nat} {x1 : Nat} {s0 : Int32} {M : Mem} (h : fX2_needGroups_37  x0 x1 s0 M = some p) : G κ mX2_needGroups 0 0 37 [(0, .ref x0), (1, .ref x1)] [.int s0] M := by
  unfold fX2_needGroups_37 at h
  refine g_istore_n (lv' := [(3, .int s0), (0, .ref x0), (1, .ref x1)]) (pc' := 38) O dX2_needGroups_37 rfl (by decide) rfl rfl ?_
  refine g_aload_n (pc' := 39) 2 O dX2_needGroups_38 rfl rfl rfl ?_
  replace h := ob h; obtain ⟨v1, ev1, h⟩ := h
  refine g_getF (C := RX1) (T := TX1) (N := 8) (ci := 0) (k := 2) (pc' := 42) O dX2_needGroups_39 rfl inX1 (by decide) tw_219 (gI_F ev1) rfl ?_
  refine g_if_eq (tgt := 49) (pc' := 45) O dX2_needGroups_42 (by decide) rfl (fun hc => ?_) (fun hc => ?_)
  · replace h := ip hc h
    refine g_iconst (v := 2) (pc' := 50) O dX2_needGroups_49 (by decide) rfl ?_
    refine g_sub (lv' := [(0, .ref x0), (1, .ref x1), (3, .int s0)]) [1, 2, 0] rfl ?_
    exact tX2_needGroups_50 O hf h
  · replace h := ine hc h
    refine g_iconst (v := 3) (pc' := 46) O dX2_needGroups_45 (by decide) rfl ?_
    refine g_goto (pc' := 50) O dX2_needGroups_46 (by decide) ?_
    refine g_sub (lv' := [(0, .ref x0), (1, .ref x1), (3, .int s0)]) [1, 2, 0] rfl ?_
    exact tX2_needGroups_50 O hf h
def fX2_needGroups_36  (x0 : Nat) (x1 : Nat) (M : Mem) : Option (Mem) :=
  fX2_needGroups_37 x0 x1 (0 : Int32) M
set_option maxHeartbeats 4000000 in
set_option maxRecDepth 100000 in
theorem tX2_needGroups_36 {κ : KT} {p : Mem} (O : OkK κ mX2_needGroups) (hf : κ.2.2.2.2.2.2.2.2.2.2.2.2.2 = (none, p))  {x0 : Nat} {x1 : Nat} {M : Mem} (h : fX2_needGroups_36  x0 x1 M = some p) : G κ mX2_needGroups 0 0 36 [(0, .ref x0), (1, .ref x1)] [] M := by
  unfold fX2_needGroups_36 at h
  refine g_iconst (v := 0) (pc' := 37) O dX2_needGroups_36 (by decide) rfl ?_
  exact tX2_needGroups_37 O hf h
def fX2_needGroups_29  (x0 : Nat) (x1 : Nat) (s0 : Int32) (s1 : Int32) (M : Mem) : Option (Mem) :=
  if s0 < s1 then (fX2_needGroups_36 x0 x1 M)
  else (fX2_needGroups_37 x0 x1 (1 : Int32) M)
set_option maxHeartbeats 4000000 in
set_option maxRecDepth 100000 in
theorem tX2_needGroups_29 {κ : KT} {p : Mem} (O : OkK κ mX2_needGroups) (hf : κ.2.2.2.2.2.2.2.2.2.2.2.2.2 = (none, p))  {x0 : Nat} {x1 : Nat} {s0 : Int32} {s1 : Int32} {M : Mem} (h : fX2_needGroups_29  x0 x1 s0 s1 M = some p) : G κ mX2_needGroups 0 0 29 [(0, .ref x0), (1, .ref x1)] [.int s0, .int s1] M := by
  unfold fX2_needGroups_29 at h
  refine g_icmp_gt (tgt := 36) (pc' := 32) O dX2_needGroups_29 (by decide) rfl (fun hc => ?_) (fun hc => ?_)
  · replace h := ip hc h
    exact tX2_needGroups_36 O hf h
  · replace h := ine hc h
    refine g_iconst (v := 1) (pc' := 33) O dX2_needGroups_32 (by decide) rfl ?_
    refine g_goto (pc' := 37) O dX2_needGroups_33 (by decide) ?_
    exact tX2_needGroups_37 O hf h
def fX2_needGroups  (this : Nat) (p0 : Nat) (p1 : Int32) (M : Mem) : Option (Mem) :=
  (gI M 0 p0 1).bind fun v1 =>
  if v1 = 0 then (fX2_needGroups_36 this p0 M)
  else ((gL M 1 this 4).bind fun v2 =>
  if (lg_cmp v2 (0 : Int64)) ≤ 0 then (fX2_needGroups_36 this p0 M)
  else ((gI M 0 p0 2).bind fun v3 =>
  if v3 = 0 then (fX2_needGroups_29 this p0 (3 : Int32) p1 M)
  else (fX2_needGroups_29 this p0 (2 : Int32) p1 M)))
set_option maxHeartbeats 4000000 in
set_option maxRecDepth 100000 in
theorem okX2_needGroups {l : Launch} {p : Mem} {this : Nat} {p0 : Nat} {p1 : Int32} {M : Mem} (h : fX2_needGroups this p0 p1 M = some p) : Cn l yX2_needGroups mX2_needGroups [.ref this, .ref p0, .int p1] M none p := by
  refine Cn.of [(0, .ref this), (1, .ref p0), (2, .int p1)] (by decide) rfl rfl (Nat.le_of_ble_eq_true rfl) rfl (fun κ _ hf O => ?_)
  unfold fX2_needGroups at h
  refine g_aload_n (pc' := 1) 1 O dX2_needGroups_0 rfl rfl rfl ?_
  replace h := ob h; obtain ⟨v1, ev1, h⟩ := h
  refine g_getF (C := RX1) (T := TX1) (N := 8) (ci := 0) (k := 1) (pc' := 4) O dX2_needGroups_1 rfl inX1 (by decide) tw_216 (gI_F ev1) rfl ?_
  refine g_if_eq (tgt := 36) (pc' := 7) O dX2_needGroups_4 (by decide) rfl (fun hc => ?_) (fun hc => ?_)
  · replace h := ip hc h
    refine g_sub (lv' := [(0, .ref this), (1, .ref p0)]) [0, 1] rfl ?_
    exact tX2_needGroups_36 O hf h
  · replace h := ine hc h
    refine g_aload_n (pc' := 8) 0 O dX2_needGroups_7 rfl rfl rfl ?_
    replace h := ob h; obtain ⟨v2, ev2, h⟩ := h
    refine g_getF (C := RX2) (T := TX2) (N := 9) (ci := 1) (k := 4) (pc' := 11) O dX2_needGroups_8 rfl inX2 (by decide) tw_150 (gL_F ev2) rfl ?_
    refine g_lconst (v := 0) (pc' := 12) O dX2_needGroups_11 (by decide) rfl ?_
    refine g_lcmp (pc' := 13) O dX2_needGroups_12 rfl ?_
    refine g_if_le (tgt := 36) (pc' := 16) O dX2_needGroups_13 (by decide) rfl (fun hc => ?_) (fun hc => ?_)
    · replace h := ip hc h
      refine g_sub (lv' := [(0, .ref this), (1, .ref p0)]) [0, 1] rfl ?_
      exact tX2_needGroups_36 O hf h
    · replace h := ine hc h
      refine g_iload_n (pc' := 17) 2 O dX2_needGroups_16 rfl rfl rfl ?_
      refine g_aload_n (pc' := 18) 1 O dX2_needGroups_17 rfl rfl rfl ?_
      replace h := ob h; obtain ⟨v3, ev3, h⟩ := h
      refine g_getF (C := RX1) (T := TX1) (N := 8) (ci := 0) (k := 2) (pc' := 21) O dX2_needGroups_18 rfl inX1 (by decide) tw_219 (gI_F ev3) rfl ?_
      refine g_if_eq (tgt := 28) (pc' := 24) O dX2_needGroups_21 (by decide) rfl (fun hc => ?_) (fun hc => ?_)
      · replace h := ip hc h
        refine g_iconst (v := 3) (pc' := 29) O dX2_needGroups_28 (by decide) rfl ?_
        refine g_sub (lv' := [(0, .ref this), (1, .ref p0)]) [0, 1] rfl ?_
        exact tX2_needGroups_29 O hf h
      · replace h := ine hc h
        refine g_iconst (v := 2) (pc' := 25) O dX2_needGroups_24 (by decide) rfl ?_
        refine g_goto (pc' := 29) O dX2_needGroups_25 (by decide) ?_
        refine g_sub (lv' := [(0, .ref this), (1, .ref p0)]) [0, 1] rfl ?_
        exact tX2_needGroups_29 O hf h
abbrev mX2_passFraction : MD := (cX2_passFraction, 4, RX2, none, { frames := 2, cells := 0, slots := 0, locals := 42 }, "passFraction")
theorem hyX2_passFraction : yX2_passFraction.cls ≠ "java/lang/invoke/MethodHandle" ∧ yX2_passFraction.cls ≠ "java/lang/invoke/VarHandle" ∧ (parseMethodDescriptor yX2_passFraction.desc).map (fun d => d.parameters.length) = some 1 := by decide +kernel
def fX2_passFraction_27  : Nat → Nat → Int32 → Mem → Option (Mem)
  | 0, _, _, _ => none
  | n + 1, x0, x3, M =>
    if (6 : Int32) ≤ x3 then (some M)
    else ((gL M 1 x0 4).bind fun v1 =>
    (pF M 1 x0 4 (.long (v1 * (10 : Int64)))).bind fun M2 =>
    fX2_passFraction_27 n x0 (x3 + (1 : Int32)) M2)
set_option maxHeartbeats 4000000 in
set_option maxRecDepth 100000 in
theorem tX2_passFraction_27 {κ : KT} {p : Mem} (O : OkK κ mX2_passFraction) (hf : κ.2.2.2.2.2.2.2.2.2.2.2.2.2 = (none, p))  : ∀ (n : Nat) (x0 : Nat) (x3 : Int32) (M : Mem), fX2_passFraction_27  n x0 x3 M = some p → G κ mX2_passFraction 0 0 27 [(0, .ref x0), (3, .int x3)] [] M := by
  intro n
  induction n with
  | zero => intro x0 x3 M h; cases h
  | succ n ih =>
    intro x0 x3 M h
    rw [fX2_passFraction_27] at h
    refine g_iload_n (pc' := 28) 1 O dX2_passFraction_27 rfl rfl rfl ?_
    refine g_bipush (v := 6) (pc' := 30) O dX2_passFraction_28 (by decide) rfl ?_
    refine g_icmp_ge (tgt := 51) (pc' := 33) O dX2_passFraction_30 (by decide) rfl (fun hc => ?_) (fun hc => ?_)
    · replace h := ip hc h
      cases h
      exact g_vreturn O dX2_passFraction_51 rfl hf (by decide) (by decide)
    · replace h := ine hc h
      refine g_aload_n (pc' := 34) 0 O dX2_passFraction_33 rfl rfl rfl ?_
      refine g_dup (pc' := 35) O dX2_passFraction_34 rfl rfl ?_
      replace h := ob h; obtain ⟨v1, ev1, h⟩ := h
      refine g_getF (C := RX2) (T := TX2) (N := 9) (ci := 1) (k := 4) (pc' := 38) O dX2_passFraction_35 rfl inX2 (by decide) tw_150 (gL_F ev1) rfl ?_
      refine g_ldc2 (v := 10) (pc' := 41) O dX2_passFraction_38 tw_348 rfl ?_
      refine g_lmul (pc' := 42) O dX2_passFraction_41 rfl ?_
      replace h := ob h; obtain ⟨M2, eM2, h⟩ := h
      refine g_putF (C := RX2) (T := TX2) (N := 9) (ci := 1) (k := 4) (pc' := 45) O dX2_passFraction_42 rfl inX2 (by decide) tw_150 tyX2 tyX2_ok nmX2 rfl rfl rfl rfl eM2 rfl ?_
      refine g_iinc (q := 1) (v := x3 + (1 : Int32)) (lv' := [(3, .int (x3 + (1 : Int32))), (0, .ref x0)]) (pc' := 48) O dX2_passFraction_45 rfl rfl (by decide) rfl rfl ?_
      refine g_goto (pc' := 27) O dX2_passFraction_48 (by decide) ?_
      refine g_sub (lv' := [(0, .ref x0), (3, .int (x3 + (1 : Int32)))]) [1, 0] rfl ?_
      exact ih x0 (x3 + (1 : Int32)) M2 h
def fX2_passFraction_25  (x0 : Nat) (x2 : Int32) (M : Mem) : Option (Mem) :=
  fX2_passFraction_27 FU x0 x2 M
set_option maxHeartbeats 4000000 in
set_option maxRecDepth 100000 in
theorem tX2_passFraction_25 {κ : KT} {p : Mem} (O : OkK κ mX2_passFraction) (hf : κ.2.2.2.2.2.2.2.2.2.2.2.2.2 = (none, p))  {x0 : Nat} {x2 : Int32} {M : Mem} (h : fX2_passFraction_25  x0 x2 M = some p) : G κ mX2_passFraction 0 0 25 [(0, .ref x0), (2, .int x2)] [] M := by
  unfold fX2_passFraction_25 at h
  refine g_iload_n (pc' := 26) 1 O dX2_passFraction_25 rfl rfl rfl ?_
  refine g_istore_n (lv' := [(3, .int x2), (0, .ref x0), (2, .int x2)]) (pc' := 27) O dX2_passFraction_26 rfl (by decide) rfl rfl ?_
  refine g_sub (lv' := [(0, .ref x0), (3, .int x2)]) [1, 0] rfl ?_
  exact tX2_passFraction_27 O hf FU x0 x2 M h
def fX2_passFraction  (this : Nat) (p0 : Int32) (M : Mem) : Option (Mem) :=
  (ck M 1 this).bind fun u1 =>
  (fX2_passes this p0 M).bind fun r2 =>
  if r2.1 = 0 then (fX2_passFraction_25 this (0 : Int32) r2.2)
  else ((ck r2.2 1 this).bind fun u3 =>
  (fX2_passDigits this (6 : Int32) r2.2).bind fun r4 =>
  if r4.1 = 0 then ((ck r4.2 1 this).bind fun u5 =>
  (fX2_lack this r4.2).bind fun r6 =>
  fX2_passFraction_25 this r4.1 r6)
  else (fX2_passFraction_25 this r4.1 r4.2))
set_option maxHeartbeats 4000000 in
set_option maxRecDepth 100000 in
theorem okX2_passFraction {l : Launch} {p : Mem} {this : Nat} {p0 : Int32} {M : Mem} (h : fX2_passFraction this p0 M = some p) : Cn l yX2_passFraction mX2_passFraction [.ref this, .int p0] M none p := by
  refine Cn.of [(0, .ref this), (1, .int p0)] (by decide) rfl rfl (Nat.le_of_ble_eq_true rfl) rfl (fun κ _ hf O => ?_)
  unfold fX2_passFraction at h
  refine g_iconst (v := 0) (pc' := 1) O dX2_passFraction_0 (by decide) rfl ?_
  refine g_istore_n (lv' := [(2, .int (0 : Int32)), (0, .ref this), (1, .int p0)]) (pc' := 2) O dX2_passFraction_1 rfl (by decide) rfl rfl ?_
  refine g_aload_n (pc' := 3) 1 O dX2_passFraction_2 rfl rfl rfl ?_
  refine g_iload_n (pc' := 4) 2 O dX2_passFraction_3 rfl rfl rfl ?_
  replace h := ob h; obtain ⟨u1, eu1, h⟩ := h
  replace h := ob h; obtain ⟨r2, er2, h⟩ := h
  refine g_callV (y := yX2_passes) (ν := mX2_passes) (n := 1) (As := [.int p0]) (b := this) (st := []) (M2 := r2.2) (r1 := (some (.int r2.1))) (pc' := 7) O dX2_passFraction_4 tw_328 tw_57 tw_327 tw_3 tw_325 hyX2_passes rfl rfl eu1 (okX2_passes er2) (Nat.le_of_ble_eq_true rfl) ⟨Nat.le_of_ble_eq_true rfl, Nat.le_of_ble_eq_true rfl⟩ ⟨Nat.le_of_ble_eq_true rfl, Nat.le_of_ble_eq_true rfl⟩ rfl ?_
  show G κ mX2_passFraction 0 0 7 [(2, .int (0 : Int32)), (0, .ref this), (1, .int p0)] [.int r2.1] r2.2
  refine g_if_eq (tgt := 25) (pc' := 10) O dX2_passFraction_7 (by decide) rfl (fun hc => ?_) (fun hc => ?_)
  · replace h := ip hc h
    refine g_sub (lv' := [(0, .ref this), (2, .int (0 : Int32))]) [1, 0] rfl ?_
    exact tX2_passFraction_25 O hf h
  · replace h := ine hc h
    refine g_aload_n (pc' := 11) 1 O dX2_passFraction_10 rfl rfl rfl ?_
    refine g_bipush (v := 6) (pc' := 13) O dX2_passFraction_11 (by decide) rfl ?_
    replace h := ob h; obtain ⟨u3, eu3, h⟩ := h
    replace h := ob h; obtain ⟨r4, er4, h⟩ := h
    refine g_callV (y := yX2_passDigits) (ν := mX2_passDigits) (n := 1) (As := [.int (6 : Int32)]) (b := this) (st := []) (M2 := r4.2) (r1 := (some (.int r4.1))) (pc' := 16) O dX2_passFraction_13 tw_344 tw_57 tw_343 tw_6 tw_341 hyX2_passDigits rfl rfl eu3 (okX2_passDigits er4) (Nat.le_of_ble_eq_true rfl) ⟨Nat.le_of_ble_eq_true rfl, Nat.le_of_ble_eq_true rfl⟩ ⟨Nat.le_of_ble_eq_true rfl, Nat.le_of_ble_eq_true rfl⟩ rfl ?_
    show G κ mX2_passFraction 0 0 16 [(2, .int (0 : Int32)), (0, .ref this), (1, .int p0)] [.int r4.1] r4.2
    refine g_istore_n (lv' := [(2, .int r4.1), (0, .ref this), (1, .int p0)]) (pc' := 17) O dX2_passFraction_16 rfl (by decide) rfl rfl ?_
    refine g_iload_n (pc' := 18) 0 O dX2_passFraction_17 rfl rfl rfl ?_
    refine g_if_ne (tgt := 25) (pc' := 21) O dX2_passFraction_18 (by decide) rfl (fun hc => ?_) (fun hc => ?_)
    · replace h := ine hc h
      refine g_sub (lv' := [(0, .ref this), (2, .int r4.1)]) [1, 0] rfl ?_
      exact tX2_passFraction_25 O hf h
    · replace h := ip hc h
      refine g_aload_n (pc' := 22) 1 O dX2_passFraction_21 rfl rfl rfl ?_
      replace h := ob h; obtain ⟨u5, eu5, h⟩ := h
      replace h := ob h; obtain ⟨r6, er6, h⟩ := h
      refine g_callV (y := yX2_lack) (ν := mX2_lack) (n := 0) (As := []) (b := this) (st := []) (M2 := r6) (r1 := none) (pc' := 25) O dX2_passFraction_22 tw_332 tw_57 tw_331 tw_4 tw_329 hyX2_lack rfl rfl eu5 (okX2_lack er6) (Nat.le_of_ble_eq_true rfl) ⟨Nat.le_of_ble_eq_true rfl, Nat.le_of_ble_eq_true rfl⟩ ⟨Nat.le_of_ble_eq_true rfl, Nat.le_of_ble_eq_true rfl⟩ rfl ?_
      show G κ mX2_passFraction 0 0 25 [(2, .int r4.1), (0, .ref this), (1, .int p0)] [] r6
      refine g_sub (lv' := [(0, .ref this), (2, .int r4.1)]) [1, 0] rfl ?_
      exact tX2_passFraction_25 O hf h
abbrev mX2_readAmount : MD := (cX2_readAmount, 5, RX2, none, { frames := 3, cells := 0, slots := 0, locals := 69 }, "readAmount")
theorem hyX2_readAmount : yX2_readAmount.cls ≠ "java/lang/invoke/MethodHandle" ∧ yX2_readAmount.cls ≠ "java/lang/invoke/VarHandle" ∧ (parseMethodDescriptor yX2_readAmount.desc).map (fun d => d.parameters.length) = some 2 := by decide +kernel
def fX2_readAmount_137  (s0 : Int64) (s1 : Nat) (M : Mem) : Option (Mem) :=
  (pF M 1 s1 5 (.long s0)).bind fun M1 =>
  some M1
set_option maxHeartbeats 4000000 in
set_option maxRecDepth 100000 in
theorem tX2_readAmount_137 {κ : KT} {p : Mem} (O : OkK κ mX2_readAmount) (hf : κ.2.2.2.2.2.2.2.2.2.2.2.2.2 = (none, p))  {s0 : Int64} {s1 : Nat} {M : Mem} (h : fX2_readAmount_137  s0 s1 M = some p) : G κ mX2_readAmount 0 0 137 [] [.long s0, .ref s1] M := by
  unfold fX2_readAmount_137 at h
  replace h := ob h; obtain ⟨M1, eM1, h⟩ := h
  refine g_putF (C := RX2) (T := TX2) (N := 9) (ci := 1) (k := 5) (pc' := 140) O dX2_readAmount_137 rfl inX2 (by decide) tw_151 tyX2 tyX2_ok nmX2 rfl rfl rfl rfl eM1 rfl ?_
  cases h
  exact g_vreturn O dX2_readAmount_140 rfl hf (by decide) (by decide)
def fX2_readAmount_116  (x0 : Nat) (x3 : Int32) (M : Mem) : Option (Mem) :=
  (ck M 1 x0).bind fun u1 =>
  (fX2_needEnd x0 M).bind fun r2 =>
  if x3 = 0 then ((gL r2 1 x0 4).bind fun v3 =>
  fX2_readAmount_137 v3 x0 r2)
  else ((gL r2 1 x0 4).bind fun v4 =>
  fX2_readAmount_137 (-v4) x0 r2)
set_option maxHeartbeats 4000000 in
set_option maxRecDepth 100000 in
theorem tX2_readAmount_116 {κ : KT} {p : Mem} (O : OkK κ mX2_readAmount) (hf : κ.2.2.2.2.2.2.2.2.2.2.2.2.2 = (none, p))  {x0 : Nat} {x3 : Int32} {M : Mem} (h : fX2_readAmount_116  x0 x3 M = some p) : G κ mX2_readAmount 0 0 116 [(0, .ref x0), (3, .int x3)] [] M := by
  unfold fX2_readAmount_116 at h
  refine g_aload_n (pc' := 117) 0 O dX2_readAmount_116 rfl rfl rfl ?_
  replace h := ob h; obtain ⟨u1, eu1, h⟩ := h
  replace h := ob h; obtain ⟨r2, er2, h⟩ := h
  refine g_callV (y := yX2_needEnd) (ν := mX2_needEnd) (n := 0) (As := []) (b := x0) (st := []) (M2 := r2) (r1 := none) (pc' := 120) O dX2_readAmount_117 tw_352 tw_57 tw_351 tw_7 tw_349 hyX2_needEnd rfl rfl eu1 (okX2_needEnd er2) (Nat.le_of_ble_eq_true rfl) ⟨Nat.le_of_ble_eq_true rfl, Nat.le_of_ble_eq_true rfl⟩ ⟨Nat.le_of_ble_eq_true rfl, Nat.le_of_ble_eq_true rfl⟩ rfl ?_
  show G κ mX2_readAmount 0 0 120 [(0, .ref x0), (3, .int x3)] [] r2
  refine g_aload_n (pc' := 121) 0 O dX2_readAmount_120 rfl rfl rfl ?_
  refine g_iload_n (pc' := 122) 1 O dX2_readAmount_121 rfl rfl rfl ?_
  refine g_if_eq (tgt := 133) (pc' := 125) O dX2_readAmount_122 (by decide) rfl (fun hc => ?_) (fun hc => ?_)
  · replace h := ip hc h
    refine g_aload_n (pc' := 134) 0 O dX2_readAmount_133 rfl rfl rfl ?_
    replace h := ob h; obtain ⟨v3, ev3, h⟩ := h
    refine g_getF (C := RX2) (T := TX2) (N := 9) (ci := 1) (k := 4) (pc' := 137) O dX2_readAmount_134 rfl inX2 (by decide) tw_150 (gL_F ev3) rfl ?_
    refine g_sub (lv' := []) [] rfl ?_
    exact tX2_readAmount_137 O hf h
  · replace h := ine hc h
    refine g_aload_n (pc' := 126) 0 O dX2_readAmount_125 rfl rfl rfl ?_
    replace h := ob h; obtain ⟨v4, ev4, h⟩ := h
    refine g_getF (C := RX2) (T := TX2) (N := 9) (ci := 1) (k := 4) (pc' := 129) O dX2_readAmount_126 rfl inX2 (by decide) tw_150 (gL_F ev4) rfl ?_
    refine g_lneg (pc' := 130) O dX2_readAmount_129 rfl ?_
    refine g_goto (pc' := 137) O dX2_readAmount_130 (by decide) ?_
    refine g_sub (lv' := []) [] rfl ?_
    exact tX2_readAmount_137 O hf h
def fX2_readAmount_76  (x0 : Nat) (x1 : Nat) (x3 : Int32) (M : Mem) : Option (Mem) :=
  (gI M 0 x1 3).bind fun v1 =>
  if v1 = (1 : Int32) then ((ck M 0 x1).bind fun u7 =>
  (fX1_minusBehind x1 M).bind fun r8 =>
  (ck r8.2 1 x0).bind fun u9 =>
  (fX2_passes x0 r8.1 r8.2).bind fun r10 =>
  fX2_readAmount_116 x0 r10.1 r10.2)
  else ((gI M 0 x1 3).bind fun v2 =>
  if v2 = (2 : Int32) then (if x3 = 0 then (fX2_readAmount_116 x0 x3 M)
  else ((ck M 0 x1).bind fun u3 =>
  (fX1_minusBehind x1 M).bind fun r4 =>
  (ck r4.2 1 x0).bind fun u5 =>
  (fX2_need x0 r4.1 r4.2).bind fun r6 =>
  fX2_readAmount_116 x0 x3 r6))
  else (fX2_readAmount_116 x0 x3 M))
set_option maxHeartbeats 4000000 in
set_option maxRecDepth 100000 in
theorem tX2_readAmount_76 {κ : KT} {p : Mem} (O : OkK κ mX2_readAmount) (hf : κ.2.2.2.2.2.2.2.2.2.2.2.2.2 = (none, p))  {x0 : Nat} {x1 : Nat} {x3 : Int32} {M : Mem} (h : fX2_readAmount_76  x0 x1 x3 M = some p) : G κ mX2_readAmount 0 0 76 [(0, .ref x0), (1, .ref x1), (3, .int x3)] [] M := by
  unfold fX2_readAmount_76 at h
  refine g_aload_n (pc' := 77) 1 O dX2_readAmount_76 rfl rfl rfl ?_
  replace h := ob h; obtain ⟨v1, ev1, h⟩ := h
  refine g_getF (C := RX1) (T := TX1) (N := 8) (ci := 0) (k := 3) (pc' := 80) O dX2_readAmount_77 rfl inX1 (by decide) tw_221 (gI_F ev1) rfl ?_
  refine g_iconst (v := 1) (pc' := 81) O dX2_readAmount_80 (by decide) rfl ?_
  refine g_icmp_ne (tgt := 96) (pc' := 84) O dX2_readAmount_81 (by decide) rfl (fun hc => ?_) (fun hc => ?_)
  · replace h := ine hc h
    refine g_aload_n (pc' := 97) 1 O dX2_readAmount_96 rfl rfl rfl ?_
    replace h := ob h; obtain ⟨v2, ev2, h⟩ := h
    refine g_getF (C := RX1) (T := TX1) (N := 8) (ci := 0) (k := 3) (pc' := 100) O dX2_readAmount_97 rfl inX1 (by decide) tw_221 (gI_F ev2) rfl ?_
    refine g_iconst (v := 2) (pc' := 101) O dX2_readAmount_100 (by decide) rfl ?_
    refine g_icmp_ne (tgt := 116) (pc' := 104) O dX2_readAmount_101 (by decide) rfl (fun hc => ?_) (fun hc => ?_)
    · replace h := ine hc h
      refine g_sub (lv' := [(0, .ref x0), (3, .int x3)]) [0, 2] rfl ?_
      exact tX2_readAmount_116 O hf h
    · replace h := ip hc h
      refine g_iload_n (pc' := 105) 2 O dX2_readAmount_104 rfl rfl rfl ?_
      refine g_if_eq (tgt := 116) (pc' := 108) O dX2_readAmount_105 (by decide) rfl (fun hc => ?_) (fun hc => ?_)
      · replace h := ip hc h
        refine g_sub (lv' := [(0, .ref x0), (3, .int x3)]) [0, 2] rfl ?_
        exact tX2_readAmount_116 O hf h
      · replace h := ine hc h
        refine g_aload_n (pc' := 109) 0 O dX2_readAmount_108 rfl rfl rfl ?_
        refine g_aload_n (pc' := 110) 1 O dX2_readAmount_109 rfl rfl rfl ?_
        replace h := ob h; obtain ⟨u3, eu3, h⟩ := h
        replace h := ob h; obtain ⟨r4, er4, h⟩ := h
        refine g_callV (y := yX1_minusBehind) (ν := mX1_minusBehind) (n := 0) (As := []) (b := x1) (st := [.ref x0]) (M2 := r4.2) (r1 := (some (.int r4.1))) (pc' := 113) O dX2_readAmount_110 tw_420 tw_59 tw_418 tw_419 tw_417 hyX1_minusBehind rfl rfl eu3 (okX1_minusBehind er4) (Nat.le_of_ble_eq_true rfl) ⟨Nat.le_of_ble_eq_true rfl, Nat.le_of_ble_eq_true rfl⟩ ⟨Nat.le_of_ble_eq_true rfl, Nat.le_of_ble_eq_true rfl⟩ rfl ?_
        show G κ mX2_readAmount 0 0 113 [(0, .ref x0), (1, .ref x1), (3, .int x3)] [.int r4.1, .ref x0] r4.2
        replace h := ob h; obtain ⟨u5, eu5, h⟩ := h
        replace h := ob h; obtain ⟨r6, er6, h⟩ := h
        refine g_callV (y := yX2_need) (ν := mX2_need) (n := 1) (As := [.int r4.1]) (b := x0) (st := []) (M2 := r6) (r1 := none) (pc' := 116) O dX2_readAmount_113 tw_324 tw_57 tw_323 tw_2 tw_321 hyX2_need rfl rfl eu5 (okX2_need er6) (Nat.le_of_ble_eq_true rfl) ⟨Nat.le_of_ble_eq_true rfl, Nat.le_of_ble_eq_true rfl⟩ ⟨Nat.le_of_ble_eq_true rfl, Nat.le_of_ble_eq_true rfl⟩ rfl ?_
        show G κ mX2_readAmount 0 0 116 [(0, .ref x0), (1, .ref x1), (3, .int x3)] [] r6
        refine g_sub (lv' := [(0, .ref x0), (3, .int x3)]) [0, 2] rfl ?_
        exact tX2_readAmount_116 O hf h
  · replace h := ip hc h
    refine g_aload_n (pc' := 85) 0 O dX2_readAmount_84 rfl rfl rfl ?_
    refine g_aload_n (pc' := 86) 1 O dX2_readAmount_85 rfl rfl rfl ?_
    replace h := ob h; obtain ⟨u7, eu7, h⟩ := h
    replace h := ob h; obtain ⟨r8, er8, h⟩ := h
    refine g_callV (y := yX1_minusBehind) (ν := mX1_minusBehind) (n := 0) (As := []) (b := x1) (st := [.ref x0]) (M2 := r8.2) (r1 := (some (.int r8.1))) (pc' := 89) O dX2_readAmount_86 tw_420 tw_59 tw_418 tw_419 tw_417 hyX1_minusBehind rfl rfl eu7 (okX1_minusBehind er8) (Nat.le_of_ble_eq_true rfl) ⟨Nat.le_of_ble_eq_true rfl, Nat.le_of_ble_eq_true rfl⟩ ⟨Nat.le_of_ble_eq_true rfl, Nat.le_of_ble_eq_true rfl⟩ rfl ?_
    show G κ mX2_readAmount 0 0 89 [(0, .ref x0), (1, .ref x1), (3, .int x3)] [.int r8.1, .ref x0] r8.2
    replace h := ob h; obtain ⟨u9, eu9, h⟩ := h
    replace h := ob h; obtain ⟨r10, er10, h⟩ := h
    refine g_callV (y := yX2_passes) (ν := mX2_passes) (n := 1) (As := [.int r8.1]) (b := x0) (st := []) (M2 := r10.2) (r1 := (some (.int r10.1))) (pc' := 92) O dX2_readAmount_89 tw_328 tw_57 tw_327 tw_3 tw_325 hyX2_passes rfl rfl eu9 (okX2_passes er10) (Nat.le_of_ble_eq_true rfl) ⟨Nat.le_of_ble_eq_true rfl, Nat.le_of_ble_eq_true rfl⟩ ⟨Nat.le_of_ble_eq_true rfl, Nat.le_of_ble_eq_true rfl⟩ rfl ?_
    show G κ mX2_readAmount 0 0 92 [(0, .ref x0), (1, .ref x1), (3, .int x3)] [.int r10.1] r10.2
    refine g_istore_n (lv' := [(3, .int r10.1), (0, .ref x0), (1, .ref x1)]) (pc' := 93) O dX2_readAmount_92 rfl (by decide) rfl rfl ?_
    refine g_goto (pc' := 116) O dX2_readAmount_93 (by decide) ?_
    refine g_sub (lv' := [(0, .ref x0), (3, .int r10.1)]) [1, 0] rfl ?_
    exact tX2_readAmount_116 O hf h
def fX2_readAmount_32  (x0 : Nat) (x1 : Nat) (x2 : Int32) (x3 : Int32) (M : Mem) : Option (Mem) :=
  (ck M 1 x0).bind fun u1 =>
  (fX2_needFirstDigits x0 M).bind fun r2 =>
  (ck r2.2 1 x0).bind fun u3 =>
  (fX2_needGroups x0 x1 r2.1 r2.2).bind fun r4 =>
  (gI r4 0 x1 0).bind fun v5 =>
  (ck r4 1 x0).bind fun u6 =>
  (fX2_passFraction x0 v5 r4).bind fun r7 =>
  if x2 = 0 then (fX2_readAmount_76 x0 x1 x3 r7)
  else ((gI r7 0 x1 5).bind fun v8 =>
  if v8 = 0 then (fX2_readAmount_76 x0 x1 x3 r7)
  else ((ck r7 1 x0).bind fun u9 =>
  (fX2_passes x0 (32 : Int32) r7).bind fun r10 =>
  (ck r10.2 1 x0).bind fun u11 =>
  (fX2_needMark x0 x1 r10.2).bind fun r12 =>
  fX2_readAmount_76 x0 x1 x3 r12))
set_option maxHeartbeats 4000000 in
set_option maxRecDepth 100000 in
theorem tX2_readAmount_32 {κ : KT} {p : Mem} (O : OkK κ mX2_readAmount) (hf : κ.2.2.2.2.2.2.2.2.2.2.2.2.2 = (none, p))  {x0 : Nat} {x1 : Nat} {x2 : Int32} {x3 : Int32} {M : Mem} (h : fX2_readAmount_32  x0 x1 x2 x3 M = some p) : G κ mX2_readAmount 0 0 32 [(0, .ref x0), (1, .ref x1), (2, .int x2), (3, .int x3)] [] M := by
  unfold fX2_readAmount_32 at h
  refine g_aload_n (pc' := 33) 0 O dX2_readAmount_32 rfl rfl rfl ?_
  replace h := ob h; obtain ⟨u1, eu1, h⟩ := h
  replace h := ob h; obtain ⟨r2, er2, h⟩ := h
  refine g_callV (y := yX2_needFirstDigits) (ν := mX2_needFirstDigits) (n := 0) (As := []) (b := x0) (st := []) (M2 := r2.2) (r1 := (some (.int r2.1))) (pc' := 36) O dX2_readAmount_33 tw_404 tw_57 tw_403 tw_13 tw_401 hyX2_needFirstDigits rfl rfl eu1 (okX2_needFirstDigits er2) (Nat.le_of_ble_eq_true rfl) ⟨Nat.le_of_ble_eq_true rfl, Nat.le_of_ble_eq_true rfl⟩ ⟨Nat.le_of_ble_eq_true rfl, Nat.le_of_ble_eq_true rfl⟩ rfl ?_
  show G κ mX2_readAmount 0 0 36 [(0, .ref x0), (1, .ref x1), (2, .int x2), (3, .int x3)] [.int r2.1] r2.2
  refine g_istore (lv' := [(4, .int r2.1), (0, .ref x0), (1, .ref x1), (2, .int x2), (3, .int x3)]) (pc' := 38) O dX2_readAmount_36 (by decide) rfl rfl ?_
  refine g_aload_n (pc' := 39) 1 O dX2_readAmount_38 rfl rfl rfl ?_
  refine g_aload_n (pc' := 40) 2 O dX2_readAmount_39 rfl rfl rfl ?_
  refine g_iload (pc' := 42) 0 O dX2_readAmount_40 rfl rfl ?_
  replace h := ob h; obtain ⟨u3, eu3, h⟩ := h
  replace h := ob h; obtain ⟨r4, er4, h⟩ := h
  refine g_callV (y := yX2_needGroups) (ν := mX2_needGroups) (n := 2) (As := [.ref x1, .int r2.1]) (b := x0) (st := []) (M2 := r4) (r1 := none) (pc' := 45) O dX2_readAmount_42 tw_408 tw_57 tw_407 tw_14 tw_405 hyX2_needGroups rfl rfl eu3 (okX2_needGroups er4) (Nat.le_of_ble_eq_true rfl) ⟨Nat.le_of_ble_eq_true rfl, Nat.le_of_ble_eq_true rfl⟩ ⟨Nat.le_of_ble_eq_true rfl, Nat.le_of_ble_eq_true rfl⟩ rfl ?_
  show G κ mX2_readAmount 0 0 45 [(4, .int r2.1), (0, .ref x0), (1, .ref x1), (2, .int x2), (3, .int x3)] [] r4
  refine g_aload_n (pc' := 46) 1 O dX2_readAmount_45 rfl rfl rfl ?_
  refine g_aload_n (pc' := 47) 2 O dX2_readAmount_46 rfl rfl rfl ?_
  replace h := ob h; obtain ⟨v5, ev5, h⟩ := h
  refine g_getF (C := RX1) (T := TX1) (N := 8) (ci := 0) (k := 0) (pc' := 50) O dX2_readAmount_47 rfl inX1 (by decide) tw_213 (gI_F ev5) rfl ?_
  replace h := ob h; obtain ⟨u6, eu6, h⟩ := h
  replace h := ob h; obtain ⟨r7, er7, h⟩ := h
  refine g_callV (y := yX2_passFraction) (ν := mX2_passFraction) (n := 1) (As := [.int v5]) (b := x0) (st := []) (M2 := r7) (r1 := none) (pc' := 53) O dX2_readAmount_50 tw_416 tw_57 tw_415 tw_16 tw_413 hyX2_passFraction rfl rfl eu6 (okX2_passFraction er7) (Nat.le_of_ble_eq_true rfl) ⟨Nat.le_of_ble_eq_true rfl, Nat.le_of_ble_eq_true rfl⟩ ⟨Nat.le_of_ble_eq_true rfl, Nat.le_of_ble_eq_true rfl⟩ rfl ?_
  show G κ mX2_readAmount 0 0 53 [(4, .int r2.1), (0, .ref x0), (1, .ref x1), (2, .int x2), (3, .int x3)] [] r7
  refine g_iload_n (pc' := 54) 3 O dX2_readAmount_53 rfl rfl rfl ?_
  refine g_if_eq (tgt := 76) (pc' := 57) O dX2_readAmount_54 (by decide) rfl (fun hc => ?_) (fun hc => ?_)
  · replace h := ip hc h
    refine g_sub (lv' := [(0, .ref x0), (1, .ref x1), (3, .int x3)]) [1, 2, 4] rfl ?_
    exact tX2_readAmount_76 O hf h
  · replace h := ine hc h
    refine g_aload_n (pc' := 58) 2 O dX2_readAmount_57 rfl rfl rfl ?_
    replace h := ob h; obtain ⟨v8, ev8, h⟩ := h
    refine g_getF (C := RX1) (T := TX1) (N := 8) (ci := 0) (k := 5) (pc' := 61) O dX2_readAmount_58 rfl inX1 (by decide) tw_224 (gI_F ev8) rfl ?_
    refine g_if_eq (tgt := 76) (pc' := 64) O dX2_readAmount_61 (by decide) rfl (fun hc => ?_) (fun hc => ?_)
    · replace h := ip hc h
      refine g_sub (lv' := [(0, .ref x0), (1, .ref x1), (3, .int x3)]) [1, 2, 4] rfl ?_
      exact tX2_readAmount_76 O hf h
    · replace h := ine hc h
      refine g_aload_n (pc' := 65) 1 O dX2_readAmount_64 rfl rfl rfl ?_
      refine g_bipush (v := 32) (pc' := 67) O dX2_readAmount_65 (by decide) rfl ?_
      replace h := ob h; obtain ⟨u9, eu9, h⟩ := h
      replace h := ob h; obtain ⟨r10, er10, h⟩ := h
      refine g_callV (y := yX2_passes) (ν := mX2_passes) (n := 1) (As := [.int (32 : Int32)]) (b := x0) (st := []) (M2 := r10.2) (r1 := (some (.int r10.1))) (pc' := 70) O dX2_readAmount_67 tw_328 tw_57 tw_327 tw_3 tw_325 hyX2_passes rfl rfl eu9 (okX2_passes er10) (Nat.le_of_ble_eq_true rfl) ⟨Nat.le_of_ble_eq_true rfl, Nat.le_of_ble_eq_true rfl⟩ ⟨Nat.le_of_ble_eq_true rfl, Nat.le_of_ble_eq_true rfl⟩ rfl ?_
      show G κ mX2_readAmount 0 0 70 [(4, .int r2.1), (0, .ref x0), (1, .ref x1), (2, .int x2), (3, .int x3)] [.int r10.1] r10.2
      refine g_pop (pc' := 71) O dX2_readAmount_70 rfl rfl ?_
      refine g_aload_n (pc' := 72) 1 O dX2_readAmount_71 rfl rfl rfl ?_
      refine g_aload_n (pc' := 73) 2 O dX2_readAmount_72 rfl rfl rfl ?_
      replace h := ob h; obtain ⟨u11, eu11, h⟩ := h
      replace h := ob h; obtain ⟨r12, er12, h⟩ := h
      refine g_callV (y := yX2_needMark) (ν := mX2_needMark) (n := 1) (As := [.ref x1]) (b := x0) (st := []) (M2 := r12) (r1 := none) (pc' := 76) O dX2_readAmount_73 tw_395 tw_57 tw_394 tw_12 tw_392 hyX2_needMark rfl rfl eu11 (okX2_needMark er12) (Nat.le_of_ble_eq_true rfl) ⟨Nat.le_of_ble_eq_true rfl, Nat.le_of_ble_eq_true rfl⟩ ⟨Nat.le_of_ble_eq_true rfl, Nat.le_of_ble_eq_true rfl⟩ rfl ?_
      show G κ mX2_readAmount 0 0 76 [(4, .int r2.1), (0, .ref x0), (1, .ref x1), (2, .int x2), (3, .int x3)] [] r12
      refine g_sub (lv' := [(0, .ref x0), (1, .ref x1), (3, .int x3)]) [1, 2, 4] rfl ?_
      exact tX2_readAmount_76 O hf h
def fX2_readAmount  (this : Nat) (p0 : Nat) (p1 : Int32) (M : Mem) : Option (Mem) :=
  (ck M 0 p0).bind fun u1 =>
  (fX1_minusAhead p0 M).bind fun r2 =>
  (ck r2.2 1 this).bind fun u3 =>
  (fX2_passes this r2.1 r2.2).bind fun r4 =>
  if p1 = 0 then (fX2_readAmount_32 this p0 p1 r4.1 r4.2)
  else ((gI r4.2 0 p0 5).bind fun v5 =>
  if v5 = 0 then ((ck r4.2 1 this).bind fun u6 =>
  (fX2_needMark this p0 r4.2).bind fun r7 =>
  (ck r7 1 this).bind fun u8 =>
  (fX2_passes this (32 : Int32) r7).bind fun r9 =>
  fX2_readAmount_32 this p0 p1 r4.1 r9.2)
  else (fX2_readAmount_32 this p0 p1 r4.1 r4.2))
set_option maxHeartbeats 4000000 in
set_option maxRecDepth 100000 in
theorem okX2_readAmount {l : Launch} {p : Mem} {this : Nat} {p0 : Nat} {p1 : Int32} {M : Mem} (h : fX2_readAmount this p0 p1 M = some p) : Cn l yX2_readAmount mX2_readAmount [.ref this, .ref p0, .int p1] M none p := by
  refine Cn.of [(0, .ref this), (1, .ref p0), (2, .int p1)] (by decide) rfl rfl (Nat.le_of_ble_eq_true rfl) rfl (fun κ _ hf O => ?_)
  unfold fX2_readAmount at h
  refine g_aload_n (pc' := 1) 0 O dX2_readAmount_0 rfl rfl rfl ?_
  refine g_aload_n (pc' := 2) 1 O dX2_readAmount_1 rfl rfl rfl ?_
  replace h := ob h; obtain ⟨u1, eu1, h⟩ := h
  replace h := ob h; obtain ⟨r2, er2, h⟩ := h
  refine g_callV (y := yX1_minusAhead) (ν := mX1_minusAhead) (n := 0) (As := []) (b := p0) (st := [.ref this]) (M2 := r2.2) (r1 := (some (.int r2.1))) (pc' := 5) O dX2_readAmount_2 tw_391 tw_59 tw_389 tw_390 tw_388 hyX1_minusAhead rfl rfl eu1 (okX1_minusAhead er2) (Nat.le_of_ble_eq_true rfl) ⟨Nat.le_of_ble_eq_true rfl, Nat.le_of_ble_eq_true rfl⟩ ⟨Nat.le_of_ble_eq_true rfl, Nat.le_of_ble_eq_true rfl⟩ rfl ?_
  show G κ mX2_readAmount 0 0 5 [(0, .ref this), (1, .ref p0), (2, .int p1)] [.int r2.1, .ref this] r2.2
  replace h := ob h; obtain ⟨u3, eu3, h⟩ := h
  replace h := ob h; obtain ⟨r4, er4, h⟩ := h
  refine g_callV (y := yX2_passes) (ν := mX2_passes) (n := 1) (As := [.int r2.1]) (b := this) (st := []) (M2 := r4.2) (r1 := (some (.int r4.1))) (pc' := 8) O dX2_readAmount_5 tw_328 tw_57 tw_327 tw_3 tw_325 hyX2_passes rfl rfl eu3 (okX2_passes er4) (Nat.le_of_ble_eq_true rfl) ⟨Nat.le_of_ble_eq_true rfl, Nat.le_of_ble_eq_true rfl⟩ ⟨Nat.le_of_ble_eq_true rfl, Nat.le_of_ble_eq_true rfl⟩ rfl ?_
  show G κ mX2_readAmount 0 0 8 [(0, .ref this), (1, .ref p0), (2, .int p1)] [.int r4.1] r4.2
  refine g_istore_n (lv' := [(3, .int r4.1), (0, .ref this), (1, .ref p0), (2, .int p1)]) (pc' := 9) O dX2_readAmount_8 rfl (by decide) rfl rfl ?_
  refine g_iload_n (pc' := 10) 3 O dX2_readAmount_9 rfl rfl rfl ?_
  refine g_if_eq (tgt := 32) (pc' := 13) O dX2_readAmount_10 (by decide) rfl (fun hc => ?_) (fun hc => ?_)
  · replace h := ip hc h
    refine g_sub (lv' := [(0, .ref this), (1, .ref p0), (2, .int p1), (3, .int r4.1)]) [1, 2, 3, 0] rfl ?_
    exact tX2_readAmount_32 O hf h
  · replace h := ine hc h
    refine g_aload_n (pc' := 14) 2 O dX2_readAmount_13 rfl rfl rfl ?_
    replace h := ob h; obtain ⟨v5, ev5, h⟩ := h
    refine g_getF (C := RX1) (T := TX1) (N := 8) (ci := 0) (k := 5) (pc' := 17) O dX2_readAmount_14 rfl inX1 (by decide) tw_224 (gI_F ev5) rfl ?_
    refine g_if_ne (tgt := 32) (pc' := 20) O dX2_readAmount_17 (by decide) rfl (fun hc => ?_) (fun hc => ?_)
    · replace h := ine hc h
      refine g_sub (lv' := [(0, .ref this), (1, .ref p0), (2, .int p1), (3, .int r4.1)]) [1, 2, 3, 0] rfl ?_
      exact tX2_readAmount_32 O hf h
    · replace h := ip hc h
      refine g_aload_n (pc' := 21) 1 O dX2_readAmount_20 rfl rfl rfl ?_
      refine g_aload_n (pc' := 22) 2 O dX2_readAmount_21 rfl rfl rfl ?_
      replace h := ob h; obtain ⟨u6, eu6, h⟩ := h
      replace h := ob h; obtain ⟨r7, er7, h⟩ := h
      refine g_callV (y := yX2_needMark) (ν := mX2_needMark) (n := 1) (As := [.ref p0]) (b := this) (st := []) (M2 := r7) (r1 := none) (pc' := 25) O dX2_readAmount_22 tw_395 tw_57 tw_394 tw_12 tw_392 hyX2_needMark rfl rfl eu6 (okX2_needMark er7) (Nat.le_of_ble_eq_true rfl) ⟨Nat.le_of_ble_eq_true rfl, Nat.le_of_ble_eq_true rfl⟩ ⟨Nat.le_of_ble_eq_true rfl, Nat.le_of_ble_eq_true rfl⟩ rfl ?_
      show G κ mX2_readAmount 0 0 25 [(3, .int r4.1), (0, .ref this), (1, .ref p0), (2, .int p1)] [] r7
      refine g_aload_n (pc' := 26) 1 O dX2_readAmount_25 rfl rfl rfl ?_
      refine g_bipush (v := 32) (pc' := 28) O dX2_readAmount_26 (by decide) rfl ?_
      replace h := ob h; obtain ⟨u8, eu8, h⟩ := h
      replace h := ob h; obtain ⟨r9, er9, h⟩ := h
      refine g_callV (y := yX2_passes) (ν := mX2_passes) (n := 1) (As := [.int (32 : Int32)]) (b := this) (st := []) (M2 := r9.2) (r1 := (some (.int r9.1))) (pc' := 31) O dX2_readAmount_28 tw_328 tw_57 tw_327 tw_3 tw_325 hyX2_passes rfl rfl eu8 (okX2_passes er9) (Nat.le_of_ble_eq_true rfl) ⟨Nat.le_of_ble_eq_true rfl, Nat.le_of_ble_eq_true rfl⟩ ⟨Nat.le_of_ble_eq_true rfl, Nat.le_of_ble_eq_true rfl⟩ rfl ?_
      show G κ mX2_readAmount 0 0 31 [(3, .int r4.1), (0, .ref this), (1, .ref p0), (2, .int p1)] [.int r9.1] r9.2
      refine g_pop (pc' := 32) O dX2_readAmount_31 rfl rfl ?_
      refine g_sub (lv' := [(0, .ref this), (1, .ref p0), (2, .int p1), (3, .int r4.1)]) [1, 2, 3, 0] rfl ?_
      exact tX2_readAmount_32 O hf h
