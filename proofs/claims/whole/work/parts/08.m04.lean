abbrev mX4_shorten : MD := (cX4_shorten, 2, RX4, none, { frames := 1, cells := 0, slots := 0, locals := 21 }, "shorten")
theorem hyX4_shorten : yX4_shorten.cls ≠ "java/lang/invoke/MethodHandle" ∧ yX4_shorten.cls ≠ "java/lang/invoke/VarHandle" ∧ (parseMethodDescriptor yX4_shorten.desc).map (fun d => d.parameters.length) = some 1 := by decide +kernel
def fX4_shorten  (this : Nat) (p0 : Int32) (M : Mem) : Option (Mem) :=
  (gI M 3 this 1).bind fun v1 =>
  (fJ9_max_7cf53 p0 (0 : Int32) M).bind fun r2 =>
  (fJ9_max_7cf53 (v1 - r2.1) (0 : Int32) r2.2).bind fun r3 =>
  (pF r3.2 3 this 1 (.int r3.1)).bind fun M4 =>
  some M4
set_option maxHeartbeats 4000000 in
set_option maxRecDepth 100000 in
theorem okX4_shorten {l : Launch} {p : Mem} {this : Nat} {p0 : Int32} {M : Mem} (h : fX4_shorten this p0 M = some p) : Cn l yX4_shorten mX4_shorten [.ref this, .int p0] M none p := by
  refine Cn.of [(0, .ref this), (1, .int p0)] (by decide) rfl rfl (Nat.le_of_ble_eq_true rfl) rfl (fun κ _ hf O => ?_)
  unfold fX4_shorten at h
  refine g_aload_n (pc' := 1) 0 O dX4_shorten_0 rfl rfl rfl ?_
  refine g_aload_n (pc' := 2) 0 O dX4_shorten_1 rfl rfl rfl ?_
  replace h := ob h; obtain ⟨v1, ev1, h⟩ := h
  refine g_getF (C := RX4) (T := TX4) (N := 2) (ci := 3) (k := 1) (pc' := 5) O dX4_shorten_2 rfl inX4 (by decide) tw_94 (gI_F ev1) rfl ?_
  refine g_iload_n (pc' := 6) 1 O dX4_shorten_5 rfl rfl rfl ?_
  refine g_iconst (v := 0) (pc' := 7) O dX4_shorten_6 (by decide) rfl ?_
  replace h := ob h; obtain ⟨r2, er2, h⟩ := h
  refine g_callS (y := yJ9_max_7cf53) (ν := mJ9_max_7cf53) (n := 2) (As := [.int p0, .int (0 : Int32)]) (b := 0) (st := [.int v1, .ref this]) (M2 := r2.2) (r1 := (some (.int r2.1))) (pc' := 10) O dX4_shorten_7 tw_90 tw_56 tw_89 tw_88 hyJ9_max_7cf53 rfl (okJ9_max_7cf53 er2) (Nat.le_of_ble_eq_true rfl) ⟨Nat.le_of_ble_eq_true rfl, Nat.le_of_ble_eq_true rfl⟩ ⟨Nat.le_of_ble_eq_true rfl, Nat.le_of_ble_eq_true rfl⟩ rfl ?_
  show G κ mX4_shorten 0 0 10 [(0, .ref this), (1, .int p0)] [.int r2.1, .int v1, .ref this] r2.2
  refine g_isub (pc' := 11) O dX4_shorten_10 rfl ?_
  refine g_iconst (v := 0) (pc' := 12) O dX4_shorten_11 (by decide) rfl ?_
  replace h := ob h; obtain ⟨r3, er3, h⟩ := h
  refine g_callS (y := yJ9_max_7cf53) (ν := mJ9_max_7cf53) (n := 2) (As := [.int (v1 - r2.1), .int (0 : Int32)]) (b := 0) (st := [.ref this]) (M2 := r3.2) (r1 := (some (.int r3.1))) (pc' := 15) O dX4_shorten_12 tw_90 tw_56 tw_89 tw_88 hyJ9_max_7cf53 rfl (okJ9_max_7cf53 er3) (Nat.le_of_ble_eq_true rfl) ⟨Nat.le_of_ble_eq_true rfl, Nat.le_of_ble_eq_true rfl⟩ ⟨Nat.le_of_ble_eq_true rfl, Nat.le_of_ble_eq_true rfl⟩ rfl ?_
  show G κ mX4_shorten 0 0 15 [(0, .ref this), (1, .int p0)] [.int r3.1, .ref this] r3.2
  replace h := ob h; obtain ⟨M4, eM4, h⟩ := h
  refine g_putF (C := RX4) (T := TX4) (N := 2) (ci := 3) (k := 1) (pc' := 18) O dX4_shorten_15 rfl inX4 (by decide) tw_94 tyX4 tyX4_ok nmX4 rfl rfl rfl rfl eM4 rfl ?_
  cases h
  exact g_vreturn O dX4_shorten_18 rfl hf (by decide) (by decide)
abbrev mX4_sameAs : MD := (cX4_sameAs, 3, RX4, (some .boolean), { frames := 1, cells := 0, slots := 0, locals := 21 }, "sameAs")
theorem hyX4_sameAs : yX4_sameAs.cls ≠ "java/lang/invoke/MethodHandle" ∧ yX4_sameAs.cls ≠ "java/lang/invoke/VarHandle" ∧ (parseMethodDescriptor yX4_sameAs.desc).map (fun d => d.parameters.length) = some 1 := by decide +kernel
def fX4_sameAs_15  : Nat → Nat → Nat → Int32 → Mem → Option (Int32 × Mem)
  | 0, _, _, _, _ => none
  | n + 1, x0, x1, x2, M =>
    (gI M 3 x0 1).bind fun v1 =>
    if v1 ≤ x2 then ((nz (1 : Int32)).bind fun z2 =>
    some (z2, M))
    else ((gN M 3 x0 0).bind fun v3 =>
    (aI M v3 x2).bind fun v4 =>
    (ck M 3 x1).bind fun u5 =>
    (fX4_byteAt x1 x2 M).bind fun r6 =>
    if v4 = r6.1 then (fX4_sameAs_15 n x0 x1 (x2 + (1 : Int32)) r6.2)
    else ((nz (0 : Int32)).bind fun z7 =>
    some (z7, r6.2)))
set_option maxHeartbeats 4000000 in
set_option maxRecDepth 100000 in
theorem tX4_sameAs_15 {κ : KT} {p : Int32 × Mem} (O : OkK κ mX4_sameAs) (hf : κ.2.2.2.2.2.2.2.2.2.2.2.2.2 = (some (.int p.1), p.2))  : ∀ (n : Nat) (x0 : Nat) (x1 : Nat) (x2 : Int32) (M : Mem), fX4_sameAs_15  n x0 x1 x2 M = some p → G κ mX4_sameAs 0 0 15 [(0, .ref x0), (1, .ref x1), (2, .int x2)] [] M := by
  intro n
  induction n with
  | zero => intro x0 x1 x2 M h; cases h
  | succ n ih =>
    intro x0 x1 x2 M h
    rw [fX4_sameAs_15] at h
    refine g_iload_n (pc' := 16) 2 O dX4_sameAs_15 rfl rfl rfl ?_
    refine g_aload_n (pc' := 17) 0 O dX4_sameAs_16 rfl rfl rfl ?_
    replace h := ob h; obtain ⟨v1, ev1, h⟩ := h
    refine g_getF (C := RX4) (T := TX4) (N := 2) (ci := 3) (k := 1) (pc' := 20) O dX4_sameAs_17 rfl inX4 (by decide) tw_94 (gI_F ev1) rfl ?_
    refine g_icmp_ge (tgt := 45) (pc' := 23) O dX4_sameAs_20 (by decide) rfl (fun hc => ?_) (fun hc => ?_)
    · replace h := ip hc h
      refine g_iconst (v := 1) (pc' := 46) O dX4_sameAs_45 (by decide) rfl ?_
      replace h := ob h; obtain ⟨z2, ez2, h⟩ := h
      obtain ⟨hz2, ez2b⟩ := nz_spec ez2
      rw [ez2b] at h
      cases h
      exact g_ireturn O dX4_sameAs_46 rfl (nz_nar hz2) hf (by decide) (by decide)
    · replace h := ine hc h
      refine g_aload_n (pc' := 24) 0 O dX4_sameAs_23 rfl rfl rfl ?_
      replace h := ob h; obtain ⟨v3, ev3, h⟩ := h
      refine g_getF (C := RX4) (T := TX4) (N := 2) (ci := 3) (k := 0) (pc' := 27) O dX4_sameAs_24 rfl inX4 (by decide) tw_91 (gN_F ev3) rfl ?_
      refine g_iload_n (pc' := 28) 2 O dX4_sameAs_27 rfl rfl rfl ?_
      replace h := ob h; obtain ⟨v4, ev4, h⟩ := h
      refine g_iald (pc' := 29) O dX4_sameAs_28 ev4 rfl ?_
      refine g_aload_n (pc' := 30) 1 O dX4_sameAs_29 rfl rfl rfl ?_
      refine g_iload_n (pc' := 31) 2 O dX4_sameAs_30 rfl rfl rfl ?_
      replace h := ob h; obtain ⟨u5, eu5, h⟩ := h
      replace h := ob h; obtain ⟨r6, er6, h⟩ := h
      refine g_callV (y := yX4_byteAt) (ν := mX4_byteAt) (n := 1) (As := [.int x2]) (b := x1) (st := [.int v4]) (M2 := r6.2) (r1 := (some (.int r6.1))) (pc' := 34) O dX4_sameAs_31 tw_615 tw_55 tw_613 tw_614 tw_646 hyX4_byteAt rfl rfl eu5 (okX4_byteAt er6) (Nat.le_of_ble_eq_true rfl) ⟨Nat.le_of_ble_eq_true rfl, Nat.le_of_ble_eq_true rfl⟩ ⟨Nat.le_of_ble_eq_true rfl, Nat.le_of_ble_eq_true rfl⟩ rfl ?_
      show G κ mX4_sameAs 0 0 34 [(0, .ref x0), (1, .ref x1), (2, .int x2)] [.int r6.1, .int v4] r6.2
      refine g_icmp_eq (tgt := 39) (pc' := 37) O dX4_sameAs_34 (by decide) rfl (fun hc => ?_) (fun hc => ?_)
      · replace h := ip hc h
        refine g_iinc (q := 2) (v := x2 + (1 : Int32)) (lv' := [(2, .int (x2 + (1 : Int32))), (0, .ref x0), (1, .ref x1)]) (pc' := 42) O dX4_sameAs_39 rfl rfl (by decide) rfl rfl ?_
        refine g_goto (pc' := 15) O dX4_sameAs_42 (by decide) ?_
        refine g_sub (lv' := [(0, .ref x0), (1, .ref x1), (2, .int (x2 + (1 : Int32)))]) [1, 2, 0] rfl ?_
        exact ih x0 x1 (x2 + (1 : Int32)) r6.2 h
      · replace h := ine hc h
        refine g_iconst (v := 0) (pc' := 38) O dX4_sameAs_37 (by decide) rfl ?_
        replace h := ob h; obtain ⟨z7, ez7, h⟩ := h
        obtain ⟨hz7, ez7b⟩ := nz_spec ez7
        rw [ez7b] at h
        cases h
        exact g_ireturn O dX4_sameAs_38 rfl (nz_nar hz7) hf (by decide) (by decide)
def fX4_sameAs  (this : Nat) (p0 : Nat) (M : Mem) : Option (Int32 × Mem) :=
  (gI M 3 this 1).bind fun v1 =>
  (gI M 3 p0 1).bind fun v2 =>
  if v1 = v2 then (fX4_sameAs_15 FU this p0 (0 : Int32) M)
  else ((nz (0 : Int32)).bind fun z3 =>
  some (z3, M))
set_option maxHeartbeats 4000000 in
set_option maxRecDepth 100000 in
theorem okX4_sameAs {l : Launch} {p : Int32 × Mem} {this : Nat} {p0 : Nat} {M : Mem} (h : fX4_sameAs this p0 M = some p) : Cn l yX4_sameAs mX4_sameAs [.ref this, .ref p0] M (some (.int p.1)) p.2 := by
  refine Cn.of [(0, .ref this), (1, .ref p0)] (by decide) rfl rfl (Nat.le_of_ble_eq_true rfl) rfl (fun κ _ hf O => ?_)
  unfold fX4_sameAs at h
  refine g_aload_n (pc' := 1) 0 O dX4_sameAs_0 rfl rfl rfl ?_
  replace h := ob h; obtain ⟨v1, ev1, h⟩ := h
  refine g_getF (C := RX4) (T := TX4) (N := 2) (ci := 3) (k := 1) (pc' := 4) O dX4_sameAs_1 rfl inX4 (by decide) tw_94 (gI_F ev1) rfl ?_
  refine g_aload_n (pc' := 5) 1 O dX4_sameAs_4 rfl rfl rfl ?_
  replace h := ob h; obtain ⟨v2, ev2, h⟩ := h
  refine g_getF (C := RX4) (T := TX4) (N := 2) (ci := 3) (k := 1) (pc' := 8) O dX4_sameAs_5 rfl inX4 (by decide) tw_94 (gI_F ev2) rfl ?_
  refine g_icmp_eq (tgt := 13) (pc' := 11) O dX4_sameAs_8 (by decide) rfl (fun hc => ?_) (fun hc => ?_)
  · replace h := ip hc h
    refine g_iconst (v := 0) (pc' := 14) O dX4_sameAs_13 (by decide) rfl ?_
    refine g_istore_n (lv' := [(2, .int (0 : Int32)), (0, .ref this), (1, .ref p0)]) (pc' := 15) O dX4_sameAs_14 rfl (by decide) rfl rfl ?_
    refine g_sub (lv' := [(0, .ref this), (1, .ref p0), (2, .int (0 : Int32))]) [1, 2, 0] rfl ?_
    exact tX4_sameAs_15 O hf FU this p0 (0 : Int32) M h
  · replace h := ine hc h
    refine g_iconst (v := 0) (pc' := 12) O dX4_sameAs_11 (by decide) rfl ?_
    replace h := ob h; obtain ⟨z3, ez3, h⟩ := h
    obtain ⟨hz3, ez3b⟩ := nz_spec ez3
    rw [ez3b] at h
    cases h
    exact g_ireturn O dX4_sameAs_12 rfl (nz_nar hz3) hf (by decide) (by decide)
abbrev mX5_nameOf : MD := (cX5_nameOf, 1, RX5, (some (.object "java/lang/String")), { frames := 0, cells := 0, slots := 0, locals := 0 }, "nameOf")
theorem hyX5_nameOf : yX5_nameOf.cls ≠ "java/lang/invoke/MethodHandle" ∧ yX5_nameOf.cls ≠ "java/lang/invoke/VarHandle" ∧ (parseMethodDescriptor yX5_nameOf.desc).map (fun d => d.parameters.length) = some 1 := by decide +kernel
def fX5_nameOf  (p0 : Int32) (M : Mem) : Option (Nat × Mem) :=
  if p0 = (0 : Int32) then (some ((M.2.2.1 56), M))
  else (if p0 = (1 : Int32) then (some ((M.2.2.1 58), M))
  else (if p0 = (2 : Int32) then (some ((M.2.2.1 60), M))
  else (if p0 = (3 : Int32) then (some ((M.2.2.1 62), M))
  else (if p0 = (4 : Int32) then (some ((M.2.2.1 64), M))
  else (if p0 = (5 : Int32) then (some ((M.2.2.1 66), M))
  else (if p0 = (6 : Int32) then (some ((M.2.2.1 68), M))
  else (if p0 = (7 : Int32) then (some ((M.2.2.1 70), M))
  else (if p0 = (8 : Int32) then (some ((M.2.2.1 72), M))
  else (if p0 = (9 : Int32) then (some ((M.2.2.1 74), M))
  else (if p0 = (10 : Int32) then (some ((M.2.2.1 76), M))
  else (if p0 = (11 : Int32) then (some ((M.2.2.1 78), M))
  else (if p0 = (12 : Int32) then (some ((M.2.2.1 80), M))
  else (if p0 = (13 : Int32) then (some ((M.2.2.1 82), M))
  else (if p0 = (14 : Int32) then (some ((M.2.2.1 84), M))
  else (if p0 = (15 : Int32) then (some ((M.2.2.1 86), M))
  else (if p0 = (16 : Int32) then (some ((M.2.2.1 88), M))
  else (if p0 = (17 : Int32) then (some ((M.2.2.1 90), M))
  else (if p0 = (18 : Int32) then (some ((M.2.2.1 92), M))
  else (if p0 = (19 : Int32) then (some ((M.2.2.1 94), M))
  else (if p0 = (20 : Int32) then (some ((M.2.2.1 96), M))
  else (if p0 = (21 : Int32) then (some ((M.2.2.1 98), M))
  else (if p0 = (22 : Int32) then (some ((M.2.2.1 100), M))
  else (if p0 = (23 : Int32) then (some ((M.2.2.1 102), M))
  else (if p0 = (24 : Int32) then (some ((M.2.2.1 104), M))
  else (if p0 = (25 : Int32) then (some ((M.2.2.1 106), M))
  else (if p0 = (26 : Int32) then (some ((M.2.2.1 108), M))
  else (if p0 = (27 : Int32) then (some ((M.2.2.1 110), M))
  else (if p0 = (28 : Int32) then (some ((M.2.2.1 112), M))
  else (if p0 = (29 : Int32) then (some ((M.2.2.1 114), M))
  else (if p0 = (30 : Int32) then (some ((M.2.2.1 116), M))
  else (some ((M.2.2.1 118), M))))))))))))))))))))))))))))))))
set_option maxHeartbeats 4000000 in
set_option maxRecDepth 100000 in
theorem okX5_nameOf {l : Launch} {p : Nat × Mem} {p0 : Int32} {M : Mem} (h : fX5_nameOf p0 M = some p) : Cn l yX5_nameOf mX5_nameOf [.int p0] M (some (.ref p.1)) p.2 := by
  refine Cn.of [(0, .int p0)] (by decide) rfl rfl (Nat.le_of_ble_eq_true rfl) rfl (fun κ _ hf O => ?_)
  unfold fX5_nameOf at h
  refine g_iload_n (pc' := 1) 0 O dX5_nameOf_0 rfl rfl rfl ?_
  by_cases hs0 : p0 = (0 : Int32)
  · replace h := ip hs0 h
    refine g_tableIn (off := 139) (pc' := 140) O dX5_nameOf_1 (by rw [hs0]; decide) (by rw [hs0]; decide) (by rw [hs0]; decide) (by decide) ?_
    refine g_ldcS (tx := "zero") (pc' := 142) O dX5_nameOf_140 rfl (by decide) rfl ?_
    cases h
    exact g_areturn (x := (some (M.2.2.1 56))) O dX5_nameOf_142 rfl (Or.inl ⟨_, rfl⟩) hf (by decide) (by decide)
  replace h := ine hs0 h
  by_cases hs1 : p0 = (1 : Int32)
  · replace h := ip hs1 h
    refine g_tableIn (off := 142) (pc' := 143) O dX5_nameOf_1 (by rw [hs1]; decide) (by rw [hs1]; decide) (by rw [hs1]; decide) (by decide) ?_
    refine g_ldcS (tx := "one") (pc' := 145) O dX5_nameOf_143 rfl (by decide) rfl ?_
    cases h
    exact g_areturn (x := (some (M.2.2.1 58))) O dX5_nameOf_145 rfl (Or.inl ⟨_, rfl⟩) hf (by decide) (by decide)
  replace h := ine hs1 h
  by_cases hs2 : p0 = (2 : Int32)
  · replace h := ip hs2 h
    refine g_tableIn (off := 145) (pc' := 146) O dX5_nameOf_1 (by rw [hs2]; decide) (by rw [hs2]; decide) (by rw [hs2]; decide) (by decide) ?_
    refine g_ldcS (tx := "two") (pc' := 148) O dX5_nameOf_146 rfl (by decide) rfl ?_
    cases h
    exact g_areturn (x := (some (M.2.2.1 60))) O dX5_nameOf_148 rfl (Or.inl ⟨_, rfl⟩) hf (by decide) (by decide)
  replace h := ine hs2 h
  by_cases hs3 : p0 = (3 : Int32)
  · replace h := ip hs3 h
    refine g_tableIn (off := 148) (pc' := 149) O dX5_nameOf_1 (by rw [hs3]; decide) (by rw [hs3]; decide) (by rw [hs3]; decide) (by decide) ?_
    refine g_ldcS (tx := "three") (pc' := 151) O dX5_nameOf_149 rfl (by decide) rfl ?_
    cases h
    exact g_areturn (x := (some (M.2.2.1 62))) O dX5_nameOf_151 rfl (Or.inl ⟨_, rfl⟩) hf (by decide) (by decide)
  replace h := ine hs3 h
  by_cases hs4 : p0 = (4 : Int32)
  · replace h := ip hs4 h
    refine g_tableIn (off := 151) (pc' := 152) O dX5_nameOf_1 (by rw [hs4]; decide) (by rw [hs4]; decide) (by rw [hs4]; decide) (by decide) ?_
    refine g_ldcS (tx := "four") (pc' := 154) O dX5_nameOf_152 rfl (by decide) rfl ?_
    cases h
    exact g_areturn (x := (some (M.2.2.1 64))) O dX5_nameOf_154 rfl (Or.inl ⟨_, rfl⟩) hf (by decide) (by decide)
  replace h := ine hs4 h
  by_cases hs5 : p0 = (5 : Int32)
  · replace h := ip hs5 h
    refine g_tableIn (off := 154) (pc' := 155) O dX5_nameOf_1 (by rw [hs5]; decide) (by rw [hs5]; decide) (by rw [hs5]; decide) (by decide) ?_
    refine g_ldcS (tx := "five") (pc' := 157) O dX5_nameOf_155 rfl (by decide) rfl ?_
    cases h
    exact g_areturn (x := (some (M.2.2.1 66))) O dX5_nameOf_157 rfl (Or.inl ⟨_, rfl⟩) hf (by decide) (by decide)
  replace h := ine hs5 h
  by_cases hs6 : p0 = (6 : Int32)
  · replace h := ip hs6 h
    refine g_tableIn (off := 157) (pc' := 158) O dX5_nameOf_1 (by rw [hs6]; decide) (by rw [hs6]; decide) (by rw [hs6]; decide) (by decide) ?_
    refine g_ldcS (tx := "six") (pc' := 160) O dX5_nameOf_158 rfl (by decide) rfl ?_
    cases h
    exact g_areturn (x := (some (M.2.2.1 68))) O dX5_nameOf_160 rfl (Or.inl ⟨_, rfl⟩) hf (by decide) (by decide)
  replace h := ine hs6 h
  by_cases hs7 : p0 = (7 : Int32)
  · replace h := ip hs7 h
    refine g_tableIn (off := 160) (pc' := 161) O dX5_nameOf_1 (by rw [hs7]; decide) (by rw [hs7]; decide) (by rw [hs7]; decide) (by decide) ?_
    refine g_ldcS (tx := "seven") (pc' := 163) O dX5_nameOf_161 rfl (by decide) rfl ?_
    cases h
    exact g_areturn (x := (some (M.2.2.1 70))) O dX5_nameOf_163 rfl (Or.inl ⟨_, rfl⟩) hf (by decide) (by decide)
  replace h := ine hs7 h
  by_cases hs8 : p0 = (8 : Int32)
  · replace h := ip hs8 h
    refine g_tableIn (off := 163) (pc' := 164) O dX5_nameOf_1 (by rw [hs8]; decide) (by rw [hs8]; decide) (by rw [hs8]; decide) (by decide) ?_
    refine g_ldcS (tx := "eight") (pc' := 166) O dX5_nameOf_164 rfl (by decide) rfl ?_
    cases h
    exact g_areturn (x := (some (M.2.2.1 72))) O dX5_nameOf_166 rfl (Or.inl ⟨_, rfl⟩) hf (by decide) (by decide)
  replace h := ine hs8 h
  by_cases hs9 : p0 = (9 : Int32)
  · replace h := ip hs9 h
    refine g_tableIn (off := 166) (pc' := 167) O dX5_nameOf_1 (by rw [hs9]; decide) (by rw [hs9]; decide) (by rw [hs9]; decide) (by decide) ?_
    refine g_ldcS (tx := "nine") (pc' := 169) O dX5_nameOf_167 rfl (by decide) rfl ?_
    cases h
    exact g_areturn (x := (some (M.2.2.1 74))) O dX5_nameOf_169 rfl (Or.inl ⟨_, rfl⟩) hf (by decide) (by decide)
  replace h := ine hs9 h
  by_cases hs10 : p0 = (10 : Int32)
  · replace h := ip hs10 h
    refine g_tableIn (off := 169) (pc' := 170) O dX5_nameOf_1 (by rw [hs10]; decide) (by rw [hs10]; decide) (by rw [hs10]; decide) (by decide) ?_
    refine g_ldcS (tx := "ten") (pc' := 172) O dX5_nameOf_170 rfl (by decide) rfl ?_
    cases h
    exact g_areturn (x := (some (M.2.2.1 76))) O dX5_nameOf_172 rfl (Or.inl ⟨_, rfl⟩) hf (by decide) (by decide)
  replace h := ine hs10 h
  by_cases hs11 : p0 = (11 : Int32)
  · replace h := ip hs11 h
    refine g_tableIn (off := 172) (pc' := 173) O dX5_nameOf_1 (by rw [hs11]; decide) (by rw [hs11]; decide) (by rw [hs11]; decide) (by decide) ?_
    refine g_ldcS (tx := "eleven") (pc' := 175) O dX5_nameOf_173 rfl (by decide) rfl ?_
    cases h
    exact g_areturn (x := (some (M.2.2.1 78))) O dX5_nameOf_175 rfl (Or.inl ⟨_, rfl⟩) hf (by decide) (by decide)
  replace h := ine hs11 h
  by_cases hs12 : p0 = (12 : Int32)
  · replace h := ip hs12 h
    refine g_tableIn (off := 175) (pc' := 176) O dX5_nameOf_1 (by rw [hs12]; decide) (by rw [hs12]; decide) (by rw [hs12]; decide) (by decide) ?_
    refine g_ldcS (tx := "twelve") (pc' := 178) O dX5_nameOf_176 rfl (by decide) rfl ?_
    cases h
    exact g_areturn (x := (some (M.2.2.1 80))) O dX5_nameOf_178 rfl (Or.inl ⟨_, rfl⟩) hf (by decide) (by decide)
  replace h := ine hs12 h
  by_cases hs13 : p0 = (13 : Int32)
  · replace h := ip hs13 h
    refine g_tableIn (off := 178) (pc' := 179) O dX5_nameOf_1 (by rw [hs13]; decide) (by rw [hs13]; decide) (by rw [hs13]; decide) (by decide) ?_
    refine g_ldcS (tx := "thirteen") (pc' := 181) O dX5_nameOf_179 rfl (by decide) rfl ?_
    cases h
    exact g_areturn (x := (some (M.2.2.1 82))) O dX5_nameOf_181 rfl (Or.inl ⟨_, rfl⟩) hf (by decide) (by decide)
  replace h := ine hs13 h
  by_cases hs14 : p0 = (14 : Int32)
  · replace h := ip hs14 h
    refine g_tableIn (off := 181) (pc' := 182) O dX5_nameOf_1 (by rw [hs14]; decide) (by rw [hs14]; decide) (by rw [hs14]; decide) (by decide) ?_
    refine g_ldcS (tx := "fourteen") (pc' := 184) O dX5_nameOf_182 rfl (by decide) rfl ?_
    cases h
    exact g_areturn (x := (some (M.2.2.1 84))) O dX5_nameOf_184 rfl (Or.inl ⟨_, rfl⟩) hf (by decide) (by decide)
  replace h := ine hs14 h
  by_cases hs15 : p0 = (15 : Int32)
  · replace h := ip hs15 h
    refine g_tableIn (off := 184) (pc' := 185) O dX5_nameOf_1 (by rw [hs15]; decide) (by rw [hs15]; decide) (by rw [hs15]; decide) (by decide) ?_
    refine g_ldcS (tx := "fifteen") (pc' := 187) O dX5_nameOf_185 rfl (by decide) rfl ?_
    cases h
    exact g_areturn (x := (some (M.2.2.1 86))) O dX5_nameOf_187 rfl (Or.inl ⟨_, rfl⟩) hf (by decide) (by decide)
  replace h := ine hs15 h
  by_cases hs16 : p0 = (16 : Int32)
  · replace h := ip hs16 h
    refine g_tableIn (off := 187) (pc' := 188) O dX5_nameOf_1 (by rw [hs16]; decide) (by rw [hs16]; decide) (by rw [hs16]; decide) (by decide) ?_
    refine g_ldcS (tx := "sixteen") (pc' := 190) O dX5_nameOf_188 rfl (by decide) rfl ?_
    cases h
    exact g_areturn (x := (some (M.2.2.1 88))) O dX5_nameOf_190 rfl (Or.inl ⟨_, rfl⟩) hf (by decide) (by decide)
  replace h := ine hs16 h
  by_cases hs17 : p0 = (17 : Int32)
  · replace h := ip hs17 h
    refine g_tableIn (off := 190) (pc' := 191) O dX5_nameOf_1 (by rw [hs17]; decide) (by rw [hs17]; decide) (by rw [hs17]; decide) (by decide) ?_
    refine g_ldcS (tx := "seventeen") (pc' := 193) O dX5_nameOf_191 rfl (by decide) rfl ?_
    cases h
    exact g_areturn (x := (some (M.2.2.1 90))) O dX5_nameOf_193 rfl (Or.inl ⟨_, rfl⟩) hf (by decide) (by decide)
  replace h := ine hs17 h
  by_cases hs18 : p0 = (18 : Int32)
  · replace h := ip hs18 h
    refine g_tableIn (off := 193) (pc' := 194) O dX5_nameOf_1 (by rw [hs18]; decide) (by rw [hs18]; decide) (by rw [hs18]; decide) (by decide) ?_
    refine g_ldcS (tx := "eighteen") (pc' := 196) O dX5_nameOf_194 rfl (by decide) rfl ?_
    cases h
    exact g_areturn (x := (some (M.2.2.1 92))) O dX5_nameOf_196 rfl (Or.inl ⟨_, rfl⟩) hf (by decide) (by decide)
  replace h := ine hs18 h
  by_cases hs19 : p0 = (19 : Int32)
  · replace h := ip hs19 h
    refine g_tableIn (off := 196) (pc' := 197) O dX5_nameOf_1 (by rw [hs19]; decide) (by rw [hs19]; decide) (by rw [hs19]; decide) (by decide) ?_
    refine g_ldcS (tx := "nineteen") (pc' := 199) O dX5_nameOf_197 rfl (by decide) rfl ?_
    cases h
    exact g_areturn (x := (some (M.2.2.1 94))) O dX5_nameOf_199 rfl (Or.inl ⟨_, rfl⟩) hf (by decide) (by decide)
  replace h := ine hs19 h
  by_cases hs20 : p0 = (20 : Int32)
  · replace h := ip hs20 h
    refine g_tableIn (off := 199) (pc' := 200) O dX5_nameOf_1 (by rw [hs20]; decide) (by rw [hs20]; decide) (by rw [hs20]; decide) (by decide) ?_
    refine g_ldcS (tx := "twenty") (pc' := 202) O dX5_nameOf_200 rfl (by decide) rfl ?_
    cases h
    exact g_areturn (x := (some (M.2.2.1 96))) O dX5_nameOf_202 rfl (Or.inl ⟨_, rfl⟩) hf (by decide) (by decide)
  replace h := ine hs20 h
  by_cases hs21 : p0 = (21 : Int32)
  · replace h := ip hs21 h
    refine g_tableIn (off := 202) (pc' := 203) O dX5_nameOf_1 (by rw [hs21]; decide) (by rw [hs21]; decide) (by rw [hs21]; decide) (by decide) ?_
    refine g_ldcS (tx := "thirty") (pc' := 205) O dX5_nameOf_203 rfl (by decide) rfl ?_
    cases h
    exact g_areturn (x := (some (M.2.2.1 98))) O dX5_nameOf_205 rfl (Or.inl ⟨_, rfl⟩) hf (by decide) (by decide)
  replace h := ine hs21 h
  by_cases hs22 : p0 = (22 : Int32)
  · replace h := ip hs22 h
    refine g_tableIn (off := 205) (pc' := 206) O dX5_nameOf_1 (by rw [hs22]; decide) (by rw [hs22]; decide) (by rw [hs22]; decide) (by decide) ?_
    refine g_ldcS (tx := "forty") (pc' := 208) O dX5_nameOf_206 rfl (by decide) rfl ?_
    cases h
    exact g_areturn (x := (some (M.2.2.1 100))) O dX5_nameOf_208 rfl (Or.inl ⟨_, rfl⟩) hf (by decide) (by decide)
  replace h := ine hs22 h
  by_cases hs23 : p0 = (23 : Int32)
  · replace h := ip hs23 h
    refine g_tableIn (off := 208) (pc' := 209) O dX5_nameOf_1 (by rw [hs23]; decide) (by rw [hs23]; decide) (by rw [hs23]; decide) (by decide) ?_
    refine g_ldcS (tx := "fifty") (pc' := 211) O dX5_nameOf_209 rfl (by decide) rfl ?_
    cases h
    exact g_areturn (x := (some (M.2.2.1 102))) O dX5_nameOf_211 rfl (Or.inl ⟨_, rfl⟩) hf (by decide) (by decide)
  replace h := ine hs23 h
  by_cases hs24 : p0 = (24 : Int32)
  · replace h := ip hs24 h
    refine g_tableIn (off := 211) (pc' := 212) O dX5_nameOf_1 (by rw [hs24]; decide) (by rw [hs24]; decide) (by rw [hs24]; decide) (by decide) ?_
    refine g_ldcS (tx := "sixty") (pc' := 214) O dX5_nameOf_212 rfl (by decide) rfl ?_
    cases h
    exact g_areturn (x := (some (M.2.2.1 104))) O dX5_nameOf_214 rfl (Or.inl ⟨_, rfl⟩) hf (by decide) (by decide)
  replace h := ine hs24 h
  by_cases hs25 : p0 = (25 : Int32)
  · replace h := ip hs25 h
    refine g_tableIn (off := 214) (pc' := 215) O dX5_nameOf_1 (by rw [hs25]; decide) (by rw [hs25]; decide) (by rw [hs25]; decide) (by decide) ?_
    refine g_ldcS (tx := "seventy") (pc' := 217) O dX5_nameOf_215 rfl (by decide) rfl ?_
    cases h
    exact g_areturn (x := (some (M.2.2.1 106))) O dX5_nameOf_217 rfl (Or.inl ⟨_, rfl⟩) hf (by decide) (by decide)
  replace h := ine hs25 h
  by_cases hs26 : p0 = (26 : Int32)
  · replace h := ip hs26 h
    refine g_tableIn (off := 217) (pc' := 218) O dX5_nameOf_1 (by rw [hs26]; decide) (by rw [hs26]; decide) (by rw [hs26]; decide) (by decide) ?_
    refine g_ldcS (tx := "eighty") (pc' := 220) O dX5_nameOf_218 rfl (by decide) rfl ?_
    cases h
    exact g_areturn (x := (some (M.2.2.1 108))) O dX5_nameOf_220 rfl (Or.inl ⟨_, rfl⟩) hf (by decide) (by decide)
  replace h := ine hs26 h
  by_cases hs27 : p0 = (27 : Int32)
  · replace h := ip hs27 h
    refine g_tableIn (off := 220) (pc' := 221) O dX5_nameOf_1 (by rw [hs27]; decide) (by rw [hs27]; decide) (by rw [hs27]; decide) (by decide) ?_
    refine g_ldcS (tx := "ninety") (pc' := 223) O dX5_nameOf_221 rfl (by decide) rfl ?_
    cases h
    exact g_areturn (x := (some (M.2.2.1 110))) O dX5_nameOf_223 rfl (Or.inl ⟨_, rfl⟩) hf (by decide) (by decide)
  replace h := ine hs27 h
  by_cases hs28 : p0 = (28 : Int32)
  · replace h := ip hs28 h
    refine g_tableIn (off := 223) (pc' := 224) O dX5_nameOf_1 (by rw [hs28]; decide) (by rw [hs28]; decide) (by rw [hs28]; decide) (by decide) ?_
    refine g_ldcS (tx := "hundred") (pc' := 226) O dX5_nameOf_224 rfl (by decide) rfl ?_
    cases h
    exact g_areturn (x := (some (M.2.2.1 112))) O dX5_nameOf_226 rfl (Or.inl ⟨_, rfl⟩) hf (by decide) (by decide)
  replace h := ine hs28 h
  by_cases hs29 : p0 = (29 : Int32)
  · replace h := ip hs29 h
    refine g_tableIn (off := 226) (pc' := 227) O dX5_nameOf_1 (by rw [hs29]; decide) (by rw [hs29]; decide) (by rw [hs29]; decide) (by decide) ?_
    refine g_ldcS (tx := "thousand") (pc' := 229) O dX5_nameOf_227 rfl (by decide) rfl ?_
    cases h
    exact g_areturn (x := (some (M.2.2.1 114))) O dX5_nameOf_229 rfl (Or.inl ⟨_, rfl⟩) hf (by decide) (by decide)
  replace h := ine hs29 h
  by_cases hs30 : p0 = (30 : Int32)
  · replace h := ip hs30 h
    refine g_tableIn (off := 229) (pc' := 230) O dX5_nameOf_1 (by rw [hs30]; decide) (by rw [hs30]; decide) (by rw [hs30]; decide) (by decide) ?_
    refine g_ldcS (tx := "million") (pc' := 232) O dX5_nameOf_230 rfl (by decide) rfl ?_
    cases h
    exact g_areturn (x := (some (M.2.2.1 116))) O dX5_nameOf_232 rfl (Or.inl ⟨_, rfl⟩) hf (by decide) (by decide)
  replace h := ine hs30 h
  refine g_tableOut (pc' := 233) O dX5_nameOf_1 (by have q0 := lv_neT hs0 (show (0 : Int32).toInt = 0 by decide); have q1 := lv_neT hs1 (show (1 : Int32).toInt = 1 by decide); have q2 := lv_neT hs2 (show (2 : Int32).toInt = 2 by decide); have q3 := lv_neT hs3 (show (3 : Int32).toInt = 3 by decide); have q4 := lv_neT hs4 (show (4 : Int32).toInt = 4 by decide); have q5 := lv_neT hs5 (show (5 : Int32).toInt = 5 by decide); have q6 := lv_neT hs6 (show (6 : Int32).toInt = 6 by decide); have q7 := lv_neT hs7 (show (7 : Int32).toInt = 7 by decide); have q8 := lv_neT hs8 (show (8 : Int32).toInt = 8 by decide); have q9 := lv_neT hs9 (show (9 : Int32).toInt = 9 by decide); have q10 := lv_neT hs10 (show (10 : Int32).toInt = 10 by decide); have q11 := lv_neT hs11 (show (11 : Int32).toInt = 11 by decide); have q12 := lv_neT hs12 (show (12 : Int32).toInt = 12 by decide); have q13 := lv_neT hs13 (show (13 : Int32).toInt = 13 by decide); have q14 := lv_neT hs14 (show (14 : Int32).toInt = 14 by decide); have q15 := lv_neT hs15 (show (15 : Int32).toInt = 15 by decide); have q16 := lv_neT hs16 (show (16 : Int32).toInt = 16 by decide); have q17 := lv_neT hs17 (show (17 : Int32).toInt = 17 by decide); have q18 := lv_neT hs18 (show (18 : Int32).toInt = 18 by decide); have q19 := lv_neT hs19 (show (19 : Int32).toInt = 19 by decide); have q20 := lv_neT hs20 (show (20 : Int32).toInt = 20 by decide); have q21 := lv_neT hs21 (show (21 : Int32).toInt = 21 by decide); have q22 := lv_neT hs22 (show (22 : Int32).toInt = 22 by decide); have q23 := lv_neT hs23 (show (23 : Int32).toInt = 23 by decide); have q24 := lv_neT hs24 (show (24 : Int32).toInt = 24 by decide); have q25 := lv_neT hs25 (show (25 : Int32).toInt = 25 by decide); have q26 := lv_neT hs26 (show (26 : Int32).toInt = 26 by decide); have q27 := lv_neT hs27 (show (27 : Int32).toInt = 27 by decide); have q28 := lv_neT hs28 (show (28 : Int32).toInt = 28 by decide); have q29 := lv_neT hs29 (show (29 : Int32).toInt = 29 by decide); have q30 := lv_neT hs30 (show (30 : Int32).toInt = 30 by decide); omega) (by decide) ?_
  refine g_ldcS (tx := "") (pc' := 235) O dX5_nameOf_233 rfl (by decide) rfl ?_
  cases h
  exact g_areturn (x := (some (M.2.2.1 118))) O dX5_nameOf_235 rfl (Or.inl ⟨_, rfl⟩) hf (by decide) (by decide)
abbrev mJ0_coder_7d493 : MD := (cJ0_coder_7d493, 1, RJ0, (some .byte), { frames := 0, cells := 0, slots := 0, locals := 0 }, "coder")
theorem hyJ0_coder_7d493 : yJ0_coder_7d493.cls ≠ "java/lang/invoke/MethodHandle" ∧ yJ0_coder_7d493.cls ≠ "java/lang/invoke/VarHandle" ∧ (parseMethodDescriptor yJ0_coder_7d493.desc).map (fun d => d.parameters.length) = some 0 := by decide +kernel
def fJ0_coder_7d493_14  (s0 : Int32) (M : Mem) : Option (Int32 × Mem) :=
  (nr .byte s0).bind fun z1 =>
  some (z1, M)
set_option maxHeartbeats 4000000 in
set_option maxRecDepth 100000 in
theorem tJ0_coder_7d493_14 {κ : KT} {p : Int32 × Mem} (O : OkK κ mJ0_coder_7d493) (hf : κ.2.2.2.2.2.2.2.2.2.2.2.2.2 = (some (.int p.1), p.2))  {s0 : Int32} {M : Mem} (h : fJ0_coder_7d493_14  s0 M = some p) : G κ mJ0_coder_7d493 0 0 14 [] [.int s0] M := by
  unfold fJ0_coder_7d493_14 at h
  replace h := ob h; obtain ⟨z1, ez1, h⟩ := h
  obtain ⟨hz1, ez1b⟩ := nr_spec ez1
  rw [ez1b] at h
  cases h
  exact g_ireturn O dJ0_coder_7d493_14 rfl (nr_nar (by simp) hz1) hf (by decide) (by decide)
def fJ0_coder_7d493  (this : Nat) (M : Mem) : Option (Int32 × Mem) :=
  if (1 : Int32) = 0 then (fJ0_coder_7d493_14 (1 : Int32) M)
  else ((kV M this).bind fun v1 =>
  fJ0_coder_7d493_14 (0 : Int32) M)
set_option maxHeartbeats 4000000 in
set_option maxRecDepth 100000 in
theorem okJ0_coder_7d493 {l : Launch} {p : Int32 × Mem} {this : Nat} {M : Mem} (h : fJ0_coder_7d493 this M = some p) : Cn l yJ0_coder_7d493 mJ0_coder_7d493 [.ref this] M (some (.int p.1)) p.2 := by
  refine Cn.ofF [(0, .ref this)] (by decide +kernel) rfl rfl (Nat.le_of_ble_eq_true rfl) rfl (fun κ _ hf O => ?_)
  unfold fJ0_coder_7d493 at h
  refine g_getS1 (pc' := 3) O dJ0_coder_7d493_0 tw_563 rfl ?_
  refine g_if_eq (tgt := 13) (pc' := 6) O dJ0_coder_7d493_3 (by decide) rfl (fun hc => ?_) (fun hc => ?_)
  · replace h := ip hc h
    refine g_iconst (v := 1) (pc' := 14) O dJ0_coder_7d493_13 (by decide) rfl ?_
    refine g_sub (lv' := []) [] rfl ?_
    exact tJ0_coder_7d493_14 O hf h
  · replace h := ine hc h
    refine g_aload_n (pc' := 7) 0 O dJ0_coder_7d493_6 rfl rfl rfl ?_
    replace h := ob h; obtain ⟨v1, ev1, h⟩ := h
    refine g_kC (pc' := 10) O dJ0_coder_7d493_7 tw_1092 ev1 rfl ?_
    refine g_goto (pc' := 14) O dJ0_coder_7d493_10 (by decide) ?_
    refine g_sub (lv' := []) [] rfl ?_
    exact tJ0_coder_7d493_14 O hf h
abbrev mJ0_length_8abf5 : MD := (cJ0_length_8abf5, 1, RJ0, (some .int), { frames := 1, cells := 0, slots := 0, locals := 20 }, "length")
theorem hyJ0_length_8abf5 : yJ0_length_8abf5.cls ≠ "java/lang/invoke/MethodHandle" ∧ yJ0_length_8abf5.cls ≠ "java/lang/invoke/VarHandle" ∧ (parseMethodDescriptor yJ0_length_8abf5.desc).map (fun d => d.parameters.length) = some 0 := by decide +kernel
def fJ0_length_8abf5  (this : Nat) (M : Mem) : Option (Int32 × Mem) :=
  (kV M this).bind fun v1 =>
  (kN M v1).bind fun v2 =>
  (ckS M this).bind fun u3 =>
  (fJ0_coder_7d493 this M).bind fun r4 =>
  some ((v2 >>> (r4.1 &&& 31)), r4.2)
set_option maxHeartbeats 4000000 in
set_option maxRecDepth 100000 in
theorem okJ0_length_8abf5 {l : Launch} {p : Int32 × Mem} {this : Nat} {M : Mem} (h : fJ0_length_8abf5 this M = some p) : Cn l yJ0_length_8abf5 mJ0_length_8abf5 [.ref this] M (some (.int p.1)) p.2 := by
  refine Cn.ofF [(0, .ref this)] (by decide +kernel) rfl rfl (Nat.le_of_ble_eq_true rfl) rfl (fun κ _ hf O => ?_)
  unfold fJ0_length_8abf5 at h
  refine g_aload_n (pc' := 1) 0 O dJ0_length_8abf5_0 rfl rfl rfl ?_
  replace h := ob h; obtain ⟨v1, ev1, h⟩ := h
  refine g_kV (pc' := 4) O dJ0_length_8abf5_1 tw_1091 ev1 rfl ?_
  replace h := ob h; obtain ⟨v2, ev2, h⟩ := h
  refine g_kalen (pc' := 5) O dJ0_length_8abf5_4 ev2 rfl ?_
  refine g_aload_n (pc' := 6) 0 O dJ0_length_8abf5_5 rfl rfl rfl ?_
  replace h := ob h; obtain ⟨u3, eu3, h⟩ := h
  replace h := ob h; obtain ⟨r4, er4, h⟩ := h
  refine g_callVS (y := yJ0_coder_7d493) (ν := mJ0_coder_7d493) (n := 0) (As := []) (b := this) (st := [.int v2]) (M2 := r4.2) (r1 := (some (.int r4.1))) (pc' := 9) O dJ0_length_8abf5_6 tw_562 tw_63 tw_560 tw_561 tw_559 hyJ0_coder_7d493 rfl rfl eu3 (okJ0_coder_7d493 er4) (Nat.le_of_ble_eq_true rfl) ⟨Nat.le_of_ble_eq_true rfl, Nat.le_of_ble_eq_true rfl⟩ ⟨Nat.le_of_ble_eq_true rfl, Nat.le_of_ble_eq_true rfl⟩ rfl ?_
  show G κ mJ0_length_8abf5 0 0 9 [(0, .ref this)] [.int r4.1, .int v2] r4.2
  refine g_ishr (pc' := 10) O dJ0_length_8abf5_9 rfl ?_
  cases h
  exact g_ireturn O dJ0_length_8abf5_10 rfl rfl hf (by decide) (by decide)
abbrev mJ0_isLatin1_aae02 : MD := (cJ0_isLatin1_aae02, 1, RJ0, (some .boolean), { frames := 0, cells := 0, slots := 0, locals := 0 }, "isLatin1")
theorem hyJ0_isLatin1_aae02 : yJ0_isLatin1_aae02.cls ≠ "java/lang/invoke/MethodHandle" ∧ yJ0_isLatin1_aae02.cls ≠ "java/lang/invoke/VarHandle" ∧ (parseMethodDescriptor yJ0_isLatin1_aae02.desc).map (fun d => d.parameters.length) = some 0 := by decide +kernel
def fJ0_isLatin1_aae02_18  (s0 : Int32) (M : Mem) : Option (Int32 × Mem) :=
  (nz s0).bind fun z1 =>
  some (z1, M)
set_option maxHeartbeats 4000000 in
set_option maxRecDepth 100000 in
theorem tJ0_isLatin1_aae02_18 {κ : KT} {p : Int32 × Mem} (O : OkK κ mJ0_isLatin1_aae02) (hf : κ.2.2.2.2.2.2.2.2.2.2.2.2.2 = (some (.int p.1), p.2))  {s0 : Int32} {M : Mem} (h : fJ0_isLatin1_aae02_18  s0 M = some p) : G κ mJ0_isLatin1_aae02 0 0 18 [] [.int s0] M := by
  unfold fJ0_isLatin1_aae02_18 at h
  replace h := ob h; obtain ⟨z1, ez1, h⟩ := h
  obtain ⟨hz1, ez1b⟩ := nz_spec ez1
  rw [ez1b] at h
  cases h
  exact g_ireturn O dJ0_isLatin1_aae02_18 rfl (nz_nar hz1) hf (by decide) (by decide)
def fJ0_isLatin1_aae02_17  (M : Mem) : Option (Int32 × Mem) :=
  fJ0_isLatin1_aae02_18 (0 : Int32) M
set_option maxHeartbeats 4000000 in
set_option maxRecDepth 100000 in
theorem tJ0_isLatin1_aae02_17 {κ : KT} {p : Int32 × Mem} (O : OkK κ mJ0_isLatin1_aae02) (hf : κ.2.2.2.2.2.2.2.2.2.2.2.2.2 = (some (.int p.1), p.2))  {M : Mem} (h : fJ0_isLatin1_aae02_17  M = some p) : G κ mJ0_isLatin1_aae02 0 0 17 [] [] M := by
  unfold fJ0_isLatin1_aae02_17 at h
  refine g_iconst (v := 0) (pc' := 18) O dJ0_isLatin1_aae02_17 (by decide) rfl ?_
  exact tJ0_isLatin1_aae02_18 O hf h
def fJ0_isLatin1_aae02  (this : Nat) (M : Mem) : Option (Int32 × Mem) :=
  if (1 : Int32) = 0 then (fJ0_isLatin1_aae02_17 M)
  else ((kV M this).bind fun v1 =>
  if (0 : Int32) = 0 then (fJ0_isLatin1_aae02_18 (1 : Int32) M)
  else (fJ0_isLatin1_aae02_17 M))
set_option maxHeartbeats 4000000 in
set_option maxRecDepth 100000 in
theorem okJ0_isLatin1_aae02 {l : Launch} {p : Int32 × Mem} {this : Nat} {M : Mem} (h : fJ0_isLatin1_aae02 this M = some p) : Cn l yJ0_isLatin1_aae02 mJ0_isLatin1_aae02 [.ref this] M (some (.int p.1)) p.2 := by
  refine Cn.ofF [(0, .ref this)] (by decide +kernel) rfl rfl (Nat.le_of_ble_eq_true rfl) rfl (fun κ _ hf O => ?_)
  unfold fJ0_isLatin1_aae02 at h
  refine g_getS1 (pc' := 3) O dJ0_isLatin1_aae02_0 tw_563 rfl ?_
  refine g_if_eq (tgt := 17) (pc' := 6) O dJ0_isLatin1_aae02_3 (by decide) rfl (fun hc => ?_) (fun hc => ?_)
  · replace h := ip hc h
    refine g_sub (lv' := []) [] rfl ?_
    exact tJ0_isLatin1_aae02_17 O hf h
  · replace h := ine hc h
    refine g_aload_n (pc' := 7) 0 O dJ0_isLatin1_aae02_6 rfl rfl rfl ?_
    replace h := ob h; obtain ⟨v1, ev1, h⟩ := h
    refine g_kC (pc' := 10) O dJ0_isLatin1_aae02_7 tw_1092 ev1 rfl ?_
    refine g_if_ne (tgt := 17) (pc' := 13) O dJ0_isLatin1_aae02_10 (by decide) rfl (fun hc => ?_) (fun hc => ?_)
    · replace h := ine hc h
      refine g_sub (lv' := []) [] rfl ?_
      exact tJ0_isLatin1_aae02_17 O hf h
    · replace h := ip hc h
      refine g_iconst (v := 1) (pc' := 14) O dJ0_isLatin1_aae02_13 (by decide) rfl ?_
      refine g_goto (pc' := 18) O dJ0_isLatin1_aae02_14 (by decide) ?_
      refine g_sub (lv' := []) [] rfl ?_
      exact tJ0_isLatin1_aae02_18 O hf h
theorem tw_65 : Cond.initialized RJ3 ∈ lw_tbl := List.mem_of_getElem? (i := 65) (by decide +kernel)
theorem tw_576 : Cond.methodLink RJ1 9 yJ0_checkIndex_df160 ∈ lw_tbl := List.mem_of_getElem? (i := 576) (by decide +kernel)
theorem tw_577 : Cond.static yJ0_checkIndex_df160 ∈ lw_tbl := List.mem_of_getElem? (i := 577) (by decide +kernel)
theorem tw_578 : Cond.code yJ0_checkIndex_df160 cJ0_checkIndex_df160 2 none ∈ lw_tbl := List.mem_of_getElem? (i := 578) (by decide +kernel)
theorem tw_579 : Cond.fieldLink RJ0 1053 "jdk/internal/util/Preconditions" "SIOOBE_FORMATTER" "Ljava/util/function/BiFunction;" ∈ lw_tbl := List.mem_of_getElem? (i := 579) (by decide +kernel)
theorem tw_581 : Cond.methodLink RJ0 1059 yJ3_checkIndex_8e157 ∈ lw_tbl := List.mem_of_getElem? (i := 581) (by decide +kernel)
theorem tw_582 : Cond.static yJ3_checkIndex_8e157 ∈ lw_tbl := List.mem_of_getElem? (i := 582) (by decide +kernel)
theorem tw_583 : Cond.code yJ3_checkIndex_8e157 cJ3_checkIndex_8e157 3 (some .int) ∈ lw_tbl := List.mem_of_getElem? (i := 583) (by decide +kernel)
abbrev mJ3_checkIndex_8e157 : MD := (cJ3_checkIndex_8e157, 3, RJ3, (some .int), { frames := 0, cells := 0, slots := 0, locals := 0 }, "checkIndex")
theorem hyJ3_checkIndex_8e157 : yJ3_checkIndex_8e157.cls ≠ "java/lang/invoke/MethodHandle" ∧ yJ3_checkIndex_8e157.cls ≠ "java/lang/invoke/VarHandle" ∧ (parseMethodDescriptor yJ3_checkIndex_8e157.desc).map (fun d => d.parameters.length) = some 3 := by decide +kernel
def fJ3_checkIndex_8e157 (p0 p1 : Int32) (M : Mem) : Option (Int32 × Mem) :=
  if p0 < 0 then none else (if p0 < p1 then some (p0, M) else none)
set_option maxHeartbeats 4000000 in
set_option maxRecDepth 100000 in
theorem okJ3_checkIndex_8e157 {l : Launch} {p : Int32 × Mem} {p0 p1 : Int32} {o : Option Nat} {M : Mem} (h : fJ3_checkIndex_8e157 p0 p1 M = some p) : Cn l yJ3_checkIndex_8e157 mJ3_checkIndex_8e157 [.int p0, .int p1, va_rf o] M (some (.int p.1)) p.2 := by
  refine Cn.ofF [(0, .int p0), (1, .int p1), (2, va_rf o)] (by decide +kernel) rfl rfl (by cases o <;> exact Nat.le_of_ble_eq_true rfl) (by cases o <;> rfl) (fun κ _ hf O => ?_)
  unfold fJ3_checkIndex_8e157 at h
  refine g_iload_n (pc' := 1) 0 O dJ3_checkIndex_8e157_0 rfl rfl rfl ?_
  refine g_if_lt (tgt := 9) (pc' := 4) O dJ3_checkIndex_8e157_1 (by decide) rfl (fun hc => ?_) (fun hc => ?_)
  · replace h := ip hc h
    cases h
  · replace h := ine hc h
    refine g_iload_n (pc' := 5) 0 O dJ3_checkIndex_8e157_4 rfl rfl rfl ?_
    refine g_iload_n (pc' := 6) 1 O dJ3_checkIndex_8e157_5 rfl rfl rfl ?_
    refine g_icmp_lt (tgt := 16) (pc' := 9) O dJ3_checkIndex_8e157_6 (by decide) rfl (fun hc => ?_) (fun hc => ?_)
    · replace h := ip hc h
      cases h
      refine g_iload_n (pc' := 17) 0 O dJ3_checkIndex_8e157_16 rfl rfl rfl ?_
      exact g_ireturn O dJ3_checkIndex_8e157_17 rfl rfl hf (by decide) (by decide)
    · replace h := ine hc h
      cases h
abbrev mJ0_checkIndex_df160 : MD := (cJ0_checkIndex_df160, 2, RJ0, none, { frames := 1, cells := 0, slots := 0, locals := 22 }, "checkIndex")
theorem hyJ0_checkIndex_df160 : yJ0_checkIndex_df160.cls ≠ "java/lang/invoke/MethodHandle" ∧ yJ0_checkIndex_df160.cls ≠ "java/lang/invoke/VarHandle" ∧ (parseMethodDescriptor yJ0_checkIndex_df160.desc).map (fun d => d.parameters.length) = some 2 := by decide +kernel
def fJ0_checkIndex_df160 (p0 p1 : Int32) (M : Mem) : Option Mem :=
  (fJ3_checkIndex_8e157 p0 p1 M).bind fun r1 =>
  some r1.2
set_option maxHeartbeats 4000000 in
set_option maxRecDepth 100000 in
theorem okJ0_checkIndex_df160 {l : Launch} {p : Mem} {p0 p1 : Int32} {M : Mem} (h : fJ0_checkIndex_df160 p0 p1 M = some p) : Cn l yJ0_checkIndex_df160 mJ0_checkIndex_df160 [.int p0, .int p1] M none p := by
  refine Cn.ofF [(0, .int p0), (1, .int p1)] (by decide +kernel) rfl rfl (Nat.le_of_ble_eq_true rfl) rfl (fun κ _ hf O => ?_)
  unfold fJ0_checkIndex_df160 at h
  refine g_iload_n (pc' := 1) 0 O dJ0_checkIndex_df160_0 rfl rfl rfl ?_
  refine g_iload_n (pc' := 2) 1 O dJ0_checkIndex_df160_1 rfl rfl rfl ?_
  refine g_getSF (pc' := 5) O dJ0_checkIndex_df160_2 tw_579 rfl (fun o => ?_)
  replace h := ob h; obtain ⟨r1, er1, h⟩ := h
  refine g_callS (y := yJ3_checkIndex_8e157) (ν := mJ3_checkIndex_8e157) (n := 3) (As := [.int p0, .int p1, va_rf o]) (b := 0) (st := []) (M2 := r1.2) (r1 := (some (.int r1.1))) (pc' := 8) O dJ0_checkIndex_df160_5 tw_583 tw_65 tw_582 tw_581 hyJ3_checkIndex_8e157 rfl (okJ3_checkIndex_8e157 er1) (Nat.le_of_ble_eq_true rfl) ⟨Nat.le_of_ble_eq_true rfl, Nat.le_of_ble_eq_true rfl⟩ ⟨Nat.le_of_ble_eq_true rfl, Nat.le_of_ble_eq_true rfl⟩ rfl ?_
  show G κ mJ0_checkIndex_df160 0 0 8 [(0, .int p0), (1, .int p1)] [.int r1.1] r1.2
  refine g_pop (pc' := 9) O dJ0_checkIndex_df160_8 rfl rfl ?_
  cases h
  exact g_vreturn O dJ0_checkIndex_df160_9 rfl hf (by decide) (by decide)
abbrev mJ1_charAt_3b067 : MD := (cJ1_charAt_3b067, 2, RJ1, (some .char), { frames := 2, cells := 0, slots := 0, locals := 43 }, "charAt")
theorem hyJ1_charAt_3b067 : yJ1_charAt_3b067.cls ≠ "java/lang/invoke/MethodHandle" ∧ yJ1_charAt_3b067.cls ≠ "java/lang/invoke/VarHandle" ∧ (parseMethodDescriptor yJ1_charAt_3b067.desc).map (fun d => d.parameters.length) = some 2 := by decide +kernel
def fJ1_charAt_3b067  (p0 : Nat) (p1 : Int32) (M : Mem) : Option (Int32 × Mem) :=
  (kN M p0).bind fun v1 =>
  (fJ0_checkIndex_df160 p1 v1 M).bind fun r2 =>
  (kA r2 .byte p0 p1).bind fun v3 =>
  (nr .char ((v3 &&& (255 : Int32)).toUInt32 % 65536).toInt32).bind fun z4 =>
  some (z4, r2)
set_option maxHeartbeats 4000000 in
set_option maxRecDepth 100000 in
theorem okJ1_charAt_3b067 {l : Launch} {p : Int32 × Mem} {p0 : Nat} {p1 : Int32} {M : Mem} (h : fJ1_charAt_3b067 p0 p1 M = some p) : Cn l yJ1_charAt_3b067 mJ1_charAt_3b067 [.ref p0, .int p1] M (some (.int p.1)) p.2 := by
  refine Cn.ofF [(0, .ref p0), (1, .int p1)] (by decide +kernel) rfl rfl (Nat.le_of_ble_eq_true rfl) rfl (fun κ _ hf O => ?_)
  unfold fJ1_charAt_3b067 at h
  refine g_iload_n (pc' := 1) 1 O dJ1_charAt_3b067_0 rfl rfl rfl ?_
  refine g_aload_n (pc' := 2) 0 O dJ1_charAt_3b067_1 rfl rfl rfl ?_
  replace h := ob h; obtain ⟨v1, ev1, h⟩ := h
  refine g_kalen (pc' := 3) O dJ1_charAt_3b067_2 ev1 rfl ?_
  replace h := ob h; obtain ⟨r2, er2, h⟩ := h
  refine g_callS (y := yJ0_checkIndex_df160) (ν := mJ0_checkIndex_df160) (n := 2) (As := [.int p1, .int v1]) (b := 0) (st := []) (M2 := r2) (r1 := none) (pc' := 6) O dJ1_charAt_3b067_3 tw_578 tw_63 tw_577 tw_576 hyJ0_checkIndex_df160 rfl (okJ0_checkIndex_df160 er2) (Nat.le_of_ble_eq_true rfl) ⟨Nat.le_of_ble_eq_true rfl, Nat.le_of_ble_eq_true rfl⟩ ⟨Nat.le_of_ble_eq_true rfl, Nat.le_of_ble_eq_true rfl⟩ rfl ?_
  show G κ mJ1_charAt_3b067 0 0 6 [(0, .ref p0), (1, .int p1)] [] r2
  refine g_aload_n (pc' := 7) 0 O dJ1_charAt_3b067_6 rfl rfl rfl ?_
  refine g_iload_n (pc' := 8) 1 O dJ1_charAt_3b067_7 rfl rfl rfl ?_
  replace h := ob h; obtain ⟨v3, ev3, h⟩ := h
  refine g_kbald (pc' := 9) O dJ1_charAt_3b067_8 ev3 rfl ?_
  refine g_sipush (v := 255) (pc' := 12) O dJ1_charAt_3b067_9 (by decide) rfl ?_
  refine g_iand (pc' := 13) O dJ1_charAt_3b067_12 rfl ?_
  refine g_i2c (pc' := 14) O dJ1_charAt_3b067_13 rfl ?_
  replace h := ob h; obtain ⟨z4, ez4, h⟩ := h
  obtain ⟨hz4, ez4b⟩ := nr_spec ez4
  rw [ez4b] at h
  cases h
  exact g_ireturn O dJ1_charAt_3b067_14 rfl (nr_nar (by simp) hz4) hf (by decide) (by decide)
abbrev mJ0_charAt_5068e : MD := (cJ0_charAt_5068e, 2, RJ0, (some .char), { frames := 3, cells := 0, slots := 0, locals := 64 }, "charAt")
theorem hyJ0_charAt_5068e : yJ0_charAt_5068e.cls ≠ "java/lang/invoke/MethodHandle" ∧ yJ0_charAt_5068e.cls ≠ "java/lang/invoke/VarHandle" ∧ (parseMethodDescriptor yJ0_charAt_5068e.desc).map (fun d => d.parameters.length) = some 1 := by decide +kernel
def fJ0_charAt_5068e  (this : Nat) (p0 : Int32) (M : Mem) : Option (Int32 × Mem) :=
  (ckS M this).bind fun u1 =>
  (fJ0_isLatin1_aae02 this M).bind fun r2 =>
  if r2.1 = 0 then ((kV r2.2 this).bind fun v3 =>
  none)
  else ((kV r2.2 this).bind fun v4 =>
  (fJ1_charAt_3b067 v4 p0 r2.2).bind fun r5 =>
  (nr .char r5.1).bind fun z6 =>
  some (z6, r5.2))
set_option maxHeartbeats 4000000 in
set_option maxRecDepth 100000 in
theorem okJ0_charAt_5068e {l : Launch} {p : Int32 × Mem} {this : Nat} {p0 : Int32} {M : Mem} (h : fJ0_charAt_5068e this p0 M = some p) : Cn l yJ0_charAt_5068e mJ0_charAt_5068e [.ref this, .int p0] M (some (.int p.1)) p.2 := by
  refine Cn.ofF [(0, .ref this), (1, .int p0)] (by decide +kernel) rfl rfl (Nat.le_of_ble_eq_true rfl) rfl (fun κ _ hf O => ?_)
  unfold fJ0_charAt_5068e at h
  refine g_aload_n (pc' := 1) 0 O dJ0_charAt_5068e_0 rfl rfl rfl ?_
  replace h := ob h; obtain ⟨u1, eu1, h⟩ := h
  replace h := ob h; obtain ⟨r2, er2, h⟩ := h
  refine g_callVS (y := yJ0_isLatin1_aae02) (ν := mJ0_isLatin1_aae02) (n := 0) (As := []) (b := this) (st := []) (M2 := r2.2) (r1 := (some (.int r2.1))) (pc' := 4) O dJ0_charAt_5068e_1 tw_572 tw_63 tw_570 tw_571 tw_569 hyJ0_isLatin1_aae02 rfl rfl eu1 (okJ0_isLatin1_aae02 er2) (Nat.le_of_ble_eq_true rfl) ⟨Nat.le_of_ble_eq_true rfl, Nat.le_of_ble_eq_true rfl⟩ ⟨Nat.le_of_ble_eq_true rfl, Nat.le_of_ble_eq_true rfl⟩ rfl ?_
  show G κ mJ0_charAt_5068e 0 0 4 [(0, .ref this), (1, .int p0)] [.int r2.1] r2.2
  refine g_if_eq (tgt := 16) (pc' := 7) O dJ0_charAt_5068e_4 (by decide) rfl (fun hc => ?_) (fun hc => ?_)
  · replace h := ip hc h
    refine g_aload_n (pc' := 17) 0 O dJ0_charAt_5068e_16 rfl rfl rfl ?_
    replace h := ob h; obtain ⟨v3, ev3, h⟩ := h
    refine g_kV (pc' := 20) O dJ0_charAt_5068e_17 tw_1091 ev3 rfl ?_
    refine g_iload_n (pc' := 21) 1 O dJ0_charAt_5068e_20 rfl rfl rfl ?_
    cases h
  · replace h := ine hc h
    refine g_aload_n (pc' := 8) 0 O dJ0_charAt_5068e_7 rfl rfl rfl ?_
    replace h := ob h; obtain ⟨v4, ev4, h⟩ := h
    refine g_kV (pc' := 11) O dJ0_charAt_5068e_8 tw_1091 ev4 rfl ?_
    refine g_iload_n (pc' := 12) 1 O dJ0_charAt_5068e_11 rfl rfl rfl ?_
    replace h := ob h; obtain ⟨r5, er5, h⟩ := h
    refine g_callS (y := yJ1_charAt_3b067) (ν := mJ1_charAt_3b067) (n := 2) (As := [.ref v4, .int p0]) (b := 0) (st := []) (M2 := r5.2) (r1 := (some (.int r5.1))) (pc' := 15) O dJ0_charAt_5068e_12 tw_575 tw_64 tw_574 tw_573 hyJ1_charAt_3b067 rfl (okJ1_charAt_3b067 er5) (Nat.le_of_ble_eq_true rfl) ⟨Nat.le_of_ble_eq_true rfl, Nat.le_of_ble_eq_true rfl⟩ ⟨Nat.le_of_ble_eq_true rfl, Nat.le_of_ble_eq_true rfl⟩ rfl ?_
    show G κ mJ0_charAt_5068e 0 0 15 [(0, .ref this), (1, .int p0)] [.int r5.1] r5.2
    replace h := ob h; obtain ⟨z6, ez6, h⟩ := h
    obtain ⟨hz6, ez6b⟩ := nr_spec ez6
    rw [ez6b] at h
    cases h
    exact g_ireturn O dJ0_charAt_5068e_15 rfl (nr_nar (by simp) hz6) hf (by decide) (by decide)
abbrev mX5_addName : MD := (cX5_addName, 4, RX5, none, { frames := 4, cells := 0, slots := 0, locals := 85 }, "addName")
theorem hyX5_addName : yX5_addName.cls ≠ "java/lang/invoke/MethodHandle" ∧ yX5_addName.cls ≠ "java/lang/invoke/VarHandle" ∧ (parseMethodDescriptor yX5_addName.desc).map (fun d => d.parameters.length) = some 2 := by decide +kernel
def fX5_addName_20  : Nat → Nat → Nat → Int32 → Mem → Option (Mem)
  | 0, _, _, _, _ => none
  | n + 1, x0, x2, x3, M =>
    (ckS M x2).bind fun u1 =>
    (fJ0_length_8abf5 x2 M).bind fun r2 =>
    if r2.1 ≤ x3 then (some r2.2)
    else ((ckS r2.2 x2).bind fun u3 =>
    (fJ0_charAt_5068e x2 x3 r2.2).bind fun r4 =>
    (ck r4.2 3 x0).bind fun u5 =>
    (fX4_add x0 r4.1 r4.2).bind fun r6 =>
    fX5_addName_20 n x0 x2 (x3 + (1 : Int32)) r6)
set_option maxHeartbeats 4000000 in
set_option maxRecDepth 100000 in
theorem tX5_addName_20 {κ : KT} {p : Mem} (O : OkK κ mX5_addName) (hf : κ.2.2.2.2.2.2.2.2.2.2.2.2.2 = (none, p))  : ∀ (n : Nat) (x0 : Nat) (x2 : Nat) (x3 : Int32) (M : Mem), fX5_addName_20  n x0 x2 x3 M = some p → G κ mX5_addName 0 0 20 [(0, .ref x0), (2, .ref x2), (3, .int x3)] [] M := by
  intro n
  induction n with
  | zero => intro x0 x2 x3 M h; cases h
  | succ n ih =>
    intro x0 x2 x3 M h
    rw [fX5_addName_20] at h
    refine g_iload_n (pc' := 21) 2 O dX5_addName_20 rfl rfl rfl ?_
    refine g_aload_n (pc' := 22) 1 O dX5_addName_21 rfl rfl rfl ?_
    replace h := ob h; obtain ⟨u1, eu1, h⟩ := h
    replace h := ob h; obtain ⟨r2, er2, h⟩ := h
    refine g_callVS (y := yJ0_length_8abf5) (ν := mJ0_length_8abf5) (n := 0) (As := []) (b := x2) (st := [.int x3]) (M2 := r2.2) (r1 := (some (.int r2.1))) (pc' := 25) O dX5_addName_22 tw_558 tw_63 tw_556 tw_557 tw_555 hyJ0_length_8abf5 rfl rfl eu1 (okJ0_length_8abf5 er2) (Nat.le_of_ble_eq_true rfl) ⟨Nat.le_of_ble_eq_true rfl, Nat.le_of_ble_eq_true rfl⟩ ⟨Nat.le_of_ble_eq_true rfl, Nat.le_of_ble_eq_true rfl⟩ rfl ?_
    show G κ mX5_addName 0 0 25 [(0, .ref x0), (2, .ref x2), (3, .int x3)] [.int r2.1, .int x3] r2.2
    refine g_icmp_ge (tgt := 43) (pc' := 28) O dX5_addName_25 (by decide) rfl (fun hc => ?_) (fun hc => ?_)
    · replace h := ip hc h
      cases h
      exact g_vreturn O dX5_addName_43 rfl hf (by decide) (by decide)
    · replace h := ine hc h
      refine g_aload_n (pc' := 29) 0 O dX5_addName_28 rfl rfl rfl ?_
      refine g_aload_n (pc' := 30) 1 O dX5_addName_29 rfl rfl rfl ?_
      refine g_iload_n (pc' := 31) 2 O dX5_addName_30 rfl rfl rfl ?_
      replace h := ob h; obtain ⟨u3, eu3, h⟩ := h
      replace h := ob h; obtain ⟨r4, er4, h⟩ := h
      refine g_callVS (y := yJ0_charAt_5068e) (ν := mJ0_charAt_5068e) (n := 1) (As := [.int x3]) (b := x2) (st := [.ref x0]) (M2 := r4.2) (r1 := (some (.int r4.1))) (pc' := 34) O dX5_addName_31 tw_568 tw_63 tw_566 tw_567 tw_565 hyJ0_charAt_5068e rfl rfl eu3 (okJ0_charAt_5068e er4) (Nat.le_of_ble_eq_true rfl) ⟨Nat.le_of_ble_eq_true rfl, Nat.le_of_ble_eq_true rfl⟩ ⟨Nat.le_of_ble_eq_true rfl, Nat.le_of_ble_eq_true rfl⟩ rfl ?_
      show G κ mX5_addName 0 0 34 [(0, .ref x0), (2, .ref x2), (3, .int x3)] [.int r4.1, .ref x0] r4.2
      replace h := ob h; obtain ⟨u5, eu5, h⟩ := h
      replace h := ob h; obtain ⟨r6, er6, h⟩ := h
      refine g_callV (y := yX4_add) (ν := mX4_add) (n := 1) (As := [.int r4.1]) (b := x0) (st := []) (M2 := r6) (r1 := none) (pc' := 37) O dX5_addName_34 tw_264 tw_55 tw_262 tw_263 tw_519 hyX4_add rfl rfl eu5 (okX4_add er6) (Nat.le_of_ble_eq_true rfl) ⟨Nat.le_of_ble_eq_true rfl, Nat.le_of_ble_eq_true rfl⟩ ⟨Nat.le_of_ble_eq_true rfl, Nat.le_of_ble_eq_true rfl⟩ rfl ?_
      show G κ mX5_addName 0 0 37 [(0, .ref x0), (2, .ref x2), (3, .int x3)] [] r6
      refine g_iinc (q := 2) (v := x3 + (1 : Int32)) (lv' := [(3, .int (x3 + (1 : Int32))), (0, .ref x0), (2, .ref x2)]) (pc' := 40) O dX5_addName_37 rfl rfl (by decide) rfl rfl ?_
      refine g_goto (pc' := 20) O dX5_addName_40 (by decide) ?_
      refine g_sub (lv' := [(0, .ref x0), (2, .ref x2), (3, .int (x3 + (1 : Int32)))]) [1, 2, 0] rfl ?_
      exact ih x0 x2 (x3 + (1 : Int32)) r6 h
def fX5_addName_13  (x0 : Nat) (x1 : Int32) (M : Mem) : Option (Mem) :=
  (fX5_nameOf x1 M).bind fun r1 =>
  fX5_addName_20 FU x0 r1.1 (0 : Int32) r1.2
set_option maxHeartbeats 4000000 in
set_option maxRecDepth 100000 in
theorem tX5_addName_13 {κ : KT} {p : Mem} (O : OkK κ mX5_addName) (hf : κ.2.2.2.2.2.2.2.2.2.2.2.2.2 = (none, p))  {x0 : Nat} {x1 : Int32} {M : Mem} (h : fX5_addName_13  x0 x1 M = some p) : G κ mX5_addName 0 0 13 [(0, .ref x0), (1, .int x1)] [] M := by
  unfold fX5_addName_13 at h
  refine g_iload_n (pc' := 14) 1 O dX5_addName_13 rfl rfl rfl ?_
  replace h := ob h; obtain ⟨r1, er1, h⟩ := h
  refine g_callS (y := yX5_nameOf) (ν := mX5_nameOf) (n := 1) (As := [.int x1]) (b := 0) (st := []) (M2 := r1.2) (r1 := (some (.ref r1.1))) (pc' := 17) O dX5_addName_14 tw_522 tw_62 tw_521 tw_520 hyX5_nameOf rfl (okX5_nameOf er1) (Nat.le_of_ble_eq_true rfl) ⟨Nat.le_of_ble_eq_true rfl, Nat.le_of_ble_eq_true rfl⟩ ⟨Nat.le_of_ble_eq_true rfl, Nat.le_of_ble_eq_true rfl⟩ rfl ?_
  show G κ mX5_addName 0 0 17 [(0, .ref x0), (1, .int x1)] [.ref r1.1] r1.2
  refine g_astore_n (lv' := [(2, .ref r1.1), (0, .ref x0), (1, .int x1)]) (pc' := 18) O dX5_addName_17 rfl (by decide) rfl rfl ?_
  refine g_iconst (v := 0) (pc' := 19) O dX5_addName_18 (by decide) rfl ?_
  refine g_istore_n (lv' := [(3, .int (0 : Int32)), (2, .ref r1.1), (0, .ref x0), (1, .int x1)]) (pc' := 20) O dX5_addName_19 rfl (by decide) rfl rfl ?_
  refine g_sub (lv' := [(0, .ref x0), (2, .ref r1.1), (3, .int (0 : Int32))]) [2, 1, 0] rfl ?_
  exact tX5_addName_20 O hf FU x0 r1.1 (0 : Int32) r1.2 h
def fX5_addName  (p0 : Nat) (p1 : Int32) (M : Mem) : Option (Mem) :=
  (ck M 3 p0).bind fun u1 =>
  (fX4_length p0 M).bind fun r2 =>
  if r2.1 ≤ 0 then (fX5_addName_13 p0 p1 r2.2)
  else ((ck r2.2 3 p0).bind fun u3 =>
  (fX4_add p0 (32 : Int32) r2.2).bind fun r4 =>
  fX5_addName_13 p0 p1 r4)
set_option maxHeartbeats 4000000 in
set_option maxRecDepth 100000 in
theorem okX5_addName {l : Launch} {p : Mem} {p0 : Nat} {p1 : Int32} {M : Mem} (h : fX5_addName p0 p1 M = some p) : Cn l yX5_addName mX5_addName [.ref p0, .int p1] M none p := by
  refine Cn.of [(0, .ref p0), (1, .int p1)] (by decide) rfl rfl (Nat.le_of_ble_eq_true rfl) rfl (fun κ _ hf O => ?_)
  unfold fX5_addName at h
  refine g_aload_n (pc' := 1) 0 O dX5_addName_0 rfl rfl rfl ?_
  replace h := ob h; obtain ⟨u1, eu1, h⟩ := h
  replace h := ob h; obtain ⟨r2, er2, h⟩ := h
  refine g_callV (y := yX4_length) (ν := mX4_length) (n := 0) (As := []) (b := p0) (st := []) (M2 := r2.2) (r1 := (some (.int r2.1))) (pc' := 4) O dX5_addName_1 tw_260 tw_55 tw_258 tw_259 tw_518 hyX4_length rfl rfl eu1 (okX4_length er2) (Nat.le_of_ble_eq_true rfl) ⟨Nat.le_of_ble_eq_true rfl, Nat.le_of_ble_eq_true rfl⟩ ⟨Nat.le_of_ble_eq_true rfl, Nat.le_of_ble_eq_true rfl⟩ rfl ?_
  show G κ mX5_addName 0 0 4 [(0, .ref p0), (1, .int p1)] [.int r2.1] r2.2
  refine g_if_le (tgt := 13) (pc' := 7) O dX5_addName_4 (by decide) rfl (fun hc => ?_) (fun hc => ?_)
  · replace h := ip hc h
    exact tX5_addName_13 O hf h
  · replace h := ine hc h
    refine g_aload_n (pc' := 8) 0 O dX5_addName_7 rfl rfl rfl ?_
    refine g_bipush (v := 32) (pc' := 10) O dX5_addName_8 (by decide) rfl ?_
    replace h := ob h; obtain ⟨u3, eu3, h⟩ := h
    replace h := ob h; obtain ⟨r4, er4, h⟩ := h
    refine g_callV (y := yX4_add) (ν := mX4_add) (n := 1) (As := [.int (32 : Int32)]) (b := p0) (st := []) (M2 := r4) (r1 := none) (pc' := 13) O dX5_addName_10 tw_264 tw_55 tw_262 tw_263 tw_519 hyX4_add rfl rfl eu3 (okX4_add er4) (Nat.le_of_ble_eq_true rfl) ⟨Nat.le_of_ble_eq_true rfl, Nat.le_of_ble_eq_true rfl⟩ ⟨Nat.le_of_ble_eq_true rfl, Nat.le_of_ble_eq_true rfl⟩ rfl ?_
    show G κ mX5_addName 0 0 13 [(0, .ref p0), (1, .int p1)] [] r4
    exact tX5_addName_13 O hf h
abbrev mX5_addPart : MD := (cX5_addPart, 4, RX5, none, { frames := 5, cells := 0, slots := 0, locals := 108 }, "addPart")
theorem hyX5_addPart : yX5_addPart.cls ≠ "java/lang/invoke/MethodHandle" ∧ yX5_addPart.cls ≠ "java/lang/invoke/VarHandle" ∧ (parseMethodDescriptor yX5_addPart.desc).map (fun d => d.parameters.length) = some 3 := by decide +kernel
def fX5_addPart_73  (M : Mem) : Option (Mem) :=
  some M
set_option maxHeartbeats 4000000 in
set_option maxRecDepth 100000 in
theorem tX5_addPart_73 {κ : KT} {p : Mem} (O : OkK κ mX5_addPart) (hf : κ.2.2.2.2.2.2.2.2.2.2.2.2.2 = (none, p))  {M : Mem} (h : fX5_addPart_73  M = some p) : G κ mX5_addPart 0 0 73 [] [] M := by
  unfold fX5_addPart_73 at h
  cases h
  exact g_vreturn O dX5_addPart_73 rfl hf (by decide) (by decide)
def fX5_addPart_63  (x0 : Nat) (x2 : Int32) (M : Mem) : Option (Mem) :=
  if x2 = (-1 : Int32) then (fX5_addPart_73 M)
  else ((fX5_addName x0 x2 M).bind fun r1 =>
  fX5_addPart_73 r1)
set_option maxHeartbeats 4000000 in
set_option maxRecDepth 100000 in
theorem tX5_addPart_63 {κ : KT} {p : Mem} (O : OkK κ mX5_addPart) (hf : κ.2.2.2.2.2.2.2.2.2.2.2.2.2 = (none, p))  {x0 : Nat} {x2 : Int32} {M : Mem} (h : fX5_addPart_63  x0 x2 M = some p) : G κ mX5_addPart 0 0 63 [(0, .ref x0), (2, .int x2)] [] M := by
  unfold fX5_addPart_63 at h
  refine g_iload_n (pc' := 64) 1 O dX5_addPart_63 rfl rfl rfl ?_
  refine g_iconst (v := -1) (pc' := 65) O dX5_addPart_64 (by decide) rfl ?_
  refine g_icmp_eq (tgt := 73) (pc' := 68) O dX5_addPart_65 (by decide) rfl (fun hc => ?_) (fun hc => ?_)
  · replace h := ip hc h
    refine g_sub (lv' := []) [] rfl ?_
    exact tX5_addPart_73 O hf h
  · replace h := ine hc h
    refine g_aload_n (pc' := 69) 0 O dX5_addPart_68 rfl rfl rfl ?_
    refine g_iload_n (pc' := 70) 1 O dX5_addPart_69 rfl rfl rfl ?_
    replace h := ob h; obtain ⟨r1, er1, h⟩ := h
    refine g_callS (y := yX5_addName) (ν := mX5_addName) (n := 2) (As := [.ref x0, .int x2]) (b := 0) (st := []) (M2 := r1) (r1 := none) (pc' := 73) O dX5_addPart_70 tw_517 tw_62 tw_516 tw_515 hyX5_addName rfl (okX5_addName er1) (Nat.le_of_ble_eq_true rfl) ⟨Nat.le_of_ble_eq_true rfl, Nat.le_of_ble_eq_true rfl⟩ ⟨Nat.le_of_ble_eq_true rfl, Nat.le_of_ble_eq_true rfl⟩ rfl ?_
    show G κ mX5_addPart 0 0 73 [(0, .ref x0), (2, .int x2)] [] r1
    refine g_sub (lv' := []) [] rfl ?_
    exact tX5_addPart_73 O hf h
def fX5_addPart_54  (x0 : Nat) (x2 : Int32) (x3 : Int32) (M : Mem) : Option (Mem) :=
  if x3 ≤ 0 then (fX5_addPart_63 x0 x2 M)
  else ((fX5_addName x0 x3 M).bind fun r1 =>
  fX5_addPart_63 x0 x2 r1)
set_option maxHeartbeats 4000000 in
set_option maxRecDepth 100000 in
theorem tX5_addPart_54 {κ : KT} {p : Mem} (O : OkK κ mX5_addPart) (hf : κ.2.2.2.2.2.2.2.2.2.2.2.2.2 = (none, p))  {x0 : Nat} {x2 : Int32} {x3 : Int32} {M : Mem} (h : fX5_addPart_54  x0 x2 x3 M = some p) : G κ mX5_addPart 0 0 54 [(0, .ref x0), (2, .int x2), (3, .int x3)] [] M := by
  unfold fX5_addPart_54 at h
  refine g_iload_n (pc' := 55) 2 O dX5_addPart_54 rfl rfl rfl ?_
  refine g_if_le (tgt := 63) (pc' := 58) O dX5_addPart_55 (by decide) rfl (fun hc => ?_) (fun hc => ?_)
  · replace h := ip hc h
    refine g_sub (lv' := [(0, .ref x0), (2, .int x2)]) [0, 1] rfl ?_
    exact tX5_addPart_63 O hf h
  · replace h := ine hc h
    refine g_aload_n (pc' := 59) 0 O dX5_addPart_58 rfl rfl rfl ?_
    refine g_iload_n (pc' := 60) 2 O dX5_addPart_59 rfl rfl rfl ?_
    replace h := ob h; obtain ⟨r1, er1, h⟩ := h
    refine g_callS (y := yX5_addName) (ν := mX5_addName) (n := 2) (As := [.ref x0, .int x3]) (b := 0) (st := []) (M2 := r1) (r1 := none) (pc' := 63) O dX5_addPart_60 tw_517 tw_62 tw_516 tw_515 hyX5_addName rfl (okX5_addName er1) (Nat.le_of_ble_eq_true rfl) ⟨Nat.le_of_ble_eq_true rfl, Nat.le_of_ble_eq_true rfl⟩ ⟨Nat.le_of_ble_eq_true rfl, Nat.le_of_ble_eq_true rfl⟩ rfl ?_
    show G κ mX5_addPart 0 0 63 [(0, .ref x0), (2, .int x2), (3, .int x3)] [] r1
    refine g_sub (lv' := [(0, .ref x0), (2, .int x2)]) [0, 1] rfl ?_
    exact tX5_addPart_63 O hf h
def fX5_addPart_25  (x0 : Nat) (x1 : Int32) (x2 : Int32) (M : Mem) : Option (Mem) :=
  if (rmI x1 (100 : Int32)) < (20 : Int32) then (fX5_addPart_54 x0 x2 (rmI x1 (100 : Int32)) M)
  else ((fX5_addName x0 (((20 : Int32) + ((rmI x1 (100 : Int32)) / (10 : Int32))) - (2 : Int32)) M).bind fun r1 =>
  fX5_addPart_54 x0 x2 (rmI (rmI x1 (100 : Int32)) (10 : Int32)) r1)
set_option maxHeartbeats 4000000 in
set_option maxRecDepth 100000 in
theorem tX5_addPart_25 {κ : KT} {p : Mem} (O : OkK κ mX5_addPart) (hf : κ.2.2.2.2.2.2.2.2.2.2.2.2.2 = (none, p))  {x0 : Nat} {x1 : Int32} {x2 : Int32} {M : Mem} (h : fX5_addPart_25  x0 x1 x2 M = some p) : G κ mX5_addPart 0 0 25 [(0, .ref x0), (1, .int x1), (2, .int x2)] [] M := by
  unfold fX5_addPart_25 at h
  refine g_iload_n (pc' := 26) 1 O dX5_addPart_25 rfl rfl rfl ?_
  refine g_bipush (v := 100) (pc' := 28) O dX5_addPart_26 (by decide) rfl ?_
  refine g_irem2 (pc' := 29) O dX5_addPart_28 (by decide) rfl ?_
  refine g_istore_n (lv' := [(3, .int (rmI x1 (100 : Int32))), (0, .ref x0), (1, .int x1), (2, .int x2)]) (pc' := 30) O dX5_addPart_29 rfl (by decide) rfl rfl ?_
  refine g_iload_n (pc' := 31) 0 O dX5_addPart_30 rfl rfl rfl ?_
  refine g_bipush (v := 20) (pc' := 33) O dX5_addPart_31 (by decide) rfl ?_
  refine g_icmp_lt (tgt := 54) (pc' := 36) O dX5_addPart_33 (by decide) rfl (fun hc => ?_) (fun hc => ?_)
  · replace h := ip hc h
    refine g_sub (lv' := [(0, .ref x0), (2, .int x2), (3, .int (rmI x1 (100 : Int32)))]) [1, 3, 0] rfl ?_
    exact tX5_addPart_54 O hf h
  · replace h := ine hc h
    refine g_aload_n (pc' := 37) 1 O dX5_addPart_36 rfl rfl rfl ?_
    refine g_bipush (v := 20) (pc' := 39) O dX5_addPart_37 (by decide) rfl ?_
    refine g_iload_n (pc' := 40) 0 O dX5_addPart_39 rfl rfl rfl ?_
    refine g_bipush (v := 10) (pc' := 42) O dX5_addPart_40 (by decide) rfl ?_
    refine g_idiv (pc' := 43) O dX5_addPart_42 (by decide) rfl ?_
    refine g_iadd (pc' := 44) O dX5_addPart_43 rfl ?_
    refine g_iconst (v := 2) (pc' := 45) O dX5_addPart_44 (by decide) rfl ?_
    refine g_isub (pc' := 46) O dX5_addPart_45 rfl ?_
    replace h := ob h; obtain ⟨r1, er1, h⟩ := h
    refine g_callS (y := yX5_addName) (ν := mX5_addName) (n := 2) (As := [.ref x0, .int (((20 : Int32) + ((rmI x1 (100 : Int32)) / (10 : Int32))) - (2 : Int32))]) (b := 0) (st := []) (M2 := r1) (r1 := none) (pc' := 49) O dX5_addPart_46 tw_517 tw_62 tw_516 tw_515 hyX5_addName rfl (okX5_addName er1) (Nat.le_of_ble_eq_true rfl) ⟨Nat.le_of_ble_eq_true rfl, Nat.le_of_ble_eq_true rfl⟩ ⟨Nat.le_of_ble_eq_true rfl, Nat.le_of_ble_eq_true rfl⟩ rfl ?_
    show G κ mX5_addPart 0 0 49 [(3, .int (rmI x1 (100 : Int32))), (0, .ref x0), (1, .int x1), (2, .int x2)] [] r1
    refine g_iload_n (pc' := 50) 0 O dX5_addPart_49 rfl rfl rfl ?_
    refine g_bipush (v := 10) (pc' := 52) O dX5_addPart_50 (by decide) rfl ?_
    refine g_irem2 (pc' := 53) O dX5_addPart_52 (by decide) rfl ?_
    refine g_istore_n (lv' := [(3, .int (rmI (rmI x1 (100 : Int32)) (10 : Int32))), (0, .ref x0), (1, .int x1), (2, .int x2)]) (pc' := 54) O dX5_addPart_53 rfl (by decide) rfl rfl ?_
    refine g_sub (lv' := [(0, .ref x0), (2, .int x2), (3, .int (rmI (rmI x1 (100 : Int32)) (10 : Int32)))]) [1, 3, 0] rfl ?_
    exact tX5_addPart_54 O hf h
def fX5_addPart  (p0 : Nat) (p1 : Int32) (p2 : Int32) (M : Mem) : Option (Mem) :=
  if p1 = 0 then (some M)
  else (if p1 < (100 : Int32) then (fX5_addPart_25 p0 p1 p2 M)
  else ((fX5_addName p0 (p1 / (100 : Int32)) M).bind fun r1 =>
  (fX5_addName p0 (28 : Int32) r1).bind fun r2 =>
  fX5_addPart_25 p0 p1 p2 r2))
set_option maxHeartbeats 4000000 in
set_option maxRecDepth 100000 in
theorem okX5_addPart {l : Launch} {p : Mem} {p0 : Nat} {p1 : Int32} {p2 : Int32} {M : Mem} (h : fX5_addPart p0 p1 p2 M = some p) : Cn l yX5_addPart mX5_addPart [.ref p0, .int p1, .int p2] M none p := by
  refine Cn.of [(0, .ref p0), (1, .int p1), (2, .int p2)] (by decide) rfl rfl (Nat.le_of_ble_eq_true rfl) rfl (fun κ _ hf O => ?_)
  unfold fX5_addPart at h
  refine g_iload_n (pc' := 1) 1 O dX5_addPart_0 rfl rfl rfl ?_
  refine g_if_ne (tgt := 5) (pc' := 4) O dX5_addPart_1 (by decide) rfl (fun hc => ?_) (fun hc => ?_)
  · replace h := ine hc h
    refine g_iload_n (pc' := 6) 1 O dX5_addPart_5 rfl rfl rfl ?_
    refine g_bipush (v := 100) (pc' := 8) O dX5_addPart_6 (by decide) rfl ?_
    refine g_icmp_lt (tgt := 25) (pc' := 11) O dX5_addPart_8 (by decide) rfl (fun hc => ?_) (fun hc => ?_)
    · replace h := ip hc h
      exact tX5_addPart_25 O hf h
    · replace h := ine hc h
      refine g_aload_n (pc' := 12) 0 O dX5_addPart_11 rfl rfl rfl ?_
      refine g_iload_n (pc' := 13) 1 O dX5_addPart_12 rfl rfl rfl ?_
      refine g_bipush (v := 100) (pc' := 15) O dX5_addPart_13 (by decide) rfl ?_
      refine g_idiv (pc' := 16) O dX5_addPart_15 (by decide) rfl ?_
      replace h := ob h; obtain ⟨r1, er1, h⟩ := h
      refine g_callS (y := yX5_addName) (ν := mX5_addName) (n := 2) (As := [.ref p0, .int (p1 / (100 : Int32))]) (b := 0) (st := []) (M2 := r1) (r1 := none) (pc' := 19) O dX5_addPart_16 tw_517 tw_62 tw_516 tw_515 hyX5_addName rfl (okX5_addName er1) (Nat.le_of_ble_eq_true rfl) ⟨Nat.le_of_ble_eq_true rfl, Nat.le_of_ble_eq_true rfl⟩ ⟨Nat.le_of_ble_eq_true rfl, Nat.le_of_ble_eq_true rfl⟩ rfl ?_
      show G κ mX5_addPart 0 0 19 [(0, .ref p0), (1, .int p1), (2, .int p2)] [] r1
      refine g_aload_n (pc' := 20) 0 O dX5_addPart_19 rfl rfl rfl ?_
      refine g_bipush (v := 28) (pc' := 22) O dX5_addPart_20 (by decide) rfl ?_
      replace h := ob h; obtain ⟨r2, er2, h⟩ := h
      refine g_callS (y := yX5_addName) (ν := mX5_addName) (n := 2) (As := [.ref p0, .int (28 : Int32)]) (b := 0) (st := []) (M2 := r2) (r1 := none) (pc' := 25) O dX5_addPart_22 tw_517 tw_62 tw_516 tw_515 hyX5_addName rfl (okX5_addName er2) (Nat.le_of_ble_eq_true rfl) ⟨Nat.le_of_ble_eq_true rfl, Nat.le_of_ble_eq_true rfl⟩ ⟨Nat.le_of_ble_eq_true rfl, Nat.le_of_ble_eq_true rfl⟩ rfl ?_
      show G κ mX5_addPart 0 0 25 [(0, .ref p0), (1, .int p1), (2, .int p2)] [] r2
      exact tX5_addPart_25 O hf h
  · replace h := ip hc h
    cases h
    exact g_vreturn O dX5_addPart_4 rfl hf (by decide) (by decide)
abbrev mX5_write : MD := (cX5_write, 2, RX5, none, { frames := 6, cells := 0, slots := 0, locals := 131 }, "write")
theorem hyX5_write : yX5_write.cls ≠ "java/lang/invoke/MethodHandle" ∧ yX5_write.cls ≠ "java/lang/invoke/VarHandle" ∧ (parseMethodDescriptor yX5_write.desc).map (fun d => d.parameters.length) = some 2 := by decide +kernel
def fX5_write  (p0 : Nat) (p1 : Int32) (M : Mem) : Option (Mem) :=
  (ck M 3 p0).bind fun u1 =>
  (fX4_empty p0 M).bind fun r2 =>
  if p1 = 0 then ((fX5_addName p0 (0 : Int32) r2).bind fun r6 =>
  some r6)
  else ((fX5_addPart p0 (p1 / (1000000 : Int32)) (30 : Int32) r2).bind fun r3 =>
  (fX5_addPart p0 (rmI (p1 / (1000 : Int32)) (1000 : Int32)) (29 : Int32) r3).bind fun r4 =>
  (fX5_addPart p0 (rmI p1 (1000 : Int32)) (-1 : Int32) r4).bind fun r5 =>
  some r5)
set_option maxHeartbeats 4000000 in
set_option maxRecDepth 100000 in
theorem okX5_write {l : Launch} {p : Mem} {p0 : Nat} {p1 : Int32} {M : Mem} (h : fX5_write p0 p1 M = some p) : Cn l yX5_write mX5_write [.ref p0, .int p1] M none p := by
  refine Cn.of [(0, .ref p0), (1, .int p1)] (by decide) rfl rfl (Nat.le_of_ble_eq_true rfl) rfl (fun κ _ hf O => ?_)
  unfold fX5_write at h
  refine g_aload_n (pc' := 1) 0 O dX5_write_0 rfl rfl rfl ?_
  replace h := ob h; obtain ⟨u1, eu1, h⟩ := h
  replace h := ob h; obtain ⟨r2, er2, h⟩ := h
  refine g_callV (y := yX4_empty) (ν := mX4_empty) (n := 0) (As := []) (b := p0) (st := []) (M2 := r2) (r1 := none) (pc' := 4) O dX5_write_1 tw_464 tw_55 tw_462 tw_463 tw_514 hyX4_empty rfl rfl eu1 (okX4_empty er2) (Nat.le_of_ble_eq_true rfl) ⟨Nat.le_of_ble_eq_true rfl, Nat.le_of_ble_eq_true rfl⟩ ⟨Nat.le_of_ble_eq_true rfl, Nat.le_of_ble_eq_true rfl⟩ rfl ?_
  show G κ mX5_write 0 0 4 [(0, .ref p0), (1, .int p1)] [] r2
  refine g_iload_n (pc' := 5) 1 O dX5_write_4 rfl rfl rfl ?_
  refine g_if_ne (tgt := 14) (pc' := 8) O dX5_write_5 (by decide) rfl (fun hc => ?_) (fun hc => ?_)
  · replace h := ine hc h
    refine g_aload_n (pc' := 15) 0 O dX5_write_14 rfl rfl rfl ?_
    refine g_iload_n (pc' := 16) 1 O dX5_write_15 rfl rfl rfl ?_
    refine g_ldc (v := 1000000) (pc' := 18) O dX5_write_16 tw_603 rfl ?_
    refine g_idiv (pc' := 19) O dX5_write_18 (by decide) rfl ?_
    refine g_bipush (v := 30) (pc' := 21) O dX5_write_19 (by decide) rfl ?_
    replace h := ob h; obtain ⟨r3, er3, h⟩ := h
    refine g_callS (y := yX5_addPart) (ν := mX5_addPart) (n := 3) (As := [.ref p0, .int (p1 / (1000000 : Int32)), .int (30 : Int32)]) (b := 0) (st := []) (M2 := r3) (r1 := none) (pc' := 24) O dX5_write_21 tw_606 tw_62 tw_605 tw_604 hyX5_addPart rfl (okX5_addPart er3) (Nat.le_of_ble_eq_true rfl) ⟨Nat.le_of_ble_eq_true rfl, Nat.le_of_ble_eq_true rfl⟩ ⟨Nat.le_of_ble_eq_true rfl, Nat.le_of_ble_eq_true rfl⟩ rfl ?_
    show G κ mX5_write 0 0 24 [(0, .ref p0), (1, .int p1)] [] r3
    refine g_aload_n (pc' := 25) 0 O dX5_write_24 rfl rfl rfl ?_
    refine g_iload_n (pc' := 26) 1 O dX5_write_25 rfl rfl rfl ?_
    refine g_sipush (v := 1000) (pc' := 29) O dX5_write_26 (by decide) rfl ?_
    refine g_idiv (pc' := 30) O dX5_write_29 (by decide) rfl ?_
    refine g_sipush (v := 1000) (pc' := 33) O dX5_write_30 (by decide) rfl ?_
    refine g_irem2 (pc' := 34) O dX5_write_33 (by decide) rfl ?_
    refine g_bipush (v := 29) (pc' := 36) O dX5_write_34 (by decide) rfl ?_
    replace h := ob h; obtain ⟨r4, er4, h⟩ := h
    refine g_callS (y := yX5_addPart) (ν := mX5_addPart) (n := 3) (As := [.ref p0, .int (rmI (p1 / (1000 : Int32)) (1000 : Int32)), .int (29 : Int32)]) (b := 0) (st := []) (M2 := r4) (r1 := none) (pc' := 39) O dX5_write_36 tw_606 tw_62 tw_605 tw_604 hyX5_addPart rfl (okX5_addPart er4) (Nat.le_of_ble_eq_true rfl) ⟨Nat.le_of_ble_eq_true rfl, Nat.le_of_ble_eq_true rfl⟩ ⟨Nat.le_of_ble_eq_true rfl, Nat.le_of_ble_eq_true rfl⟩ rfl ?_
    show G κ mX5_write 0 0 39 [(0, .ref p0), (1, .int p1)] [] r4
    refine g_aload_n (pc' := 40) 0 O dX5_write_39 rfl rfl rfl ?_
    refine g_iload_n (pc' := 41) 1 O dX5_write_40 rfl rfl rfl ?_
    refine g_sipush (v := 1000) (pc' := 44) O dX5_write_41 (by decide) rfl ?_
    refine g_irem2 (pc' := 45) O dX5_write_44 (by decide) rfl ?_
    refine g_iconst (v := -1) (pc' := 46) O dX5_write_45 (by decide) rfl ?_
    replace h := ob h; obtain ⟨r5, er5, h⟩ := h
    refine g_callS (y := yX5_addPart) (ν := mX5_addPart) (n := 3) (As := [.ref p0, .int (rmI p1 (1000 : Int32)), .int (-1 : Int32)]) (b := 0) (st := []) (M2 := r5) (r1 := none) (pc' := 49) O dX5_write_46 tw_606 tw_62 tw_605 tw_604 hyX5_addPart rfl (okX5_addPart er5) (Nat.le_of_ble_eq_true rfl) ⟨Nat.le_of_ble_eq_true rfl, Nat.le_of_ble_eq_true rfl⟩ ⟨Nat.le_of_ble_eq_true rfl, Nat.le_of_ble_eq_true rfl⟩ rfl ?_
    show G κ mX5_write 0 0 49 [(0, .ref p0), (1, .int p1)] [] r5
    cases h
    exact g_vreturn O dX5_write_49 rfl hf (by decide) (by decide)
  · replace h := ip hc h
    refine g_aload_n (pc' := 9) 0 O dX5_write_8 rfl rfl rfl ?_
    refine g_iconst (v := 0) (pc' := 10) O dX5_write_9 (by decide) rfl ?_
    replace h := ob h; obtain ⟨r6, er6, h⟩ := h
    refine g_callS (y := yX5_addName) (ν := mX5_addName) (n := 2) (As := [.ref p0, .int (0 : Int32)]) (b := 0) (st := []) (M2 := r6) (r1 := none) (pc' := 13) O dX5_write_10 tw_517 tw_62 tw_516 tw_515 hyX5_addName rfl (okX5_addName er6) (Nat.le_of_ble_eq_true rfl) ⟨Nat.le_of_ble_eq_true rfl, Nat.le_of_ble_eq_true rfl⟩ ⟨Nat.le_of_ble_eq_true rfl, Nat.le_of_ble_eq_true rfl⟩ rfl ?_
    show G κ mX5_write 0 0 13 [(0, .ref p0), (1, .int p1)] [] r6
    cases h
    exact g_vreturn O dX5_write_13 rfl hf (by decide) (by decide)
abbrev mX5_stands : MD := (cX5_stands, 5, RX5, (some .boolean), { frames := 4, cells := 0, slots := 0, locals := 85 }, "stands")
theorem hyX5_stands : yX5_stands.cls ≠ "java/lang/invoke/MethodHandle" ∧ yX5_stands.cls ≠ "java/lang/invoke/VarHandle" ∧ (parseMethodDescriptor yX5_stands.desc).map (fun d => d.parameters.length) = some 4 := by decide +kernel
def fX5_stands_15  : Nat → Nat → Int32 → Nat → Int32 → Mem → Option (Int32 × Mem)
  | 0, _, _, _, _, _ => none
  | n + 1, x0, x1, x3, x4, M =>
    (ckS M x3).bind fun u1 =>
    (fJ0_length_8abf5 x3 M).bind fun r2 =>
    if r2.1 ≤ x4 then ((nz (1 : Int32)).bind fun z3 =>
    some (z3, r2.2))
    else ((ck r2.2 3 x0).bind fun u4 =>
    (fX4_byteAt x0 (x1 + x4) r2.2).bind fun r5 =>
    (ckS r5.2 x3).bind fun u6 =>
    (fJ0_charAt_5068e x3 x4 r5.2).bind fun r7 =>
    if r5.1 = r7.1 then (fX5_stands_15 n x0 x1 x3 (x4 + (1 : Int32)) r7.2)
    else ((nz (0 : Int32)).bind fun z8 =>
    some (z8, r7.2)))
set_option maxHeartbeats 4000000 in
set_option maxRecDepth 100000 in
theorem tX5_stands_15 {κ : KT} {p : Int32 × Mem} (O : OkK κ mX5_stands) (hf : κ.2.2.2.2.2.2.2.2.2.2.2.2.2 = (some (.int p.1), p.2))  : ∀ (n : Nat) (x0 : Nat) (x1 : Int32) (x3 : Nat) (x4 : Int32) (M : Mem), fX5_stands_15  n x0 x1 x3 x4 M = some p → G κ mX5_stands 0 0 15 [(0, .ref x0), (1, .int x1), (3, .ref x3), (4, .int x4)] [] M := by
  intro n
  induction n with
  | zero => intro x0 x1 x3 x4 M h; cases h
  | succ n ih =>
    intro x0 x1 x3 x4 M h
    rw [fX5_stands_15] at h
    refine g_iload (pc' := 17) 3 O dX5_stands_15 rfl rfl ?_
    refine g_aload_n (pc' := 18) 2 O dX5_stands_17 rfl rfl rfl ?_
    replace h := ob h; obtain ⟨u1, eu1, h⟩ := h
    replace h := ob h; obtain ⟨r2, er2, h⟩ := h
    refine g_callVS (y := yJ0_length_8abf5) (ν := mJ0_length_8abf5) (n := 0) (As := []) (b := x3) (st := [.int x4]) (M2 := r2.2) (r1 := (some (.int r2.1))) (pc' := 21) O dX5_stands_18 tw_558 tw_63 tw_556 tw_557 tw_555 hyJ0_length_8abf5 rfl rfl eu1 (okJ0_length_8abf5 er2) (Nat.le_of_ble_eq_true rfl) ⟨Nat.le_of_ble_eq_true rfl, Nat.le_of_ble_eq_true rfl⟩ ⟨Nat.le_of_ble_eq_true rfl, Nat.le_of_ble_eq_true rfl⟩ rfl ?_
    show G κ mX5_stands 0 0 21 [(0, .ref x0), (1, .int x1), (3, .ref x3), (4, .int x4)] [.int r2.1, .int x4] r2.2
    refine g_icmp_ge (tgt := 49) (pc' := 24) O dX5_stands_21 (by decide) rfl (fun hc => ?_) (fun hc => ?_)
    · replace h := ip hc h
      refine g_iconst (v := 1) (pc' := 50) O dX5_stands_49 (by decide) rfl ?_
      replace h := ob h; obtain ⟨z3, ez3, h⟩ := h
      obtain ⟨hz3, ez3b⟩ := nz_spec ez3
      rw [ez3b] at h
      cases h
      exact g_ireturn O dX5_stands_50 rfl (nz_nar hz3) hf (by decide) (by decide)
    · replace h := ine hc h
      refine g_aload_n (pc' := 25) 0 O dX5_stands_24 rfl rfl rfl ?_
      refine g_iload_n (pc' := 26) 1 O dX5_stands_25 rfl rfl rfl ?_
      refine g_iload (pc' := 28) 3 O dX5_stands_26 rfl rfl ?_
      refine g_iadd (pc' := 29) O dX5_stands_28 rfl ?_
      replace h := ob h; obtain ⟨u4, eu4, h⟩ := h
      replace h := ob h; obtain ⟨r5, er5, h⟩ := h
      refine g_callV (y := yX4_byteAt) (ν := mX4_byteAt) (n := 1) (As := [.int (x1 + x4)]) (b := x0) (st := []) (M2 := r5.2) (r1 := (some (.int r5.1))) (pc' := 32) O dX5_stands_29 tw_615 tw_55 tw_613 tw_614 tw_635 hyX4_byteAt rfl rfl eu4 (okX4_byteAt er5) (Nat.le_of_ble_eq_true rfl) ⟨Nat.le_of_ble_eq_true rfl, Nat.le_of_ble_eq_true rfl⟩ ⟨Nat.le_of_ble_eq_true rfl, Nat.le_of_ble_eq_true rfl⟩ rfl ?_
      show G κ mX5_stands 0 0 32 [(0, .ref x0), (1, .int x1), (3, .ref x3), (4, .int x4)] [.int r5.1] r5.2
      refine g_aload_n (pc' := 33) 2 O dX5_stands_32 rfl rfl rfl ?_
      refine g_iload (pc' := 35) 3 O dX5_stands_33 rfl rfl ?_
      replace h := ob h; obtain ⟨u6, eu6, h⟩ := h
      replace h := ob h; obtain ⟨r7, er7, h⟩ := h
      refine g_callVS (y := yJ0_charAt_5068e) (ν := mJ0_charAt_5068e) (n := 1) (As := [.int x4]) (b := x3) (st := [.int r5.1]) (M2 := r7.2) (r1 := (some (.int r7.1))) (pc' := 38) O dX5_stands_35 tw_568 tw_63 tw_566 tw_567 tw_565 hyJ0_charAt_5068e rfl rfl eu6 (okJ0_charAt_5068e er7) (Nat.le_of_ble_eq_true rfl) ⟨Nat.le_of_ble_eq_true rfl, Nat.le_of_ble_eq_true rfl⟩ ⟨Nat.le_of_ble_eq_true rfl, Nat.le_of_ble_eq_true rfl⟩ rfl ?_
      show G κ mX5_stands 0 0 38 [(0, .ref x0), (1, .int x1), (3, .ref x3), (4, .int x4)] [.int r7.1, .int r5.1] r7.2
      refine g_icmp_eq (tgt := 43) (pc' := 41) O dX5_stands_38 (by decide) rfl (fun hc => ?_) (fun hc => ?_)
      · replace h := ip hc h
        refine g_iinc (q := 3) (v := x4 + (1 : Int32)) (lv' := [(4, .int (x4 + (1 : Int32))), (0, .ref x0), (1, .int x1), (3, .ref x3)]) (pc' := 46) O dX5_stands_43 rfl rfl (by decide) rfl rfl ?_
        refine g_goto (pc' := 15) O dX5_stands_46 (by decide) ?_
        refine g_sub (lv' := [(0, .ref x0), (1, .int x1), (3, .ref x3), (4, .int (x4 + (1 : Int32)))]) [1, 2, 3, 0] rfl ?_
        exact ih x0 x1 x3 (x4 + (1 : Int32)) r7.2 h
      · replace h := ine hc h
        refine g_iconst (v := 0) (pc' := 42) O dX5_stands_41 (by decide) rfl ?_
        replace h := ob h; obtain ⟨z8, ez8, h⟩ := h
        obtain ⟨hz8, ez8b⟩ := nz_spec ez8
        rw [ez8b] at h
        cases h
        exact g_ireturn O dX5_stands_42 rfl (nz_nar hz8) hf (by decide) (by decide)
def fX5_stands  (p0 : Nat) (p1 : Int32) (p2 : Int32) (p3 : Nat) (M : Mem) : Option (Int32 × Mem) :=
  (ckS M p3).bind fun u1 =>
  (fJ0_length_8abf5 p3 M).bind fun r2 =>
  if r2.1 = (p2 - p1) then (fX5_stands_15 FU p0 p1 p3 (0 : Int32) r2.2)
  else ((nz (0 : Int32)).bind fun z3 =>
  some (z3, r2.2))
set_option maxHeartbeats 4000000 in
set_option maxRecDepth 100000 in
theorem okX5_stands {l : Launch} {p : Int32 × Mem} {p0 : Nat} {p1 : Int32} {p2 : Int32} {p3 : Nat} {M : Mem} (h : fX5_stands p0 p1 p2 p3 M = some p) : Cn l yX5_stands mX5_stands [.ref p0, .int p1, .int p2, .ref p3] M (some (.int p.1)) p.2 := by
  refine Cn.of [(0, .ref p0), (1, .int p1), (2, .int p2), (3, .ref p3)] (by decide) rfl rfl (Nat.le_of_ble_eq_true rfl) rfl (fun κ _ hf O => ?_)
  unfold fX5_stands at h
  refine g_aload_n (pc' := 1) 3 O dX5_stands_0 rfl rfl rfl ?_
  replace h := ob h; obtain ⟨u1, eu1, h⟩ := h
  replace h := ob h; obtain ⟨r2, er2, h⟩ := h
  refine g_callVS (y := yJ0_length_8abf5) (ν := mJ0_length_8abf5) (n := 0) (As := []) (b := p3) (st := []) (M2 := r2.2) (r1 := (some (.int r2.1))) (pc' := 4) O dX5_stands_1 tw_558 tw_63 tw_556 tw_557 tw_555 hyJ0_length_8abf5 rfl rfl eu1 (okJ0_length_8abf5 er2) (Nat.le_of_ble_eq_true rfl) ⟨Nat.le_of_ble_eq_true rfl, Nat.le_of_ble_eq_true rfl⟩ ⟨Nat.le_of_ble_eq_true rfl, Nat.le_of_ble_eq_true rfl⟩ rfl ?_
  show G κ mX5_stands 0 0 4 [(0, .ref p0), (1, .int p1), (2, .int p2), (3, .ref p3)] [.int r2.1] r2.2
  refine g_iload_n (pc' := 5) 2 O dX5_stands_4 rfl rfl rfl ?_
  refine g_iload_n (pc' := 6) 1 O dX5_stands_5 rfl rfl rfl ?_
  refine g_isub (pc' := 7) O dX5_stands_6 rfl ?_
  refine g_icmp_eq (tgt := 12) (pc' := 10) O dX5_stands_7 (by decide) rfl (fun hc => ?_) (fun hc => ?_)
  · replace h := ip hc h
    refine g_iconst (v := 0) (pc' := 13) O dX5_stands_12 (by decide) rfl ?_
    refine g_istore (lv' := [(4, .int (0 : Int32)), (0, .ref p0), (1, .int p1), (2, .int p2), (3, .ref p3)]) (pc' := 15) O dX5_stands_13 (by decide) rfl rfl ?_
    refine g_sub (lv' := [(0, .ref p0), (1, .int p1), (3, .ref p3), (4, .int (0 : Int32))]) [1, 2, 4, 0] rfl ?_
    exact tX5_stands_15 O hf FU p0 p1 p3 (0 : Int32) r2.2 h
  · replace h := ine hc h
    refine g_iconst (v := 0) (pc' := 11) O dX5_stands_10 (by decide) rfl ?_
    replace h := ob h; obtain ⟨z3, ez3, h⟩ := h
    obtain ⟨hz3, ez3b⟩ := nz_spec ez3
    rw [ez3b] at h
    cases h
    exact g_ireturn O dX5_stands_11 rfl (nz_nar hz3) hf (by decide) (by decide)
abbrev mX5_nameIn : MD := (cX5_nameIn, 4, RX5, (some .int), { frames := 5, cells := 0, slots := 0, locals := 109 }, "nameIn")
theorem hyX5_nameIn : yX5_nameIn.cls ≠ "java/lang/invoke/MethodHandle" ∧ yX5_nameIn.cls ≠ "java/lang/invoke/VarHandle" ∧ (parseMethodDescriptor yX5_nameIn.desc).map (fun d => d.parameters.length) = some 3 := by decide +kernel
def fX5_nameIn_2  : Nat → Nat → Int32 → Int32 → Int32 → Mem → Option (Int32 × Mem)
  | 0, _, _, _, _, _ => none
  | n + 1, x0, x1, x2, x3, M =>
    if (31 : Int32) ≤ x3 then (some ((-1 : Int32), M))
    else ((fX5_nameOf x3 M).bind fun r1 =>
    (fX5_stands x0 x1 x2 r1.1 r1.2).bind fun r2 =>
    if r2.1 = 0 then (fX5_nameIn_2 n x0 x1 x2 (x3 + (1 : Int32)) r2.2)
    else (some (x3, r2.2)))
set_option maxHeartbeats 4000000 in
set_option maxRecDepth 100000 in
theorem tX5_nameIn_2 {κ : KT} {p : Int32 × Mem} (O : OkK κ mX5_nameIn) (hf : κ.2.2.2.2.2.2.2.2.2.2.2.2.2 = (some (.int p.1), p.2))  : ∀ (n : Nat) (x0 : Nat) (x1 : Int32) (x2 : Int32) (x3 : Int32) (M : Mem), fX5_nameIn_2  n x0 x1 x2 x3 M = some p → G κ mX5_nameIn 0 0 2 [(0, .ref x0), (1, .int x1), (2, .int x2), (3, .int x3)] [] M := by
  intro n
  induction n with
  | zero => intro x0 x1 x2 x3 M h; cases h
  | succ n ih =>
    intro x0 x1 x2 x3 M h
    rw [fX5_nameIn_2] at h
    refine g_iload_n (pc' := 3) 3 O dX5_nameIn_2 rfl rfl rfl ?_
    refine g_bipush (v := 31) (pc' := 5) O dX5_nameIn_3 (by decide) rfl ?_
    refine g_icmp_ge (tgt := 29) (pc' := 8) O dX5_nameIn_5 (by decide) rfl (fun hc => ?_) (fun hc => ?_)
    · replace h := ip hc h
      refine g_iconst (v := -1) (pc' := 30) O dX5_nameIn_29 (by decide) rfl ?_
      cases h
      exact g_ireturn O dX5_nameIn_30 rfl rfl hf (by decide) (by decide)
    · replace h := ine hc h
      refine g_aload_n (pc' := 9) 0 O dX5_nameIn_8 rfl rfl rfl ?_
      refine g_iload_n (pc' := 10) 1 O dX5_nameIn_9 rfl rfl rfl ?_
      refine g_iload_n (pc' := 11) 2 O dX5_nameIn_10 rfl rfl rfl ?_
      refine g_iload_n (pc' := 12) 3 O dX5_nameIn_11 rfl rfl rfl ?_
      replace h := ob h; obtain ⟨r1, er1, h⟩ := h
      refine g_callS (y := yX5_nameOf) (ν := mX5_nameOf) (n := 1) (As := [.int x3]) (b := 0) (st := [.int x2, .int x1, .ref x0]) (M2 := r1.2) (r1 := (some (.ref r1.1))) (pc' := 15) O dX5_nameIn_12 tw_522 tw_62 tw_521 tw_520 hyX5_nameOf rfl (okX5_nameOf er1) (Nat.le_of_ble_eq_true rfl) ⟨Nat.le_of_ble_eq_true rfl, Nat.le_of_ble_eq_true rfl⟩ ⟨Nat.le_of_ble_eq_true rfl, Nat.le_of_ble_eq_true rfl⟩ rfl ?_
      show G κ mX5_nameIn 0 0 15 [(0, .ref x0), (1, .int x1), (2, .int x2), (3, .int x3)] [.ref r1.1, .int x2, .int x1, .ref x0] r1.2
      replace h := ob h; obtain ⟨r2, er2, h⟩ := h
      refine g_callS (y := yX5_stands) (ν := mX5_stands) (n := 4) (As := [.ref x0, .int x1, .int x2, .ref r1.1]) (b := 0) (st := []) (M2 := r2.2) (r1 := (some (.int r2.1))) (pc' := 18) O dX5_nameIn_15 tw_641 tw_62 tw_640 tw_639 hyX5_stands rfl (okX5_stands er2) (Nat.le_of_ble_eq_true rfl) ⟨Nat.le_of_ble_eq_true rfl, Nat.le_of_ble_eq_true rfl⟩ ⟨Nat.le_of_ble_eq_true rfl, Nat.le_of_ble_eq_true rfl⟩ rfl ?_
      show G κ mX5_nameIn 0 0 18 [(0, .ref x0), (1, .int x1), (2, .int x2), (3, .int x3)] [.int r2.1] r2.2
      refine g_if_eq (tgt := 23) (pc' := 21) O dX5_nameIn_18 (by decide) rfl (fun hc => ?_) (fun hc => ?_)
      · replace h := ip hc h
        refine g_iinc (q := 3) (v := x3 + (1 : Int32)) (lv' := [(3, .int (x3 + (1 : Int32))), (0, .ref x0), (1, .int x1), (2, .int x2)]) (pc' := 26) O dX5_nameIn_23 rfl rfl (by decide) rfl rfl ?_
        refine g_goto (pc' := 2) O dX5_nameIn_26 (by decide) ?_
        refine g_sub (lv' := [(0, .ref x0), (1, .int x1), (2, .int x2), (3, .int (x3 + (1 : Int32)))]) [1, 2, 3, 0] rfl ?_
        exact ih x0 x1 x2 (x3 + (1 : Int32)) r2.2 h
      · replace h := ine hc h
        refine g_iload_n (pc' := 22) 3 O dX5_nameIn_21 rfl rfl rfl ?_
        cases h
        exact g_ireturn O dX5_nameIn_22 rfl rfl hf (by decide) (by decide)
def fX5_nameIn  (p0 : Nat) (p1 : Int32) (p2 : Int32) (M : Mem) : Option (Int32 × Mem) :=
  fX5_nameIn_2 FU p0 p1 p2 (0 : Int32) M
set_option maxHeartbeats 4000000 in
set_option maxRecDepth 100000 in
theorem okX5_nameIn {l : Launch} {p : Int32 × Mem} {p0 : Nat} {p1 : Int32} {p2 : Int32} {M : Mem} (h : fX5_nameIn p0 p1 p2 M = some p) : Cn l yX5_nameIn mX5_nameIn [.ref p0, .int p1, .int p2] M (some (.int p.1)) p.2 := by
  refine Cn.of [(0, .ref p0), (1, .int p1), (2, .int p2)] (by decide) rfl rfl (Nat.le_of_ble_eq_true rfl) rfl (fun κ _ hf O => ?_)
  unfold fX5_nameIn at h
  refine g_iconst (v := 0) (pc' := 1) O dX5_nameIn_0 (by decide) rfl ?_
  refine g_istore_n (lv' := [(3, .int (0 : Int32)), (0, .ref p0), (1, .int p1), (2, .int p2)]) (pc' := 2) O dX5_nameIn_1 rfl (by decide) rfl rfl ?_
  refine g_sub (lv' := [(0, .ref p0), (1, .int p1), (2, .int p2), (3, .int (0 : Int32))]) [1, 2, 3, 0] rfl ?_
  exact tX5_nameIn_2 O hf FU p0 p1 p2 (0 : Int32) M h
