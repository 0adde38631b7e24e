abbrev mX2_init : MD := (cX2_init, 1, RX2, none, { frames := 1, cells := 3, slots := 6, locals := 20 }, "<init>")
theorem hyX2_init : yX2_init.cls ≠ "java/lang/invoke/MethodHandle" ∧ yX2_init.cls ≠ "java/lang/invoke/VarHandle" ∧ (parseMethodDescriptor yX2_init.desc).map (fun d => d.parameters.length) = some 0 := by decide +kernel
def fX2_init  (this : Nat) (M : Mem) : Option (Mem) :=
  (nA M .int (0 : Int32) 0).bind fun M1 =>
  (pF M1 1 this 0 (.ref M.1)).bind fun M2 =>
  (nA M2 .int (3 : Int32) 3).bind fun M3 =>
  (pF M3 1 this 6 (.ref M2.1)).bind fun M4 =>
  (nA M4 .int (3 : Int32) 3).bind fun M5 =>
  (pF M5 1 this 7 (.ref M4.1)).bind fun M6 =>
  some M6
set_option maxHeartbeats 4000000 in
set_option maxRecDepth 100000 in
theorem okX2_init {l : Launch} {p : Mem} {this : Nat} {M : Mem} (h : fX2_init this M = some p) : Cn l yX2_init mX2_init [.ref this] M none p := by
  refine Cn.of [(0, .ref this)] (by decide) rfl rfl (Nat.le_of_ble_eq_true rfl) rfl (fun κ _ hf O => ?_)
  unfold fX2_init at h
  refine g_aload_n (pc' := 1) 0 O dX2_init_0 rfl rfl rfl ?_
  refine g_objInit (pc' := 4) O dX2_init_1 tw_145 tw_74 tw_75 (by decide) (by decide) rfl ?_
  refine g_aload_n (pc' := 5) 0 O dX2_init_4 rfl rfl rfl ?_
  refine g_iconst (v := 0) (pc' := 6) O dX2_init_5 (by decide) rfl ?_
  replace h := ob h; obtain ⟨M1, eM1, h⟩ := h
  refine g_newI (M2 := M1) (pc' := 8) 0 O dX2_init_6 tw_100 eM1 (by decide) (by decide) (by decide) rfl ?_
  show G κ mX2_init 1 0 8 [(0, .ref this)] [.ref M.1, .ref this] M1
  replace h := ob h; obtain ⟨M2, eM2, h⟩ := h
  refine g_putF (C := RX2) (T := TX2) (N := 9) (ci := 1) (k := 0) (pc' := 11) O dX2_init_8 rfl inX2 (by decide) tw_146 tyX2 tyX2_ok nmX2 rfl rfl rfl rfl eM2 rfl ?_
  refine g_aload_n (pc' := 12) 0 O dX2_init_11 rfl rfl rfl ?_
  refine g_iconst (v := 3) (pc' := 13) O dX2_init_12 (by decide) rfl ?_
  replace h := ob h; obtain ⟨M3, eM3, h⟩ := h
  refine g_newI (M2 := M3) (pc' := 15) 3 O dX2_init_13 tw_100 eM3 (by decide) (by decide) (by decide) rfl ?_
  show G κ mX2_init 2 3 15 [(0, .ref this)] [.ref M2.1, .ref this] M3
  replace h := ob h; obtain ⟨M4, eM4, h⟩ := h
  refine g_putFF (C := RX2) (T := TX2) (N := 9) (ci := 1) (k := 6) (pc' := 18) O dX2_init_15 rfl inX2 (by decide) tw_153 tyX2 tyX2_ok nmX2 rfl rfl rfl rfl rfl rfl eM4 rfl ?_
  refine g_aload_n (pc' := 19) 0 O dX2_init_18 rfl rfl rfl ?_
  refine g_iconst (v := 3) (pc' := 20) O dX2_init_19 (by decide) rfl ?_
  replace h := ob h; obtain ⟨M5, eM5, h⟩ := h
  refine g_newI (M2 := M5) (pc' := 22) 3 O dX2_init_20 tw_100 eM5 (by decide) (by decide) (by decide) rfl ?_
  show G κ mX2_init 3 6 22 [(0, .ref this)] [.ref M4.1, .ref this] M5
  replace h := ob h; obtain ⟨M6, eM6, h⟩ := h
  refine g_putFF (C := RX2) (T := TX2) (N := 9) (ci := 1) (k := 7) (pc' := 25) O dX2_init_22 rfl inX2 (by decide) tw_154 tyX2 tyX2_ok nmX2 rfl rfl rfl rfl rfl rfl eM6 rfl ?_
  cases h
  exact g_vreturn O dX2_init_25 rfl hf (by decide) (by decide)
abbrev mJ9_max_7cf53 : MD := (cJ9_max_7cf53, 2, RJ9, (some .int), { frames := 0, cells := 0, slots := 0, locals := 0 }, "max")
theorem hyJ9_max_7cf53 : yJ9_max_7cf53.cls ≠ "java/lang/invoke/MethodHandle" ∧ yJ9_max_7cf53.cls ≠ "java/lang/invoke/VarHandle" ∧ (parseMethodDescriptor yJ9_max_7cf53.desc).map (fun d => d.parameters.length) = some 2 := by decide +kernel
def fJ9_max_7cf53_10  (s0 : Int32) (M : Mem) : Option (Int32 × Mem) :=
  some (s0, M)
set_option maxHeartbeats 4000000 in
set_option maxRecDepth 100000 in
theorem tJ9_max_7cf53_10 {κ : KT} {p : Int32 × Mem} (O : OkK κ mJ9_max_7cf53) (hf : κ.2.2.2.2.2.2.2.2.2.2.2.2.2 = (some (.int p.1), p.2))  {s0 : Int32} {M : Mem} (h : fJ9_max_7cf53_10  s0 M = some p) : G κ mJ9_max_7cf53 0 0 10 [] [.int s0] M := by
  unfold fJ9_max_7cf53_10 at h
  cases h
  exact g_ireturn O dJ9_max_7cf53_10 rfl rfl hf (by decide) (by decide)
def fJ9_max_7cf53  (p0 : Int32) (p1 : Int32) (M : Mem) : Option (Int32 × Mem) :=
  if p0 < p1 then (fJ9_max_7cf53_10 p1 M)
  else (fJ9_max_7cf53_10 p0 M)
set_option maxHeartbeats 4000000 in
set_option maxRecDepth 100000 in
theorem okJ9_max_7cf53 {l : Launch} {p : Int32 × Mem} {p0 : Int32} {p1 : Int32} {M : Mem} (h : fJ9_max_7cf53 p0 p1 M = some p) : Cn l yJ9_max_7cf53 mJ9_max_7cf53 [.int p0, .int p1] M (some (.int p.1)) p.2 := by
  refine Cn.ofF [(0, .int p0), (1, .int p1)] (by decide +kernel) rfl rfl (Nat.le_of_ble_eq_true rfl) rfl (fun κ _ hf O => ?_)
  unfold fJ9_max_7cf53 at h
  refine g_iload_n (pc' := 1) 0 O dJ9_max_7cf53_0 rfl rfl rfl ?_
  refine g_iload_n (pc' := 2) 1 O dJ9_max_7cf53_1 rfl rfl rfl ?_
  refine g_icmp_lt (tgt := 9) (pc' := 5) O dJ9_max_7cf53_2 (by decide) rfl (fun hc => ?_) (fun hc => ?_)
  · replace h := ip hc h
    refine g_iload_n (pc' := 10) 1 O dJ9_max_7cf53_9 rfl rfl rfl ?_
    refine g_sub (lv' := []) [] rfl ?_
    exact tJ9_max_7cf53_10 O hf h
  · replace h := ine hc h
    refine g_iload_n (pc' := 6) 0 O dJ9_max_7cf53_5 rfl rfl rfl ?_
    refine g_goto (pc' := 10) O dJ9_max_7cf53_6 (by decide) ?_
    refine g_sub (lv' := []) [] rfl ?_
    exact tJ9_max_7cf53_10 O hf h
abbrev mX2_passes : MD := (cX2_passes, 2, RX2, (some .boolean), { frames := 0, cells := 0, slots := 0, locals := 0 }, "passes")
theorem hyX2_passes : yX2_passes.cls ≠ "java/lang/invoke/MethodHandle" ∧ yX2_passes.cls ≠ "java/lang/invoke/VarHandle" ∧ (parseMethodDescriptor yX2_passes.desc).map (fun d => d.parameters.length) = some 1 := by decide +kernel
def fX2_passes_31  (M : Mem) : Option (Int32 × Mem) :=
  (nz (0 : Int32)).bind fun z1 =>
  some (z1, M)
set_option maxHeartbeats 4000000 in
set_option maxRecDepth 100000 in
theorem tX2_passes_31 {κ : KT} {p : Int32 × Mem} (O : OkK κ mX2_passes) (hf : κ.2.2.2.2.2.2.2.2.2.2.2.2.2 = (some (.int p.1), p.2))  {M : Mem} (h : fX2_passes_31  M = some p) : G κ mX2_passes 0 0 31 [] [] M := by
  unfold fX2_passes_31 at h
  refine g_iconst (v := 0) (pc' := 32) O dX2_passes_31 (by decide) rfl ?_
  replace h := ob h; obtain ⟨z1, ez1, h⟩ := h
  obtain ⟨hz1, ez1b⟩ := nz_spec ez1
  rw [ez1b] at h
  cases h
  exact g_ireturn O dX2_passes_32 rfl (nz_nar hz1) hf (by decide) (by decide)
def fX2_passes  (this : Nat) (p0 : Int32) (M : Mem) : Option (Int32 × Mem) :=
  (gI M 1 this 3).bind fun v1 =>
  if v1 = 0 then ((gI M 1 this 1).bind fun v2 =>
  (gI M 1 this 2).bind fun v3 =>
  if v3 ≤ v2 then (fX2_passes_31 M)
  else ((gN M 1 this 0).bind fun v4 =>
  (gI M 1 this 1).bind fun v5 =>
  (aI M v4 v5).bind fun v6 =>
  if v6 = p0 then ((gI M 1 this 1).bind fun v7 =>
  (pF M 1 this 1 (.int (v7 + (1 : Int32)))).bind fun M8 =>
  (nz (1 : Int32)).bind fun z9 =>
  some (z9, M8))
  else (fX2_passes_31 M)))
  else (fX2_passes_31 M)
set_option maxHeartbeats 4000000 in
set_option maxRecDepth 100000 in
theorem okX2_passes {l : Launch} {p : Int32 × Mem} {this : Nat} {p0 : Int32} {M : Mem} (h : fX2_passes this p0 M = some p) : Cn l yX2_passes mX2_passes [.ref this, .int p0] M (some (.int p.1)) p.2 := by
  refine Cn.of [(0, .ref this), (1, .int p0)] (by decide) rfl rfl (Nat.le_of_ble_eq_true rfl) rfl (fun κ _ hf O => ?_)
  unfold fX2_passes at h
  refine g_aload_n (pc' := 1) 0 O dX2_passes_0 rfl rfl rfl ?_
  replace h := ob h; obtain ⟨v1, ev1, h⟩ := h
  refine g_getF (C := RX2) (T := TX2) (N := 9) (ci := 1) (k := 3) (pc' := 4) O dX2_passes_1 rfl inX2 (by decide) tw_149 (gI_F ev1) rfl ?_
  refine g_if_ne (tgt := 31) (pc' := 7) O dX2_passes_4 (by decide) rfl (fun hc => ?_) (fun hc => ?_)
  · replace h := ine hc h
    refine g_sub (lv' := []) [] rfl ?_
    exact tX2_passes_31 O hf h
  · replace h := ip hc h
    refine g_aload_n (pc' := 8) 0 O dX2_passes_7 rfl rfl rfl ?_
    replace h := ob h; obtain ⟨v2, ev2, h⟩ := h
    refine g_getF (C := RX2) (T := TX2) (N := 9) (ci := 1) (k := 1) (pc' := 11) O dX2_passes_8 rfl inX2 (by decide) tw_147 (gI_F ev2) rfl ?_
    refine g_aload_n (pc' := 12) 0 O dX2_passes_11 rfl rfl rfl ?_
    replace h := ob h; obtain ⟨v3, ev3, h⟩ := h
    refine g_getF (C := RX2) (T := TX2) (N := 9) (ci := 1) (k := 2) (pc' := 15) O dX2_passes_12 rfl inX2 (by decide) tw_148 (gI_F ev3) rfl ?_
    refine g_icmp_ge (tgt := 31) (pc' := 18) O dX2_passes_15 (by decide) rfl (fun hc => ?_) (fun hc => ?_)
    · replace h := ip hc h
      refine g_sub (lv' := []) [] rfl ?_
      exact tX2_passes_31 O hf h
    · replace h := ine hc h
      refine g_aload_n (pc' := 19) 0 O dX2_passes_18 rfl rfl rfl ?_
      replace h := ob h; obtain ⟨v4, ev4, h⟩ := h
      refine g_getF (C := RX2) (T := TX2) (N := 9) (ci := 1) (k := 0) (pc' := 22) O dX2_passes_19 rfl inX2 (by decide) tw_146 (gN_F ev4) rfl ?_
      refine g_aload_n (pc' := 23) 0 O dX2_passes_22 rfl rfl rfl ?_
      replace h := ob h; obtain ⟨v5, ev5, h⟩ := h
      refine g_getF (C := RX2) (T := TX2) (N := 9) (ci := 1) (k := 1) (pc' := 26) O dX2_passes_23 rfl inX2 (by decide) tw_147 (gI_F ev5) rfl ?_
      replace h := ob h; obtain ⟨v6, ev6, h⟩ := h
      refine g_iald (pc' := 27) O dX2_passes_26 ev6 rfl ?_
      refine g_iload_n (pc' := 28) 1 O dX2_passes_27 rfl rfl rfl ?_
      refine g_icmp_eq (tgt := 33) (pc' := 31) O dX2_passes_28 (by decide) rfl (fun hc => ?_) (fun hc => ?_)
      · replace h := ip hc h
        refine g_aload_n (pc' := 34) 0 O dX2_passes_33 rfl rfl rfl ?_
        refine g_dup (pc' := 35) O dX2_passes_34 rfl rfl ?_
        replace h := ob h; obtain ⟨v7, ev7, h⟩ := h
        refine g_getF (C := RX2) (T := TX2) (N := 9) (ci := 1) (k := 1) (pc' := 38) O dX2_passes_35 rfl inX2 (by decide) tw_147 (gI_F ev7) rfl ?_
        refine g_iconst (v := 1) (pc' := 39) O dX2_passes_38 (by decide) rfl ?_
        refine g_iadd (pc' := 40) O dX2_passes_39 rfl ?_
        replace h := ob h; obtain ⟨M8, eM8, h⟩ := h
        refine g_putF (C := RX2) (T := TX2) (N := 9) (ci := 1) (k := 1) (pc' := 43) O dX2_passes_40 rfl inX2 (by decide) tw_147 tyX2 tyX2_ok nmX2 rfl rfl rfl rfl eM8 rfl ?_
        refine g_iconst (v := 1) (pc' := 44) O dX2_passes_43 (by decide) rfl ?_
        replace h := ob h; obtain ⟨z9, ez9, h⟩ := h
        obtain ⟨hz9, ez9b⟩ := nz_spec ez9
        rw [ez9b] at h
        cases h
        exact g_ireturn O dX2_passes_44 rfl (nz_nar hz9) hf (by decide) (by decide)
      · replace h := ine hc h
        refine g_sub (lv' := []) [] rfl ?_
        exact tX2_passes_31 O hf h
abbrev mX2_lack : MD := (cX2_lack, 1, RX2, none, { frames := 0, cells := 0, slots := 0, locals := 0 }, "lack")
theorem hyX2_lack : yX2_lack.cls ≠ "java/lang/invoke/MethodHandle" ∧ yX2_lack.cls ≠ "java/lang/invoke/VarHandle" ∧ (parseMethodDescriptor yX2_lack.desc).map (fun d => d.parameters.length) = some 0 := by decide +kernel
def fX2_lack_27  (M : Mem) : Option (Mem) :=
  some M
set_option maxHeartbeats 4000000 in
set_option maxRecDepth 100000 in
theorem tX2_lack_27 {κ : KT} {p : Mem} (O : OkK κ mX2_lack) (hf : κ.2.2.2.2.2.2.2.2.2.2.2.2.2 = (none, p))  {M : Mem} (h : fX2_lack_27  M = some p) : G κ mX2_lack 0 0 27 [] [] M := by
  unfold fX2_lack_27 at h
  cases h
  exact g_vreturn O dX2_lack_27 rfl hf (by decide) (by decide)
def fX2_lack_24  (s0 : Int32) (s1 : Nat) (M : Mem) : Option (Mem) :=
  (pF M 1 s1 3 (.int s0)).bind fun M1 =>
  fX2_lack_27 M1
set_option maxHeartbeats 4000000 in
set_option maxRecDepth 100000 in
theorem tX2_lack_24 {κ : KT} {p : Mem} (O : OkK κ mX2_lack) (hf : κ.2.2.2.2.2.2.2.2.2.2.2.2.2 = (none, p))  {s0 : Int32} {s1 : Nat} {M : Mem} (h : fX2_lack_24  s0 s1 M = some p) : G κ mX2_lack 0 0 24 [] [.int s0, .ref s1] M := by
  unfold fX2_lack_24 at h
  replace h := ob h; obtain ⟨M1, eM1, h⟩ := h
  refine g_putF (C := RX2) (T := TX2) (N := 9) (ci := 1) (k := 3) (pc' := 27) O dX2_lack_24 rfl inX2 (by decide) tw_149 tyX2 tyX2_ok nmX2 rfl rfl rfl rfl eM1 rfl ?_
  exact tX2_lack_27 O hf h
def fX2_lack  (this : Nat) (M : Mem) : Option (Mem) :=
  (gI M 1 this 3).bind fun v1 =>
  if v1 = 0 then ((gI M 1 this 1).bind fun v2 =>
  (gI M 1 this 2).bind fun v3 =>
  if v2 < v3 then (fX2_lack_24 (2 : Int32) this M)
  else (fX2_lack_24 (1 : Int32) this M))
  else (fX2_lack_27 M)
set_option maxHeartbeats 4000000 in
set_option maxRecDepth 100000 in
theorem okX2_lack {l : Launch} {p : Mem} {this : Nat} {M : Mem} (h : fX2_lack this M = some p) : Cn l yX2_lack mX2_lack [.ref this] M none p := by
  refine Cn.of [(0, .ref this)] (by decide) rfl rfl (Nat.le_of_ble_eq_true rfl) rfl (fun κ _ hf O => ?_)
  unfold fX2_lack at h
  refine g_aload_n (pc' := 1) 0 O dX2_lack_0 rfl rfl rfl ?_
  replace h := ob h; obtain ⟨v1, ev1, h⟩ := h
  refine g_getF (C := RX2) (T := TX2) (N := 9) (ci := 1) (k := 3) (pc' := 4) O dX2_lack_1 rfl inX2 (by decide) tw_149 (gI_F ev1) rfl ?_
  refine g_if_ne (tgt := 27) (pc' := 7) O dX2_lack_4 (by decide) rfl (fun hc => ?_) (fun hc => ?_)
  · replace h := ine hc h
    refine g_sub (lv' := []) [] rfl ?_
    exact tX2_lack_27 O hf h
  · replace h := ip hc h
    refine g_aload_n (pc' := 8) 0 O dX2_lack_7 rfl rfl rfl ?_
    refine g_aload_n (pc' := 9) 0 O dX2_lack_8 rfl rfl rfl ?_
    replace h := ob h; obtain ⟨v2, ev2, h⟩ := h
    refine g_getF (C := RX2) (T := TX2) (N := 9) (ci := 1) (k := 1) (pc' := 12) O dX2_lack_9 rfl inX2 (by decide) tw_147 (gI_F ev2) rfl ?_
    refine g_aload_n (pc' := 13) 0 O dX2_lack_12 rfl rfl rfl ?_
    replace h := ob h; obtain ⟨v3, ev3, h⟩ := h
    refine g_getF (C := RX2) (T := TX2) (N := 9) (ci := 1) (k := 2) (pc' := 16) O dX2_lack_13 rfl inX2 (by decide) tw_148 (gI_F ev3) rfl ?_
    refine g_icmp_lt (tgt := 23) (pc' := 19) O dX2_lack_16 (by decide) rfl (fun hc => ?_) (fun hc => ?_)
    · replace h := ip hc h
      refine g_iconst (v := 2) (pc' := 24) O dX2_lack_23 (by decide) rfl ?_
      refine g_sub (lv' := []) [] rfl ?_
      exact tX2_lack_24 O hf h
    · replace h := ine hc h
      refine g_iconst (v := 1) (pc' := 20) O dX2_lack_19 (by decide) rfl ?_
      refine g_goto (pc' := 24) O dX2_lack_20 (by decide) ?_
      refine g_sub (lv' := []) [] rfl ?_
      exact tX2_lack_24 O hf h
abbrev mX2_need : MD := (cX2_need, 2, RX2, none, { frames := 1, cells := 0, slots := 0, locals := 21 }, "need")
theorem hyX2_need : yX2_need.cls ≠ "java/lang/invoke/MethodHandle" ∧ yX2_need.cls ≠ "java/lang/invoke/VarHandle" ∧ (parseMethodDescriptor yX2_need.desc).map (fun d => d.parameters.length) = some 1 := by decide +kernel
def fX2_need_12  (M : Mem) : Option (Mem) :=
  some M
set_option maxHeartbeats 4000000 in
set_option maxRecDepth 100000 in
theorem tX2_need_12 {κ : KT} {p : Mem} (O : OkK κ mX2_need) (hf : κ.2.2.2.2.2.2.2.2.2.2.2.2.2 = (none, p))  {M : Mem} (h : fX2_need_12  M = some p) : G κ mX2_need 0 0 12 [] [] M := by
  unfold fX2_need_12 at h
  cases h
  exact g_vreturn O dX2_need_12 rfl hf (by decide) (by decide)
def fX2_need  (this : Nat) (p0 : Int32) (M : Mem) : Option (Mem) :=
  (ck M 1 this).bind fun u1 =>
  (fX2_passes this p0 M).bind fun r2 =>
  if r2.1 = 0 then ((ck r2.2 1 this).bind fun u3 =>
  (fX2_lack this r2.2).bind fun r4 =>
  fX2_need_12 r4)
  else (fX2_need_12 r2.2)
set_option maxHeartbeats 4000000 in
set_option maxRecDepth 100000 in
theorem okX2_need {l : Launch} {p : Mem} {this : Nat} {p0 : Int32} {M : Mem} (h : fX2_need this p0 M = some p) : Cn l yX2_need mX2_need [.ref this, .int p0] M none p := by
  refine Cn.of [(0, .ref this), (1, .int p0)] (by decide) rfl rfl (Nat.le_of_ble_eq_true rfl) rfl (fun κ _ hf O => ?_)
  unfold fX2_need at h
  refine g_aload_n (pc' := 1) 0 O dX2_need_0 rfl rfl rfl ?_
  refine g_iload_n (pc' := 2) 1 O dX2_need_1 rfl rfl rfl ?_
  replace h := ob h; obtain ⟨u1, eu1, h⟩ := h
  replace h := ob h; obtain ⟨r2, er2, h⟩ := h
  refine g_callV (y := yX2_passes) (ν := mX2_passes) (n := 1) (As := [.int p0]) (b := this) (st := []) (M2 := r2.2) (r1 := (some (.int r2.1))) (pc' := 5) O dX2_need_2 tw_328 tw_57 tw_327 tw_3 tw_325 hyX2_passes rfl rfl eu1 (okX2_passes er2) (Nat.le_of_ble_eq_true rfl) ⟨Nat.le_of_ble_eq_true rfl, Nat.le_of_ble_eq_true rfl⟩ ⟨Nat.le_of_ble_eq_true rfl, Nat.le_of_ble_eq_true rfl⟩ rfl ?_
  show G κ mX2_need 0 0 5 [(0, .ref this), (1, .int p0)] [.int r2.1] r2.2
  refine g_if_ne (tgt := 12) (pc' := 8) O dX2_need_5 (by decide) rfl (fun hc => ?_) (fun hc => ?_)
  · replace h := ine hc h
    refine g_sub (lv' := []) [] rfl ?_
    exact tX2_need_12 O hf h
  · replace h := ip hc h
    refine g_aload_n (pc' := 9) 0 O dX2_need_8 rfl rfl rfl ?_
    replace h := ob h; obtain ⟨u3, eu3, h⟩ := h
    replace h := ob h; obtain ⟨r4, er4, h⟩ := h
    refine g_callV (y := yX2_lack) (ν := mX2_lack) (n := 0) (As := []) (b := this) (st := []) (M2 := r4) (r1 := none) (pc' := 12) O dX2_need_9 tw_332 tw_57 tw_331 tw_4 tw_329 hyX2_lack rfl rfl eu3 (okX2_lack er4) (Nat.le_of_ble_eq_true rfl) ⟨Nat.le_of_ble_eq_true rfl, Nat.le_of_ble_eq_true rfl⟩ ⟨Nat.le_of_ble_eq_true rfl, Nat.le_of_ble_eq_true rfl⟩ rfl ?_
    show G κ mX2_need 0 0 12 [(0, .ref this), (1, .int p0)] [] r4
    refine g_sub (lv' := []) [] rfl ?_
    exact tX2_need_12 O hf h
abbrev mX7_isDigit : MD := (cX7_isDigit, 1, RX7, (some .boolean), { frames := 0, cells := 0, slots := 0, locals := 0 }, "isDigit")
theorem hyX7_isDigit : yX7_isDigit.cls ≠ "java/lang/invoke/MethodHandle" ∧ yX7_isDigit.cls ≠ "java/lang/invoke/VarHandle" ∧ (parseMethodDescriptor yX7_isDigit.desc).map (fun d => d.parameters.length) = some 1 := by decide +kernel
def fX7_isDigit_17  (s0 : Int32) (M : Mem) : Option (Int32 × Mem) :=
  (nz s0).bind fun z1 =>
  some (z1, M)
set_option maxHeartbeats 4000000 in
set_option maxRecDepth 100000 in
theorem tX7_isDigit_17 {κ : KT} {p : Int32 × Mem} (O : OkK κ mX7_isDigit) (hf : κ.2.2.2.2.2.2.2.2.2.2.2.2.2 = (some (.int p.1), p.2))  {s0 : Int32} {M : Mem} (h : fX7_isDigit_17  s0 M = some p) : G κ mX7_isDigit 0 0 17 [] [.int s0] M := by
  unfold fX7_isDigit_17 at h
  replace h := ob h; obtain ⟨z1, ez1, h⟩ := h
  obtain ⟨hz1, ez1b⟩ := nz_spec ez1
  rw [ez1b] at h
  cases h
  exact g_ireturn O dX7_isDigit_17 rfl (nz_nar hz1) hf (by decide) (by decide)
def fX7_isDigit_16  (M : Mem) : Option (Int32 × Mem) :=
  fX7_isDigit_17 (0 : Int32) M
set_option maxHeartbeats 4000000 in
set_option maxRecDepth 100000 in
theorem tX7_isDigit_16 {κ : KT} {p : Int32 × Mem} (O : OkK κ mX7_isDigit) (hf : κ.2.2.2.2.2.2.2.2.2.2.2.2.2 = (some (.int p.1), p.2))  {M : Mem} (h : fX7_isDigit_16  M = some p) : G κ mX7_isDigit 0 0 16 [] [] M := by
  unfold fX7_isDigit_16 at h
  refine g_iconst (v := 0) (pc' := 17) O dX7_isDigit_16 (by decide) rfl ?_
  exact tX7_isDigit_17 O hf h
def fX7_isDigit  (p0 : Int32) (M : Mem) : Option (Int32 × Mem) :=
  if p0 < (48 : Int32) then (fX7_isDigit_16 M)
  else (if (57 : Int32) < p0 then (fX7_isDigit_16 M)
  else (fX7_isDigit_17 (1 : Int32) M))
set_option maxHeartbeats 4000000 in
set_option maxRecDepth 100000 in
theorem okX7_isDigit {l : Launch} {p : Int32 × Mem} {p0 : Int32} {M : Mem} (h : fX7_isDigit p0 M = some p) : Cn l yX7_isDigit mX7_isDigit [.int p0] M (some (.int p.1)) p.2 := by
  refine Cn.of [(0, .int p0)] (by decide) rfl rfl (Nat.le_of_ble_eq_true rfl) rfl (fun κ _ hf O => ?_)
  unfold fX7_isDigit at h
  refine g_iload_n (pc' := 1) 0 O dX7_isDigit_0 rfl rfl rfl ?_
  refine g_bipush (v := 48) (pc' := 3) O dX7_isDigit_1 (by decide) rfl ?_
  refine g_icmp_lt (tgt := 16) (pc' := 6) O dX7_isDigit_3 (by decide) rfl (fun hc => ?_) (fun hc => ?_)
  · replace h := ip hc h
    refine g_sub (lv' := []) [] rfl ?_
    exact tX7_isDigit_16 O hf h
  · replace h := ine hc h
    refine g_iload_n (pc' := 7) 0 O dX7_isDigit_6 rfl rfl rfl ?_
    refine g_bipush (v := 57) (pc' := 9) O dX7_isDigit_7 (by decide) rfl ?_
    refine g_icmp_gt (tgt := 16) (pc' := 12) O dX7_isDigit_9 (by decide) rfl (fun hc => ?_) (fun hc => ?_)
    · replace h := ip hc h
      refine g_sub (lv' := []) [] rfl ?_
      exact tX7_isDigit_16 O hf h
    · replace h := ine hc h
      refine g_iconst (v := 1) (pc' := 13) O dX7_isDigit_12 (by decide) rfl ?_
      refine g_goto (pc' := 17) O dX7_isDigit_13 (by decide) ?_
      refine g_sub (lv' := []) [] rfl ?_
      exact tX7_isDigit_17 O hf h
abbrev mX2_passDigits : MD := (cX2_passDigits, 3, RX2, (some .int), { frames := 1, cells := 0, slots := 0, locals := 20 }, "passDigits")
theorem hyX2_passDigits : yX2_passDigits.cls ≠ "java/lang/invoke/MethodHandle" ∧ yX2_passDigits.cls ≠ "java/lang/invoke/VarHandle" ∧ (parseMethodDescriptor yX2_passDigits.desc).map (fun d => d.parameters.length) = some 1 := by decide +kernel
def fX2_passDigits_82  (x2 : Int32) (M : Mem) : Option (Int32 × Mem) :=
  some (x2, M)
set_option maxHeartbeats 4000000 in
set_option maxRecDepth 100000 in
theorem tX2_passDigits_82 {κ : KT} {p : Int32 × Mem} (O : OkK κ mX2_passDigits) (hf : κ.2.2.2.2.2.2.2.2.2.2.2.2.2 = (some (.int p.1), p.2))  {x2 : Int32} {M : Mem} (h : fX2_passDigits_82  x2 M = some p) : G κ mX2_passDigits 0 0 82 [(2, .int x2)] [] M := by
  unfold fX2_passDigits_82 at h
  refine g_iload_n (pc' := 83) 0 O dX2_passDigits_82 rfl rfl rfl ?_
  cases h
  exact g_ireturn O dX2_passDigits_83 rfl rfl hf (by decide) (by decide)
def fX2_passDigits_2  : Nat → Nat → Int32 → Int32 → Mem → Option (Int32 × Mem)
  | 0, _, _, _, _ => none
  | n + 1, x0, x1, x2, M =>
    if x1 ≤ x2 then (fX2_passDigits_82 x2 M)
    else ((gI M 1 x0 3).bind fun v1 =>
    if v1 = 0 then ((gI M 1 x0 1).bind fun v2 =>
    (gI M 1 x0 2).bind fun v3 =>
    if v3 ≤ v2 then (fX2_passDigits_82 x2 M)
    else ((gN M 1 x0 0).bind fun v4 =>
    (gI M 1 x0 1).bind fun v5 =>
    (aI M v4 v5).bind fun v6 =>
    (fX7_isDigit v6 M).bind fun r7 =>
    if r7.1 = 0 then (fX2_passDigits_82 x2 r7.2)
    else ((gL r7.2 1 x0 4).bind fun v8 =>
    (gN r7.2 1 x0 0).bind fun v9 =>
    (gI r7.2 1 x0 1).bind fun v10 =>
    (aI r7.2 v9 v10).bind fun v11 =>
    (pF r7.2 1 x0 4 (.long ((v8 * (10 : Int64)) + ((v11 - (48 : Int32)).toInt64)))).bind fun M12 =>
    (gI M12 1 x0 1).bind fun v13 =>
    (pF M12 1 x0 1 (.int (v13 + (1 : Int32)))).bind fun M14 =>
    fX2_passDigits_2 n x0 x1 (x2 + (1 : Int32)) M14)))
    else (fX2_passDigits_82 x2 M))
set_option maxHeartbeats 4000000 in
set_option maxRecDepth 100000 in
theorem tX2_passDigits_2 {κ : KT} {p : Int32 × Mem} (O : OkK κ mX2_passDigits) (hf : κ.2.2.2.2.2.2.2.2.2.2.2.2.2 = (some (.int p.1), p.2))  : ∀ (n : Nat) (x0 : Nat) (x1 : Int32) (x2 : Int32) (M : Mem), fX2_passDigits_2  n x0 x1 x2 M = some p → G κ mX2_passDigits 0 0 2 [(0, .ref x0), (1, .int x1), (2, .int x2)] [] M := by
  intro n
  induction n with
  | zero => intro x0 x1 x2 M h; cases h
  | succ n ih =>
    intro x0 x1 x2 M h
    rw [fX2_passDigits_2] at h
    refine g_iload_n (pc' := 3) 2 O dX2_passDigits_2 rfl rfl rfl ?_
    refine g_iload_n (pc' := 4) 1 O dX2_passDigits_3 rfl rfl rfl ?_
    refine g_icmp_ge (tgt := 82) (pc' := 7) O dX2_passDigits_4 (by decide) rfl (fun hc => ?_) (fun hc => ?_)
    · replace h := ip hc h
      refine g_sub (lv' := [(2, .int x2)]) [2] rfl ?_
      exact tX2_passDigits_82 O hf h
    · replace h := ine hc h
      refine g_aload_n (pc' := 8) 0 O dX2_passDigits_7 rfl rfl rfl ?_
      replace h := ob h; obtain ⟨v1, ev1, h⟩ := h
      refine g_getF (C := RX2) (T := TX2) (N := 9) (ci := 1) (k := 3) (pc' := 11) O dX2_passDigits_8 rfl inX2 (by decide) tw_149 (gI_F ev1) rfl ?_
      refine g_if_ne (tgt := 82) (pc' := 14) O dX2_passDigits_11 (by decide) rfl (fun hc => ?_) (fun hc => ?_)
      · replace h := ine hc h
        refine g_sub (lv' := [(2, .int x2)]) [2] rfl ?_
        exact tX2_passDigits_82 O hf h
      · replace h := ip hc h
        refine g_aload_n (pc' := 15) 0 O dX2_passDigits_14 rfl rfl rfl ?_
        replace h := ob h; obtain ⟨v2, ev2, h⟩ := h
        refine g_getF (C := RX2) (T := TX2) (N := 9) (ci := 1) (k := 1) (pc' := 18) O dX2_passDigits_15 rfl inX2 (by decide) tw_147 (gI_F ev2) rfl ?_
        refine g_aload_n (pc' := 19) 0 O dX2_passDigits_18 rfl rfl rfl ?_
        replace h := ob h; obtain ⟨v3, ev3, h⟩ := h
        refine g_getF (C := RX2) (T := TX2) (N := 9) (ci := 1) (k := 2) (pc' := 22) O dX2_passDigits_19 rfl inX2 (by decide) tw_148 (gI_F ev3) rfl ?_
        refine g_icmp_ge (tgt := 82) (pc' := 25) O dX2_passDigits_22 (by decide) rfl (fun hc => ?_) (fun hc => ?_)
        · replace h := ip hc h
          refine g_sub (lv' := [(2, .int x2)]) [2] rfl ?_
          exact tX2_passDigits_82 O hf h
        · replace h := ine hc h
          refine g_aload_n (pc' := 26) 0 O dX2_passDigits_25 rfl rfl rfl ?_
          replace h := ob h; obtain ⟨v4, ev4, h⟩ := h
          refine g_getF (C := RX2) (T := TX2) (N := 9) (ci := 1) (k := 0) (pc' := 29) O dX2_passDigits_26 rfl inX2 (by decide) tw_146 (gN_F ev4) rfl ?_
          refine g_aload_n (pc' := 30) 0 O dX2_passDigits_29 rfl rfl rfl ?_
          replace h := ob h; obtain ⟨v5, ev5, h⟩ := h
          refine g_getF (C := RX2) (T := TX2) (N := 9) (ci := 1) (k := 1) (pc' := 33) O dX2_passDigits_30 rfl inX2 (by decide) tw_147 (gI_F ev5) rfl ?_
          replace h := ob h; obtain ⟨v6, ev6, h⟩ := h
          refine g_iald (pc' := 34) O dX2_passDigits_33 ev6 rfl ?_
          replace h := ob h; obtain ⟨r7, er7, h⟩ := h
          refine g_callSN (y := yX7_isDigit) (ν := mX7_isDigit) (n := 1) (As := [.int v6]) (b := 0) (st := []) (M2 := r7.2) (r1 := (some (.int r7.1))) (pc' := 37) O dX2_passDigits_34 tw_347 tw_53 tw_346 (by decide) hyX7_isDigit rfl (okX7_isDigit er7) (Nat.le_of_ble_eq_true rfl) ⟨Nat.le_of_ble_eq_true rfl, Nat.le_of_ble_eq_true rfl⟩ ⟨Nat.le_of_ble_eq_true rfl, Nat.le_of_ble_eq_true rfl⟩ rfl ?_
          show G κ mX2_passDigits 0 0 37 [(0, .ref x0), (1, .int x1), (2, .int x2)] [.int r7.1] r7.2
          refine g_if_eq (tgt := 82) (pc' := 40) O dX2_passDigits_37 (by decide) rfl (fun hc => ?_) (fun hc => ?_)
          · replace h := ip hc h
            refine g_sub (lv' := [(2, .int x2)]) [2] rfl ?_
            exact tX2_passDigits_82 O hf h
          · replace h := ine hc h
            refine g_aload_n (pc' := 41) 0 O dX2_passDigits_40 rfl rfl rfl ?_
            refine g_aload_n (pc' := 42) 0 O dX2_passDigits_41 rfl rfl rfl ?_
            replace h := ob h; obtain ⟨v8, ev8, h⟩ := h
            refine g_getF (C := RX2) (T := TX2) (N := 9) (ci := 1) (k := 4) (pc' := 45) O dX2_passDigits_42 rfl inX2 (by decide) tw_150 (gL_F ev8) rfl ?_
            refine g_ldc2 (v := 10) (pc' := 48) O dX2_passDigits_45 tw_348 rfl ?_
            refine g_lmul (pc' := 49) O dX2_passDigits_48 rfl ?_
            refine g_aload_n (pc' := 50) 0 O dX2_passDigits_49 rfl rfl rfl ?_
            replace h := ob h; obtain ⟨v9, ev9, h⟩ := h
            refine g_getF (C := RX2) (T := TX2) (N := 9) (ci := 1) (k := 0) (pc' := 53) O dX2_passDigits_50 rfl inX2 (by decide) tw_146 (gN_F ev9) rfl ?_
            refine g_aload_n (pc' := 54) 0 O dX2_passDigits_53 rfl rfl rfl ?_
            replace h := ob h; obtain ⟨v10, ev10, h⟩ := h
            refine g_getF (C := RX2) (T := TX2) (N := 9) (ci := 1) (k := 1) (pc' := 57) O dX2_passDigits_54 rfl inX2 (by decide) tw_147 (gI_F ev10) rfl ?_
            replace h := ob h; obtain ⟨v11, ev11, h⟩ := h
            refine g_iald (pc' := 58) O dX2_passDigits_57 ev11 rfl ?_
            refine g_bipush (v := 48) (pc' := 60) O dX2_passDigits_58 (by decide) rfl ?_
            refine g_isub (pc' := 61) O dX2_passDigits_60 rfl ?_
            refine g_i2l (pc' := 62) O dX2_passDigits_61 rfl ?_
            refine g_ladd (pc' := 63) O dX2_passDigits_62 rfl ?_
            replace h := ob h; obtain ⟨M12, eM12, h⟩ := h
            refine g_putF (C := RX2) (T := TX2) (N := 9) (ci := 1) (k := 4) (pc' := 66) O dX2_passDigits_63 rfl inX2 (by decide) tw_150 tyX2 tyX2_ok nmX2 rfl rfl rfl rfl eM12 rfl ?_
            refine g_aload_n (pc' := 67) 0 O dX2_passDigits_66 rfl rfl rfl ?_
            refine g_dup (pc' := 68) O dX2_passDigits_67 rfl rfl ?_
            replace h := ob h; obtain ⟨v13, ev13, h⟩ := h
            refine g_getF (C := RX2) (T := TX2) (N := 9) (ci := 1) (k := 1) (pc' := 71) O dX2_passDigits_68 rfl inX2 (by decide) tw_147 (gI_F ev13) rfl ?_
            refine g_iconst (v := 1) (pc' := 72) O dX2_passDigits_71 (by decide) rfl ?_
            refine g_iadd (pc' := 73) O dX2_passDigits_72 rfl ?_
            replace h := ob h; obtain ⟨M14, eM14, h⟩ := h
            refine g_putF (C := RX2) (T := TX2) (N := 9) (ci := 1) (k := 1) (pc' := 76) O dX2_passDigits_73 rfl inX2 (by decide) tw_147 tyX2 tyX2_ok nmX2 rfl rfl rfl rfl eM14 rfl ?_
            refine g_iinc (q := 2) (v := x2 + (1 : Int32)) (lv' := [(2, .int (x2 + (1 : Int32))), (0, .ref x0), (1, .int x1)]) (pc' := 79) O dX2_passDigits_76 rfl rfl (by decide) rfl rfl ?_
            refine g_goto (pc' := 2) O dX2_passDigits_79 (by decide) ?_
            refine g_sub (lv' := [(0, .ref x0), (1, .int x1), (2, .int (x2 + (1 : Int32)))]) [1, 2, 0] rfl ?_
            exact ih x0 x1 (x2 + (1 : Int32)) M14 h
def fX2_passDigits  (this : Nat) (p0 : Int32) (M : Mem) : Option (Int32 × Mem) :=
  fX2_passDigits_2 FU this p0 (0 : Int32) M
set_option maxHeartbeats 4000000 in
set_option maxRecDepth 100000 in
theorem okX2_passDigits {l : Launch} {p : Int32 × Mem} {this : Nat} {p0 : Int32} {M : Mem} (h : fX2_passDigits this p0 M = some p) : Cn l yX2_passDigits mX2_passDigits [.ref this, .int p0] M (some (.int p.1)) p.2 := by
  refine Cn.of [(0, .ref this), (1, .int p0)] (by decide) rfl rfl (Nat.le_of_ble_eq_true rfl) rfl (fun κ _ hf O => ?_)
  unfold fX2_passDigits at h
  refine g_iconst (v := 0) (pc' := 1) O dX2_passDigits_0 (by decide) rfl ?_
  refine g_istore_n (lv' := [(2, .int (0 : Int32)), (0, .ref this), (1, .int p0)]) (pc' := 2) O dX2_passDigits_1 rfl (by decide) rfl rfl ?_
  refine g_sub (lv' := [(0, .ref this), (1, .int p0), (2, .int (0 : Int32))]) [1, 2, 0] rfl ?_
  exact tX2_passDigits_2 O hf FU this p0 (0 : Int32) M h
abbrev mX2_needPart : MD := (cX2_needPart, 3, RX2, none, { frames := 2, cells := 0, slots := 0, locals := 42 }, "needPart")
theorem hyX2_needPart : yX2_needPart.cls ≠ "java/lang/invoke/MethodHandle" ∧ yX2_needPart.cls ≠ "java/lang/invoke/VarHandle" ∧ (parseMethodDescriptor yX2_needPart.desc).map (fun d => d.parameters.length) = some 1 := by decide +kernel
def fX2_needPart_101  (M : Mem) : Option (Mem) :=
  some M
set_option maxHeartbeats 4000000 in
set_option maxRecDepth 100000 in
theorem tX2_needPart_101 {κ : KT} {p : Mem} (O : OkK κ mX2_needPart) (hf : κ.2.2.2.2.2.2.2.2.2.2.2.2.2 = (none, p))  {M : Mem} (h : fX2_needPart_101  M = some p) : G κ mX2_needPart 0 0 101 [] [] M := by
  unfold fX2_needPart_101 at h
  cases h
  exact g_vreturn O dX2_needPart_101 rfl hf (by decide) (by decide)
def fX2_needPart_94  (x0 : Nat) (s0 : Int32) (s1 : Int32) (M : Mem) : Option (Mem) :=
  if s0 ≤ s1 then (fX2_needPart_101 M)
  else ((ck M 1 x0).bind fun u1 =>
  (fX2_lack x0 M).bind fun r2 =>
  fX2_needPart_101 r2)
set_option maxHeartbeats 4000000 in
set_option maxRecDepth 100000 in
theorem tX2_needPart_94 {κ : KT} {p : Mem} (O : OkK κ mX2_needPart) (hf : κ.2.2.2.2.2.2.2.2.2.2.2.2.2 = (none, p))  {x0 : Nat} {s0 : Int32} {s1 : Int32} {M : Mem} (h : fX2_needPart_94  x0 s0 s1 M = some p) : G κ mX2_needPart 0 0 94 [(0, .ref x0)] [.int s0, .int s1] M := by
  unfold fX2_needPart_94 at h
  refine g_icmp_ge (tgt := 101) (pc' := 97) O dX2_needPart_94 (by decide) rfl (fun hc => ?_) (fun hc => ?_)
  · replace h := ip hc h
    refine g_sub (lv' := []) [] rfl ?_
    exact tX2_needPart_101 O hf h
  · replace h := ine hc h
    refine g_aload_n (pc' := 98) 0 O dX2_needPart_97 rfl rfl rfl ?_
    replace h := ob h; obtain ⟨u1, eu1, h⟩ := h
    replace h := ob h; obtain ⟨r2, er2, h⟩ := h
    refine g_callV (y := yX2_lack) (ν := mX2_lack) (n := 0) (As := []) (b := x0) (st := []) (M2 := r2) (r1 := none) (pc' := 101) O dX2_needPart_98 tw_332 tw_57 tw_331 tw_4 tw_329 hyX2_lack rfl rfl eu1 (okX2_lack er2) (Nat.le_of_ble_eq_true rfl) ⟨Nat.le_of_ble_eq_true rfl, Nat.le_of_ble_eq_true rfl⟩ ⟨Nat.le_of_ble_eq_true rfl, Nat.le_of_ble_eq_true rfl⟩ rfl ?_
    show G κ mX2_needPart 0 0 101 [(0, .ref x0)] [] r2
    refine g_sub (lv' := []) [] rfl ?_
    exact tX2_needPart_101 O hf h
def fX2_needPart_79  (x0 : Nat) (x1 : Int32) (x2 : Int32) (M : Mem) : Option (Mem) :=
  (gN M 1 x0 7).bind fun v1 =>
  (aI M v1 x1).bind fun v2 =>
  if x2 = 0 then (fX2_needPart_94 x0 (1 : Int32) v2 M)
  else (fX2_needPart_94 x0 (4 : Int32) v2 M)
set_option maxHeartbeats 4000000 in
set_option maxRecDepth 100000 in
theorem tX2_needPart_79 {κ : KT} {p : Mem} (O : OkK κ mX2_needPart) (hf : κ.2.2.2.2.2.2.2.2.2.2.2.2.2 = (none, p))  {x0 : Nat} {x1 : Int32} {x2 : Int32} {M : Mem} (h : fX2_needPart_79  x0 x1 x2 M = some p) : G κ mX2_needPart 0 0 79 [(0, .ref x0), (1, .int x1), (2, .int x2)] [] M := by
  unfold fX2_needPart_79 at h
  refine g_aload_n (pc' := 80) 0 O dX2_needPart_79 rfl rfl rfl ?_
  replace h := ob h; obtain ⟨v1, ev1, h⟩ := h
  refine g_getF (C := RX2) (T := TX2) (N := 9) (ci := 1) (k := 7) (pc' := 83) O dX2_needPart_80 rfl inX2 (by decide) tw_154 (gN_F ev1) rfl ?_
  refine g_iload_n (pc' := 84) 1 O dX2_needPart_83 rfl rfl rfl ?_
  replace h := ob h; obtain ⟨v2, ev2, h⟩ := h
  refine g_iald (pc' := 85) O dX2_needPart_84 ev2 rfl ?_
  refine g_iload_n (pc' := 86) 2 O dX2_needPart_85 rfl rfl rfl ?_
  refine g_if_eq (tgt := 93) (pc' := 89) O dX2_needPart_86 (by decide) rfl (fun hc => ?_) (fun hc => ?_)
  · replace h := ip hc h
    refine g_iconst (v := 1) (pc' := 94) O dX2_needPart_93 (by decide) rfl ?_
    refine g_sub (lv' := [(0, .ref x0)]) [0] rfl ?_
    exact tX2_needPart_94 O hf h
  · replace h := ine hc h
    refine g_iconst (v := 4) (pc' := 90) O dX2_needPart_89 (by decide) rfl ?_
    refine g_goto (pc' := 94) O dX2_needPart_90 (by decide) ?_
    refine g_sub (lv' := [(0, .ref x0)]) [0] rfl ?_
    exact tX2_needPart_94 O hf h
def fX2_needPart_48  (x0 : Nat) (x1 : Int32) (x2 : Int32) (s0 : Int32) (s1 : Nat) (s2 : Int32) (s3 : Nat) (M : Mem) : Option (Mem) :=
  (ck M 1 s1).bind fun u1 =>
  (fX2_passDigits s1 s0 M).bind fun r2 =>
  (sI r2.2 s3 s2 r2.1).bind fun M3 =>
  (gN M3 1 x0 6).bind fun v4 =>
  (gL M3 1 x0 4).bind fun v5 =>
  (sI M3 v4 x1 (v5.toInt32)).bind fun M6 =>
  (gI M6 1 x0 1).bind fun v7 =>
  (gI M6 1 x0 2).bind fun v8 =>
  if v7 < v8 then (fX2_needPart_79 x0 x1 x2 M6)
  else ((pF M6 1 x0 8 (.int x1)).bind fun M9 =>
  fX2_needPart_79 x0 x1 x2 M9)
set_option maxHeartbeats 4000000 in
set_option maxRecDepth 100000 in
theorem tX2_needPart_48 {κ : KT} {p : Mem} (O : OkK κ mX2_needPart) (hf : κ.2.2.2.2.2.2.2.2.2.2.2.2.2 = (none, p))  {x0 : Nat} {x1 : Int32} {x2 : Int32} {s0 : Int32} {s1 : Nat} {s2 : Int32} {s3 : Nat} {M : Mem} (h : fX2_needPart_48  x0 x1 x2 s0 s1 s2 s3 M = some p) : G κ mX2_needPart 0 0 48 [(0, .ref x0), (1, .int x1), (2, .int x2)] [.int s0, .ref s1, .int s2, .ref s3] M := by
  unfold fX2_needPart_48 at h
  replace h := ob h; obtain ⟨u1, eu1, h⟩ := h
  replace h := ob h; obtain ⟨r2, er2, h⟩ := h
  refine g_callV (y := yX2_passDigits) (ν := mX2_passDigits) (n := 1) (As := [.int s0]) (b := s1) (st := [.int s2, .ref s3]) (M2 := r2.2) (r1 := (some (.int r2.1))) (pc' := 51) O dX2_needPart_48 tw_344 tw_57 tw_343 tw_6 tw_341 hyX2_passDigits rfl rfl eu1 (okX2_passDigits er2) (Nat.le_of_ble_eq_true rfl) ⟨Nat.le_of_ble_eq_true rfl, Nat.le_of_ble_eq_true rfl⟩ ⟨Nat.le_of_ble_eq_true rfl, Nat.le_of_ble_eq_true rfl⟩ rfl ?_
  show G κ mX2_needPart 0 0 51 [(0, .ref x0), (1, .int x1), (2, .int x2)] [.int r2.1, .int s2, .ref s3] r2.2
  replace h := ob h; obtain ⟨M3, eM3, h⟩ := h
  refine g_iast (pc' := 52) O dX2_needPart_51 eM3 rfl ?_
  refine g_aload_n (pc' := 53) 0 O dX2_needPart_52 rfl rfl rfl ?_
  replace h := ob h; obtain ⟨v4, ev4, h⟩ := h
  refine g_getF (C := RX2) (T := TX2) (N := 9) (ci := 1) (k := 6) (pc' := 56) O dX2_needPart_53 rfl inX2 (by decide) tw_153 (gN_F ev4) rfl ?_
  refine g_iload_n (pc' := 57) 1 O dX2_needPart_56 rfl rfl rfl ?_
  refine g_aload_n (pc' := 58) 0 O dX2_needPart_57 rfl rfl rfl ?_
  replace h := ob h; obtain ⟨v5, ev5, h⟩ := h
  refine g_getF (C := RX2) (T := TX2) (N := 9) (ci := 1) (k := 4) (pc' := 61) O dX2_needPart_58 rfl inX2 (by decide) tw_150 (gL_F ev5) rfl ?_
  refine g_l2i (pc' := 62) O dX2_needPart_61 rfl ?_
  replace h := ob h; obtain ⟨M6, eM6, h⟩ := h
  refine g_iast (pc' := 63) O dX2_needPart_62 eM6 rfl ?_
  refine g_aload_n (pc' := 64) 0 O dX2_needPart_63 rfl rfl rfl ?_
  replace h := ob h; obtain ⟨v7, ev7, h⟩ := h
  refine g_getF (C := RX2) (T := TX2) (N := 9) (ci := 1) (k := 1) (pc' := 67) O dX2_needPart_64 rfl inX2 (by decide) tw_147 (gI_F ev7) rfl ?_
  refine g_aload_n (pc' := 68) 0 O dX2_needPart_67 rfl rfl rfl ?_
  replace h := ob h; obtain ⟨v8, ev8, h⟩ := h
  refine g_getF (C := RX2) (T := TX2) (N := 9) (ci := 1) (k := 2) (pc' := 71) O dX2_needPart_68 rfl inX2 (by decide) tw_148 (gI_F ev8) rfl ?_
  refine g_icmp_lt (tgt := 79) (pc' := 74) O dX2_needPart_71 (by decide) rfl (fun hc => ?_) (fun hc => ?_)
  · replace h := ip hc h
    exact tX2_needPart_79 O hf h
  · replace h := ine hc h
    refine g_aload_n (pc' := 75) 0 O dX2_needPart_74 rfl rfl rfl ?_
    refine g_iload_n (pc' := 76) 1 O dX2_needPart_75 rfl rfl rfl ?_
    replace h := ob h; obtain ⟨M9, eM9, h⟩ := h
    refine g_putF (C := RX2) (T := TX2) (N := 9) (ci := 1) (k := 8) (pc' := 79) O dX2_needPart_76 rfl inX2 (by decide) tw_155 tyX2 tyX2_ok nmX2 rfl rfl rfl rfl eM9 rfl ?_
    exact tX2_needPart_79 O hf h
def fX2_needPart_27  (x0 : Nat) (x1 : Int32) (s0 : Int32) (M : Mem) : Option (Mem) :=
  (pF M 1 x0 4 (.long (0 : Int64))).bind fun M1 =>
  (gN M1 1 x0 7).bind fun v2 =>
  if s0 = 0 then (fX2_needPart_48 x0 x1 s0 (2 : Int32) x0 x1 v2 M1)
  else (fX2_needPart_48 x0 x1 s0 (4 : Int32) x0 x1 v2 M1)
set_option maxHeartbeats 4000000 in
set_option maxRecDepth 100000 in
theorem tX2_needPart_27 {κ : KT} {p : Mem} (O : OkK κ mX2_needPart) (hf : κ.2.2.2.2.2.2.2.2.2.2.2.2.2 = (none, p))  {x0 : Nat} {x1 : Int32} {s0 : Int32} {M : Mem} (h : fX2_needPart_27  x0 x1 s0 M = some p) : G κ mX2_needPart 0 0 27 [(0, .ref x0), (1, .int x1)] [.int s0] M := by
  unfold fX2_needPart_27 at h
  refine g_istore_n (lv' := [(2, .int s0), (0, .ref x0), (1, .int x1)]) (pc' := 28) O dX2_needPart_27 rfl (by decide) rfl rfl ?_
  refine g_aload_n (pc' := 29) 1 O dX2_needPart_28 rfl rfl rfl ?_
  refine g_lconst (v := 0) (pc' := 30) O dX2_needPart_29 (by decide) rfl ?_
  replace h := ob h; obtain ⟨M1, eM1, h⟩ := h
  refine g_putF (C := RX2) (T := TX2) (N := 9) (ci := 1) (k := 4) (pc' := 33) O dX2_needPart_30 rfl inX2 (by decide) tw_150 tyX2 tyX2_ok nmX2 rfl rfl rfl rfl eM1 rfl ?_
  refine g_aload_n (pc' := 34) 1 O dX2_needPart_33 rfl rfl rfl ?_
  replace h := ob h; obtain ⟨v2, ev2, h⟩ := h
  refine g_getF (C := RX2) (T := TX2) (N := 9) (ci := 1) (k := 7) (pc' := 37) O dX2_needPart_34 rfl inX2 (by decide) tw_154 (gN_F ev2) rfl ?_
  refine g_iload_n (pc' := 38) 2 O dX2_needPart_37 rfl rfl rfl ?_
  refine g_aload_n (pc' := 39) 1 O dX2_needPart_38 rfl rfl rfl ?_
  refine g_iload_n (pc' := 40) 0 O dX2_needPart_39 rfl rfl rfl ?_
  refine g_if_eq (tgt := 47) (pc' := 43) O dX2_needPart_40 (by decide) rfl (fun hc => ?_) (fun hc => ?_)
  · replace h := ip hc h
    refine g_iconst (v := 2) (pc' := 48) O dX2_needPart_47 (by decide) rfl ?_
    refine g_sub (lv' := [(0, .ref x0), (1, .int x1), (2, .int s0)]) [1, 2, 0] rfl ?_
    exact tX2_needPart_48 O hf h
  · replace h := ine hc h
    refine g_iconst (v := 4) (pc' := 44) O dX2_needPart_43 (by decide) rfl ?_
    refine g_goto (pc' := 48) O dX2_needPart_44 (by decide) ?_
    refine g_sub (lv' := [(0, .ref x0), (1, .int x1), (2, .int s0)]) [1, 2, 0] rfl ?_
    exact tX2_needPart_48 O hf h
def fX2_needPart_16  (M : Mem) : Option (Mem) :=
  some M
set_option maxHeartbeats 4000000 in
set_option maxRecDepth 100000 in
theorem tX2_needPart_16 {κ : KT} {p : Mem} (O : OkK κ mX2_needPart) (hf : κ.2.2.2.2.2.2.2.2.2.2.2.2.2 = (none, p))  {M : Mem} (h : fX2_needPart_16  M = some p) : G κ mX2_needPart 0 0 16 [] [] M := by
  unfold fX2_needPart_16 at h
  cases h
  exact g_vreturn O dX2_needPart_16 rfl hf (by decide) (by decide)
def fX2_needPart  (this : Nat) (p0 : Int32) (M : Mem) : Option (Mem) :=
  (gI M 1 this 3).bind fun v1 =>
  if v1 = 0 then (if p0 < 0 then (fX2_needPart_16 M)
  else (if p0 < (3 : Int32) then (if p0 = (2 : Int32) then (fX2_needPart_27 this p0 (1 : Int32) M)
  else (fX2_needPart_27 this p0 (0 : Int32) M))
  else (fX2_needPart_16 M)))
  else (fX2_needPart_16 M)
set_option maxHeartbeats 4000000 in
set_option maxRecDepth 100000 in
theorem okX2_needPart {l : Launch} {p : Mem} {this : Nat} {p0 : Int32} {M : Mem} (h : fX2_needPart this p0 M = some p) : Cn l yX2_needPart mX2_needPart [.ref this, .int p0] M none p := by
  refine Cn.of [(0, .ref this), (1, .int p0)] (by decide) rfl rfl (Nat.le_of_ble_eq_true rfl) rfl (fun κ _ hf O => ?_)
  unfold fX2_needPart at h
  refine g_aload_n (pc' := 1) 0 O dX2_needPart_0 rfl rfl rfl ?_
  replace h := ob h; obtain ⟨v1, ev1, h⟩ := h
  refine g_getF (C := RX2) (T := TX2) (N := 9) (ci := 1) (k := 3) (pc' := 4) O dX2_needPart_1 rfl inX2 (by decide) tw_149 (gI_F ev1) rfl ?_
  refine g_if_ne (tgt := 16) (pc' := 7) O dX2_needPart_4 (by decide) rfl (fun hc => ?_) (fun hc => ?_)
  · replace h := ine hc h
    refine g_sub (lv' := []) [] rfl ?_
    exact tX2_needPart_16 O hf h
  · replace h := ip hc h
    refine g_iload_n (pc' := 8) 1 O dX2_needPart_7 rfl rfl rfl ?_
    refine g_if_lt (tgt := 16) (pc' := 11) O dX2_needPart_8 (by decide) rfl (fun hc => ?_) (fun hc => ?_)
    · replace h := ip hc h
      refine g_sub (lv' := []) [] rfl ?_
      exact tX2_needPart_16 O hf h
    · replace h := ine hc h
      refine g_iload_n (pc' := 12) 1 O dX2_needPart_11 rfl rfl rfl ?_
      refine g_iconst (v := 3) (pc' := 13) O dX2_needPart_12 (by decide) rfl ?_
      refine g_icmp_lt (tgt := 17) (pc' := 16) O dX2_needPart_13 (by decide) rfl (fun hc => ?_) (fun hc => ?_)
      · replace h := ip hc h
        refine g_iload_n (pc' := 18) 1 O dX2_needPart_17 rfl rfl rfl ?_
        refine g_iconst (v := 2) (pc' := 19) O dX2_needPart_18 (by decide) rfl ?_
        refine g_icmp_ne (tgt := 26) (pc' := 22) O dX2_needPart_19 (by decide) rfl (fun hc => ?_) (fun hc => ?_)
        · replace h := ine hc h
          refine g_iconst (v := 0) (pc' := 27) O dX2_needPart_26 (by decide) rfl ?_
          exact tX2_needPart_27 O hf h
        · replace h := ip hc h
          refine g_iconst (v := 1) (pc' := 23) O dX2_needPart_22 (by decide) rfl ?_
          refine g_goto (pc' := 27) O dX2_needPart_23 (by decide) ?_
          exact tX2_needPart_27 O hf h
      · replace h := ine hc h
        refine g_sub (lv' := []) [] rfl ?_
        exact tX2_needPart_16 O hf h
abbrev mX2_needEnd : MD := (cX2_needEnd, 1, RX2, none, { frames := 1, cells := 0, slots := 0, locals := 20 }, "needEnd")
theorem hyX2_needEnd : yX2_needEnd.cls ≠ "java/lang/invoke/MethodHandle" ∧ yX2_needEnd.cls ≠ "java/lang/invoke/VarHandle" ∧ (parseMethodDescriptor yX2_needEnd.desc).map (fun d => d.parameters.length) = some 0 := by decide +kernel
def fX2_needEnd_15  (M : Mem) : Option (Mem) :=
  some M
set_option maxHeartbeats 4000000 in
set_option maxRecDepth 100000 in
theorem tX2_needEnd_15 {κ : KT} {p : Mem} (O : OkK κ mX2_needEnd) (hf : κ.2.2.2.2.2.2.2.2.2.2.2.2.2 = (none, p))  {M : Mem} (h : fX2_needEnd_15  M = some p) : G κ mX2_needEnd 0 0 15 [] [] M := by
  unfold fX2_needEnd_15 at h
  cases h
  exact g_vreturn O dX2_needEnd_15 rfl hf (by decide) (by decide)
def fX2_needEnd  (this : Nat) (M : Mem) : Option (Mem) :=
  (gI M 1 this 1).bind fun v1 =>
  (gI M 1 this 2).bind fun v2 =>
  if v2 ≤ v1 then (fX2_needEnd_15 M)
  else ((ck M 1 this).bind fun u3 =>
  (fX2_lack this M).bind fun r4 =>
  fX2_needEnd_15 r4)
set_option maxHeartbeats 4000000 in
set_option maxRecDepth 100000 in
theorem okX2_needEnd {l : Launch} {p : Mem} {this : Nat} {M : Mem} (h : fX2_needEnd this M = some p) : Cn l yX2_needEnd mX2_needEnd [.ref this] M none p := by
  refine Cn.of [(0, .ref this)] (by decide) rfl rfl (Nat.le_of_ble_eq_true rfl) rfl (fun κ _ hf O => ?_)
  unfold fX2_needEnd at h
  refine g_aload_n (pc' := 1) 0 O dX2_needEnd_0 rfl rfl rfl ?_
  replace h := ob h; obtain ⟨v1, ev1, h⟩ := h
  refine g_getF (C := RX2) (T := TX2) (N := 9) (ci := 1) (k := 1) (pc' := 4) O dX2_needEnd_1 rfl inX2 (by decide) tw_147 (gI_F ev1) rfl ?_
  refine g_aload_n (pc' := 5) 0 O dX2_needEnd_4 rfl rfl rfl ?_
  replace h := ob h; obtain ⟨v2, ev2, h⟩ := h
  refine g_getF (C := RX2) (T := TX2) (N := 9) (ci := 1) (k := 2) (pc' := 8) O dX2_needEnd_5 rfl inX2 (by decide) tw_148 (gI_F ev2) rfl ?_
  refine g_icmp_ge (tgt := 15) (pc' := 11) O dX2_needEnd_8 (by decide) rfl (fun hc => ?_) (fun hc => ?_)
  · replace h := ip hc h
    refine g_sub (lv' := []) [] rfl ?_
    exact tX2_needEnd_15 O hf h
  · replace h := ine hc h
    refine g_aload_n (pc' := 12) 0 O dX2_needEnd_11 rfl rfl rfl ?_
    replace h := ob h; obtain ⟨u3, eu3, h⟩ := h
    replace h := ob h; obtain ⟨r4, er4, h⟩ := h
    refine g_callV (y := yX2_lack) (ν := mX2_lack) (n := 0) (As := []) (b := this) (st := []) (M2 := r4) (r1 := none) (pc' := 15) O dX2_needEnd_12 tw_332 tw_57 tw_331 tw_4 tw_329 hyX2_lack rfl rfl eu3 (okX2_lack er4) (Nat.le_of_ble_eq_true rfl) ⟨Nat.le_of_ble_eq_true rfl, Nat.le_of_ble_eq_true rfl⟩ ⟨Nat.le_of_ble_eq_true rfl, Nat.le_of_ble_eq_true rfl⟩ rfl ?_
    show G κ mX2_needEnd 0 0 15 [(0, .ref this)] [] r4
    refine g_sub (lv' := []) [] rfl ?_
    exact tX2_needEnd_15 O hf h
abbrev mX2_leastDay : MD := (cX2_leastDay, 4, RX2, (some .int), { frames := 1, cells := 0, slots := 0, locals := 21 }, "leastDay")
theorem hyX2_leastDay : yX2_leastDay.cls ≠ "java/lang/invoke/MethodHandle" ∧ yX2_leastDay.cls ≠ "java/lang/invoke/VarHandle" ∧ (parseMethodDescriptor yX2_leastDay.desc).map (fun d => d.parameters.length) = some 0 := by decide +kernel
def fX2_leastDay_49  (s0 : Int32) (M : Mem) : Option (Int32 × Mem) :=
  some (s0, M)
set_option maxHeartbeats 4000000 in
set_option maxRecDepth 100000 in
theorem tX2_leastDay_49 {κ : KT} {p : Int32 × Mem} (O : OkK κ mX2_leastDay) (hf : κ.2.2.2.2.2.2.2.2.2.2.2.2.2 = (some (.int p.1), p.2))  {s0 : Int32} {M : Mem} (h : fX2_leastDay_49  s0 M = some p) : G κ mX2_leastDay 0 0 49 [] [.int s0] M := by
  unfold fX2_leastDay_49 at h
  cases h
  exact g_ireturn O dX2_leastDay_49 rfl rfl hf (by decide) (by decide)
def fX2_leastDay_35  (x2 : Int32) (s0 : Int32) (M : Mem) : Option (Int32 × Mem) :=
  if s0 = 0 then (fX2_leastDay_49 x2 M)
  else ((fJ9_max_7cf53 x2 (1 : Int32) M).bind fun r1 =>
  fX2_leastDay_49 r1.1 r1.2)
set_option maxHeartbeats 4000000 in
set_option maxRecDepth 100000 in
theorem tX2_leastDay_35 {κ : KT} {p : Int32 × Mem} (O : OkK κ mX2_leastDay) (hf : κ.2.2.2.2.2.2.2.2.2.2.2.2.2 = (some (.int p.1), p.2))  {x2 : Int32} {s0 : Int32} {M : Mem} (h : fX2_leastDay_35  x2 s0 M = some p) : G κ mX2_leastDay 0 0 35 [(2, .int x2)] [.int s0] M := by
  unfold fX2_leastDay_35 at h
  refine g_istore_n (lv' := [(3, .int s0), (2, .int x2)]) (pc' := 36) O dX2_leastDay_35 rfl (by decide) rfl rfl ?_
  refine g_iload_n (pc' := 37) 0 O dX2_leastDay_36 rfl rfl rfl ?_
  refine g_if_eq (tgt := 48) (pc' := 40) O dX2_leastDay_37 (by decide) rfl (fun hc => ?_) (fun hc => ?_)
  · replace h := ip hc h
    refine g_iload_n (pc' := 49) 1 O dX2_leastDay_48 rfl rfl rfl ?_
    refine g_sub (lv' := []) [] rfl ?_
    exact tX2_leastDay_49 O hf h
  · replace h := ine hc h
    refine g_iload_n (pc' := 41) 1 O dX2_leastDay_40 rfl rfl rfl ?_
    refine g_iconst (v := 1) (pc' := 42) O dX2_leastDay_41 (by decide) rfl ?_
    replace h := ob h; obtain ⟨r1, er1, h⟩ := h
    refine g_callS (y := yJ9_max_7cf53) (ν := mJ9_max_7cf53) (n := 2) (As := [.int x2, .int (1 : Int32)]) (b := 0) (st := []) (M2 := r1.2) (r1 := (some (.int r1.1))) (pc' := 45) O dX2_leastDay_42 tw_90 tw_56 tw_89 tw_309 hyJ9_max_7cf53 rfl (okJ9_max_7cf53 er1) (Nat.le_of_ble_eq_true rfl) ⟨Nat.le_of_ble_eq_true rfl, Nat.le_of_ble_eq_true rfl⟩ ⟨Nat.le_of_ble_eq_true rfl, Nat.le_of_ble_eq_true rfl⟩ rfl ?_
    show G κ mX2_leastDay 0 0 45 [(3, .int s0), (2, .int x2)] [.int r1.1] r1.2
    refine g_goto (pc' := 49) O dX2_leastDay_45 (by decide) ?_
    refine g_sub (lv' := []) [] rfl ?_
    exact tX2_leastDay_49 O hf h
def fX2_leastDay_34  (x2 : Int32) (M : Mem) : Option (Int32 × Mem) :=
  fX2_leastDay_35 x2 (0 : Int32) M
set_option maxHeartbeats 4000000 in
set_option maxRecDepth 100000 in
theorem tX2_leastDay_34 {κ : KT} {p : Int32 × Mem} (O : OkK κ mX2_leastDay) (hf : κ.2.2.2.2.2.2.2.2.2.2.2.2.2 = (some (.int p.1), p.2))  {x2 : Int32} {M : Mem} (h : fX2_leastDay_34  x2 M = some p) : G κ mX2_leastDay 0 0 34 [(2, .int x2)] [] M := by
  unfold fX2_leastDay_34 at h
  refine g_iconst (v := 0) (pc' := 35) O dX2_leastDay_34 (by decide) rfl ?_
  exact tX2_leastDay_35 O hf h
def fX2_leastDay_30  (x2 : Int32) (M : Mem) : Option (Int32 × Mem) :=
  fX2_leastDay_35 x2 (1 : Int32) M
set_option maxHeartbeats 4000000 in
set_option maxRecDepth 100000 in
theorem tX2_leastDay_30 {κ : KT} {p : Int32 × Mem} (O : OkK κ mX2_leastDay) (hf : κ.2.2.2.2.2.2.2.2.2.2.2.2.2 = (some (.int p.1), p.2))  {x2 : Int32} {M : Mem} (h : fX2_leastDay_30  x2 M = some p) : G κ mX2_leastDay 0 0 30 [(2, .int x2)] [] M := by
  unfold fX2_leastDay_30 at h
  refine g_iconst (v := 1) (pc' := 31) O dX2_leastDay_30 (by decide) rfl ?_
  refine g_goto (pc' := 35) O dX2_leastDay_31 (by decide) ?_
  exact tX2_leastDay_35 O hf h
def fX2_leastDay  (this : Nat) (M : Mem) : Option (Int32 × Mem) :=
  (gN M 1 this 7).bind fun v1 =>
  (aI M v1 (0 : Int32)).bind fun v2 =>
  (gN M 1 this 6).bind fun v3 =>
  (aI M v3 (0 : Int32)).bind fun v4 =>
  if v2 = 0 then (fX2_leastDay_30 v4 M)
  else (if v2 = (1 : Int32) then ((gI M 1 this 8).bind fun v5 =>
  if v5 = 0 then (fX2_leastDay_30 v4 M)
  else (fX2_leastDay_34 v4 M))
  else (fX2_leastDay_34 v4 M))
set_option maxHeartbeats 4000000 in
set_option maxRecDepth 100000 in
theorem okX2_leastDay {l : Launch} {p : Int32 × Mem} {this : Nat} {M : Mem} (h : fX2_leastDay this M = some p) : Cn l yX2_leastDay mX2_leastDay [.ref this] M (some (.int p.1)) p.2 := by
  refine Cn.of [(0, .ref this)] (by decide) rfl rfl (Nat.le_of_ble_eq_true rfl) rfl (fun κ _ hf O => ?_)
  unfold fX2_leastDay at h
  refine g_aload_n (pc' := 1) 0 O dX2_leastDay_0 rfl rfl rfl ?_
  replace h := ob h; obtain ⟨v1, ev1, h⟩ := h
  refine g_getF (C := RX2) (T := TX2) (N := 9) (ci := 1) (k := 7) (pc' := 4) O dX2_leastDay_1 rfl inX2 (by decide) tw_154 (gN_F ev1) rfl ?_
  refine g_iconst (v := 0) (pc' := 5) O dX2_leastDay_4 (by decide) rfl ?_
  replace h := ob h; obtain ⟨v2, ev2, h⟩ := h
  refine g_iald (pc' := 6) O dX2_leastDay_5 ev2 rfl ?_
  refine g_istore_n (lv' := [(1, .int v2), (0, .ref this)]) (pc' := 7) O dX2_leastDay_6 rfl (by decide) rfl rfl ?_
  refine g_aload_n (pc' := 8) 1 O dX2_leastDay_7 rfl rfl rfl ?_
  replace h := ob h; obtain ⟨v3, ev3, h⟩ := h
  refine g_getF (C := RX2) (T := TX2) (N := 9) (ci := 1) (k := 6) (pc' := 11) O dX2_leastDay_8 rfl inX2 (by decide) tw_153 (gN_F ev3) rfl ?_
  refine g_iconst (v := 0) (pc' := 12) O dX2_leastDay_11 (by decide) rfl ?_
  replace h := ob h; obtain ⟨v4, ev4, h⟩ := h
  refine g_iald (pc' := 13) O dX2_leastDay_12 ev4 rfl ?_
  refine g_istore_n (lv' := [(2, .int v4), (1, .int v2), (0, .ref this)]) (pc' := 14) O dX2_leastDay_13 rfl (by decide) rfl rfl ?_
  refine g_iload_n (pc' := 15) 1 O dX2_leastDay_14 rfl rfl rfl ?_
  refine g_if_eq (tgt := 30) (pc' := 18) O dX2_leastDay_15 (by decide) rfl (fun hc => ?_) (fun hc => ?_)
  · replace h := ip hc h
    refine g_sub (lv' := [(2, .int v4)]) [0] rfl ?_
    exact tX2_leastDay_30 O hf h
  · replace h := ine hc h
    refine g_iload_n (pc' := 19) 1 O dX2_leastDay_18 rfl rfl rfl ?_
    refine g_iconst (v := 1) (pc' := 20) O dX2_leastDay_19 (by decide) rfl ?_
    refine g_icmp_ne (tgt := 34) (pc' := 23) O dX2_leastDay_20 (by decide) rfl (fun hc => ?_) (fun hc => ?_)
    · replace h := ine hc h
      refine g_sub (lv' := [(2, .int v4)]) [0] rfl ?_
      exact tX2_leastDay_34 O hf h
    · replace h := ip hc h
      refine g_aload_n (pc' := 24) 2 O dX2_leastDay_23 rfl rfl rfl ?_
      replace h := ob h; obtain ⟨v5, ev5, h⟩ := h
      refine g_getF (C := RX2) (T := TX2) (N := 9) (ci := 1) (k := 8) (pc' := 27) O dX2_leastDay_24 rfl inX2 (by decide) tw_155 (gI_F ev5) rfl ?_
      refine g_if_ne (tgt := 34) (pc' := 30) O dX2_leastDay_27 (by decide) rfl (fun hc => ?_) (fun hc => ?_)
      · replace h := ine hc h
        refine g_sub (lv' := [(2, .int v4)]) [0] rfl ?_
        exact tX2_leastDay_34 O hf h
      · replace h := ip hc h
        refine g_sub (lv' := [(2, .int v4)]) [0] rfl ?_
        exact tX2_leastDay_30 O hf h
abbrev mX2_couldBeMonth : MD := (cX2_couldBeMonth, 5, RX2, (some .boolean), { frames := 0, cells := 0, slots := 0, locals := 0 }, "couldBeMonth")
theorem hyX2_couldBeMonth : yX2_couldBeMonth.cls ≠ "java/lang/invoke/MethodHandle" ∧ yX2_couldBeMonth.cls ≠ "java/lang/invoke/VarHandle" ∧ (parseMethodDescriptor yX2_couldBeMonth.desc).map (fun d => d.parameters.length) = some 1 := by decide +kernel
def fX2_couldBeMonth_61  (s0 : Int32) (M : Mem) : Option (Int32 × Mem) :=
  (nz s0).bind fun z1 =>
  some (z1, M)
set_option maxHeartbeats 4000000 in
set_option maxRecDepth 100000 in
theorem tX2_couldBeMonth_61 {κ : KT} {p : Int32 × Mem} (O : OkK κ mX2_couldBeMonth) (hf : κ.2.2.2.2.2.2.2.2.2.2.2.2.2 = (some (.int p.1), p.2))  {s0 : Int32} {M : Mem} (h : fX2_couldBeMonth_61  s0 M = some p) : G κ mX2_couldBeMonth 0 0 61 [] [.int s0] M := by
  unfold fX2_couldBeMonth_61 at h
  replace h := ob h; obtain ⟨z1, ez1, h⟩ := h
  obtain ⟨hz1, ez1b⟩ := nz_spec ez1
  rw [ez1b] at h
  cases h
  exact g_ireturn O dX2_couldBeMonth_61 rfl (nz_nar hz1) hf (by decide) (by decide)
def fX2_couldBeMonth_56  (M : Mem) : Option (Int32 × Mem) :=
  fX2_couldBeMonth_61 (1 : Int32) M
set_option maxHeartbeats 4000000 in
set_option maxRecDepth 100000 in
theorem tX2_couldBeMonth_56 {κ : KT} {p : Int32 × Mem} (O : OkK κ mX2_couldBeMonth) (hf : κ.2.2.2.2.2.2.2.2.2.2.2.2.2 = (some (.int p.1), p.2))  {M : Mem} (h : fX2_couldBeMonth_56  M = some p) : G κ mX2_couldBeMonth 0 0 56 [] [] M := by
  unfold fX2_couldBeMonth_56 at h
  refine g_iconst (v := 1) (pc' := 57) O dX2_couldBeMonth_56 (by decide) rfl ?_
  refine g_goto (pc' := 61) O dX2_couldBeMonth_57 (by decide) ?_
  exact tX2_couldBeMonth_61 O hf h
def fX2_couldBeMonth_40  (x1 : Int32) (x2 : Int32) (x3 : Int32) (s0 : Int32) (M : Mem) : Option (Int32 × Mem) :=
  if x2 = 0 then (fX2_couldBeMonth_56 M)
  else (if x1 = x3 then (fX2_couldBeMonth_56 M)
  else (if s0 = 0 then (fX2_couldBeMonth_61 (0 : Int32) M)
  else (fX2_couldBeMonth_56 M)))
set_option maxHeartbeats 4000000 in
set_option maxRecDepth 100000 in
theorem tX2_couldBeMonth_40 {κ : KT} {p : Int32 × Mem} (O : OkK κ mX2_couldBeMonth) (hf : κ.2.2.2.2.2.2.2.2.2.2.2.2.2 = (some (.int p.1), p.2))  {x1 : Int32} {x2 : Int32} {x3 : Int32} {s0 : Int32} {M : Mem} (h : fX2_couldBeMonth_40  x1 x2 x3 s0 M = some p) : G κ mX2_couldBeMonth 0 0 40 [(1, .int x1), (2, .int x2), (3, .int x3)] [.int s0] M := by
  unfold fX2_couldBeMonth_40 at h
  refine g_istore (lv' := [(4, .int s0), (1, .int x1), (2, .int x2), (3, .int x3)]) (pc' := 42) O dX2_couldBeMonth_40 (by decide) rfl rfl ?_
  refine g_iload_n (pc' := 43) 2 O dX2_couldBeMonth_42 rfl rfl rfl ?_
  refine g_if_eq (tgt := 56) (pc' := 46) O dX2_couldBeMonth_43 (by decide) rfl (fun hc => ?_) (fun hc => ?_)
  · replace h := ip hc h
    refine g_sub (lv' := []) [] rfl ?_
    exact tX2_couldBeMonth_56 O hf h
  · replace h := ine hc h
    refine g_iload_n (pc' := 47) 1 O dX2_couldBeMonth_46 rfl rfl rfl ?_
    refine g_iload_n (pc' := 48) 3 O dX2_couldBeMonth_47 rfl rfl rfl ?_
    refine g_icmp_eq (tgt := 56) (pc' := 51) O dX2_couldBeMonth_48 (by decide) rfl (fun hc => ?_) (fun hc => ?_)
    · replace h := ip hc h
      refine g_sub (lv' := []) [] rfl ?_
      exact tX2_couldBeMonth_56 O hf h
    · replace h := ine hc h
      refine g_iload (pc' := 53) 0 O dX2_couldBeMonth_51 rfl rfl ?_
      refine g_if_eq (tgt := 60) (pc' := 56) O dX2_couldBeMonth_53 (by decide) rfl (fun hc => ?_) (fun hc => ?_)
      · replace h := ip hc h
        refine g_iconst (v := 0) (pc' := 61) O dX2_couldBeMonth_60 (by decide) rfl ?_
        refine g_sub (lv' := []) [] rfl ?_
        exact tX2_couldBeMonth_61 O hf h
      · replace h := ine hc h
        refine g_sub (lv' := []) [] rfl ?_
        exact tX2_couldBeMonth_56 O hf h
def fX2_couldBeMonth_39  (x1 : Int32) (x2 : Int32) (x3 : Int32) (M : Mem) : Option (Int32 × Mem) :=
  fX2_couldBeMonth_40 x1 x2 x3 (0 : Int32) M
set_option maxHeartbeats 4000000 in
set_option maxRecDepth 100000 in
theorem tX2_couldBeMonth_39 {κ : KT} {p : Int32 × Mem} (O : OkK κ mX2_couldBeMonth) (hf : κ.2.2.2.2.2.2.2.2.2.2.2.2.2 = (some (.int p.1), p.2))  {x1 : Int32} {x2 : Int32} {x3 : Int32} {M : Mem} (h : fX2_couldBeMonth_39  x1 x2 x3 M = some p) : G κ mX2_couldBeMonth 0 0 39 [(1, .int x1), (2, .int x2), (3, .int x3)] [] M := by
  unfold fX2_couldBeMonth_39 at h
  refine g_iconst (v := 0) (pc' := 40) O dX2_couldBeMonth_39 (by decide) rfl ?_
  exact tX2_couldBeMonth_40 O hf h
def fX2_couldBeMonth  (this : Nat) (p0 : Int32) (M : Mem) : Option (Int32 × Mem) :=
  (gN M 1 this 7).bind fun v1 =>
  (aI M v1 (1 : Int32)).bind fun v2 =>
  (gN M 1 this 6).bind fun v3 =>
  (aI M v3 (1 : Int32)).bind fun v4 =>
  if v2 = (1 : Int32) then ((gI M 1 this 8).bind fun v5 =>
  if v5 = (1 : Int32) then (if (p0 / (10 : Int32)) = v4 then (fX2_couldBeMonth_40 p0 v2 v4 (1 : Int32) M)
  else (fX2_couldBeMonth_39 p0 v2 v4 M))
  else (fX2_couldBeMonth_39 p0 v2 v4 M))
  else (fX2_couldBeMonth_39 p0 v2 v4 M)
set_option maxHeartbeats 4000000 in
set_option maxRecDepth 100000 in
theorem okX2_couldBeMonth {l : Launch} {p : Int32 × Mem} {this : Nat} {p0 : Int32} {M : Mem} (h : fX2_couldBeMonth this p0 M = some p) : Cn l yX2_couldBeMonth mX2_couldBeMonth [.ref this, .int p0] M (some (.int p.1)) p.2 := by
  refine Cn.of [(0, .ref this), (1, .int p0)] (by decide) rfl rfl (Nat.le_of_ble_eq_true rfl) rfl (fun κ _ hf O => ?_)
  unfold fX2_couldBeMonth at h
  refine g_aload_n (pc' := 1) 0 O dX2_couldBeMonth_0 rfl rfl rfl ?_
  replace h := ob h; obtain ⟨v1, ev1, h⟩ := h
  refine g_getF (C := RX2) (T := TX2) (N := 9) (ci := 1) (k := 7) (pc' := 4) O dX2_couldBeMonth_1 rfl inX2 (by decide) tw_154 (gN_F ev1) rfl ?_
  refine g_iconst (v := 1) (pc' := 5) O dX2_couldBeMonth_4 (by decide) rfl ?_
  replace h := ob h; obtain ⟨v2, ev2, h⟩ := h
  refine g_iald (pc' := 6) O dX2_couldBeMonth_5 ev2 rfl ?_
  refine g_istore_n (lv' := [(2, .int v2), (0, .ref this), (1, .int p0)]) (pc' := 7) O dX2_couldBeMonth_6 rfl (by decide) rfl rfl ?_
  refine g_aload_n (pc' := 8) 1 O dX2_couldBeMonth_7 rfl rfl rfl ?_
  replace h := ob h; obtain ⟨v3, ev3, h⟩ := h
  refine g_getF (C := RX2) (T := TX2) (N := 9) (ci := 1) (k := 6) (pc' := 11) O dX2_couldBeMonth_8 rfl inX2 (by decide) tw_153 (gN_F ev3) rfl ?_
  refine g_iconst (v := 1) (pc' := 12) O dX2_couldBeMonth_11 (by decide) rfl ?_
  replace h := ob h; obtain ⟨v4, ev4, h⟩ := h
  refine g_iald (pc' := 13) O dX2_couldBeMonth_12 ev4 rfl ?_
  refine g_istore_n (lv' := [(3, .int v4), (2, .int v2), (0, .ref this), (1, .int p0)]) (pc' := 14) O dX2_couldBeMonth_13 rfl (by decide) rfl rfl ?_
  refine g_iload_n (pc' := 15) 1 O dX2_couldBeMonth_14 rfl rfl rfl ?_
  refine g_iconst (v := 1) (pc' := 16) O dX2_couldBeMonth_15 (by decide) rfl ?_
  refine g_icmp_ne (tgt := 39) (pc' := 19) O dX2_couldBeMonth_16 (by decide) rfl (fun hc => ?_) (fun hc => ?_)
  · replace h := ine hc h
    refine g_sub (lv' := [(1, .int p0), (2, .int v2), (3, .int v4)]) [3, 1, 0] rfl ?_
    exact tX2_couldBeMonth_39 O hf h
  · replace h := ip hc h
    refine g_aload_n (pc' := 20) 2 O dX2_couldBeMonth_19 rfl rfl rfl ?_
    replace h := ob h; obtain ⟨v5, ev5, h⟩ := h
    refine g_getF (C := RX2) (T := TX2) (N := 9) (ci := 1) (k := 8) (pc' := 23) O dX2_couldBeMonth_20 rfl inX2 (by decide) tw_155 (gI_F ev5) rfl ?_
    refine g_iconst (v := 1) (pc' := 24) O dX2_couldBeMonth_23 (by decide) rfl ?_
    refine g_icmp_ne (tgt := 39) (pc' := 27) O dX2_couldBeMonth_24 (by decide) rfl (fun hc => ?_) (fun hc => ?_)
    · replace h := ine hc h
      refine g_sub (lv' := [(1, .int p0), (2, .int v2), (3, .int v4)]) [3, 1, 0] rfl ?_
      exact tX2_couldBeMonth_39 O hf h
    · replace h := ip hc h
      refine g_iload_n (pc' := 28) 3 O dX2_couldBeMonth_27 rfl rfl rfl ?_
      refine g_bipush (v := 10) (pc' := 30) O dX2_couldBeMonth_28 (by decide) rfl ?_
      refine g_idiv (pc' := 31) O dX2_couldBeMonth_30 (by decide) rfl ?_
      refine g_iload_n (pc' := 32) 0 O dX2_couldBeMonth_31 rfl rfl rfl ?_
      refine g_icmp_ne (tgt := 39) (pc' := 35) O dX2_couldBeMonth_32 (by decide) rfl (fun hc => ?_) (fun hc => ?_)
      · replace h := ine hc h
        refine g_sub (lv' := [(1, .int p0), (2, .int v2), (3, .int v4)]) [3, 1, 0] rfl ?_
        exact tX2_couldBeMonth_39 O hf h
      · replace h := ip hc h
        refine g_iconst (v := 1) (pc' := 36) O dX2_couldBeMonth_35 (by decide) rfl ?_
        refine g_goto (pc' := 40) O dX2_couldBeMonth_36 (by decide) ?_
        refine g_sub (lv' := [(1, .int p0), (2, .int v2), (3, .int v4)]) [3, 1, 0] rfl ?_
        exact tX2_couldBeMonth_40 O hf h
abbrev mX2_couldBeDay : MD := (cX2_couldBeDay, 6, RX2, (some .boolean), { frames := 2, cells := 0, slots := 0, locals := 44 }, "couldBeDay")
theorem hyX2_couldBeDay : yX2_couldBeDay.cls ≠ "java/lang/invoke/MethodHandle" ∧ yX2_couldBeDay.cls ≠ "java/lang/invoke/VarHandle" ∧ (parseMethodDescriptor yX2_couldBeDay.desc).map (fun d => d.parameters.length) = some 0 := by decide +kernel
def fX2_couldBeDay_94 (k59 : Nat → Int32 → Int32 → Int32 → Mem → Option (Int32 × Mem)) (x0 : Nat) (x3 : Int32) (x4 : Int32) (x5 : Int32) (M : Mem) : Option (Int32 × Mem) :=
  k59 x0 x3 x4 (x5 + (1 : Int32)) M
set_option maxHeartbeats 4000000 in
set_option maxRecDepth 100000 in
theorem tX2_couldBeDay_94 {κ : KT} {p : Int32 × Mem} (O : OkK κ mX2_couldBeDay) (hf : κ.2.2.2.2.2.2.2.2.2.2.2.2.2 = (some (.int p.1), p.2)) {k59 : Nat → Int32 → Int32 → Int32 → Mem → Option (Int32 × Mem)} (hk59 : ∀ (x0 : Nat) (x3 : Int32) (x4 : Int32) (x5 : Int32) (M : Mem), k59 x0 x3 x4 x5 M = some p → G κ mX2_couldBeDay 0 0 59 [(0, .ref x0), (3, .int x3), (4, .int x4), (5, .int x5)] [] M) {x0 : Nat} {x3 : Int32} {x4 : Int32} {x5 : Int32} {M : Mem} (h : fX2_couldBeDay_94 k59 x0 x3 x4 x5 M = some p) : G κ mX2_couldBeDay 0 0 94 [(0, .ref x0), (3, .int x3), (4, .int x4), (5, .int x5)] [] M := by
  unfold fX2_couldBeDay_94 at h
  refine g_iinc (q := 3) (v := x5 + (1 : Int32)) (lv' := [(5, .int (x5 + (1 : Int32))), (0, .ref x0), (3, .int x3), (4, .int x4)]) (pc' := 97) O dX2_couldBeDay_94 rfl rfl (by decide) rfl rfl ?_
  refine g_goto (pc' := 59) O dX2_couldBeDay_97 (by decide) ?_
  refine g_sub (lv' := [(0, .ref x0), (3, .int x3), (4, .int x4), (5, .int (x5 + (1 : Int32)))]) [1, 2, 3, 0] rfl ?_
  exact hk59 x0 x3 x4 (x5 + (1 : Int32)) M h
def fX2_couldBeDay_59  : Nat → Nat → Int32 → Int32 → Int32 → Mem → Option (Int32 × Mem)
  | 0, _, _, _, _, _ => none
  | n + 1, x0, x3, x4, x5, M =>
    if (12 : Int32) < x5 then ((nz (0 : Int32)).bind fun z1 =>
    some (z1, M))
    else ((ck M 1 x0).bind fun u2 =>
    (fX2_couldBeMonth x0 x5 M).bind fun r3 =>
    if r3.1 = 0 then (fX2_couldBeDay_94 (fX2_couldBeDay_59 n) x0 x3 x4 x5 r3.2)
    else (if x4 < (1 : Int32) then (fX2_couldBeDay_94 (fX2_couldBeDay_59 n) x0 x3 x4 x5 r3.2)
    else ((fX0_lengthOf x5 x3 r3.2).bind fun r4 =>
    if r4.1 < x4 then (fX2_couldBeDay_94 (fX2_couldBeDay_59 n) x0 x3 x4 x5 r4.2)
    else ((nz (1 : Int32)).bind fun z5 =>
    some (z5, r4.2)))))
set_option maxHeartbeats 4000000 in
set_option maxRecDepth 100000 in
theorem tX2_couldBeDay_59 {κ : KT} {p : Int32 × Mem} (O : OkK κ mX2_couldBeDay) (hf : κ.2.2.2.2.2.2.2.2.2.2.2.2.2 = (some (.int p.1), p.2))  : ∀ (n : Nat) (x0 : Nat) (x3 : Int32) (x4 : Int32) (x5 : Int32) (M : Mem), fX2_couldBeDay_59  n x0 x3 x4 x5 M = some p → G κ mX2_couldBeDay 0 0 59 [(0, .ref x0), (3, .int x3), (4, .int x4), (5, .int x5)] [] M := by
  intro n
  induction n with
  | zero => intro x0 x3 x4 x5 M h; cases h
  | succ n ih =>
    intro x0 x3 x4 x5 M h
    rw [fX2_couldBeDay_59] at h
    refine g_iload (pc' := 61) 3 O dX2_couldBeDay_59 rfl rfl ?_
    refine g_bipush (v := 12) (pc' := 63) O dX2_couldBeDay_61 (by decide) rfl ?_
    refine g_icmp_gt (tgt := 100) (pc' := 66) O dX2_couldBeDay_63 (by decide) rfl (fun hc => ?_) (fun hc => ?_)
    · replace h := ip hc h
      refine g_iconst (v := 0) (pc' := 101) O dX2_couldBeDay_100 (by decide) rfl ?_
      replace h := ob h; obtain ⟨z1, ez1, h⟩ := h
      obtain ⟨hz1, ez1b⟩ := nz_spec ez1
      rw [ez1b] at h
      cases h
      exact g_ireturn O dX2_couldBeDay_101 rfl (nz_nar hz1) hf (by decide) (by decide)
    · replace h := ine hc h
      refine g_aload_n (pc' := 67) 0 O dX2_couldBeDay_66 rfl rfl rfl ?_
      refine g_iload (pc' := 69) 3 O dX2_couldBeDay_67 rfl rfl ?_
      replace h := ob h; obtain ⟨u2, eu2, h⟩ := h
      replace h := ob h; obtain ⟨r3, er3, h⟩ := h
      refine g_callV (y := yX2_couldBeMonth) (ν := mX2_couldBeMonth) (n := 1) (As := [.int x5]) (b := x0) (st := []) (M2 := r3.2) (r1 := (some (.int r3.1))) (pc' := 72) O dX2_couldBeDay_69 tw_382 tw_57 tw_381 tw_10 tw_379 hyX2_couldBeMonth rfl rfl eu2 (okX2_couldBeMonth er3) (Nat.le_of_ble_eq_true rfl) ⟨Nat.le_of_ble_eq_true rfl, Nat.le_of_ble_eq_true rfl⟩ ⟨Nat.le_of_ble_eq_true rfl, Nat.le_of_ble_eq_true rfl⟩ rfl ?_
      show G κ mX2_couldBeDay 0 0 72 [(0, .ref x0), (3, .int x3), (4, .int x4), (5, .int x5)] [.int r3.1] r3.2
      refine g_if_eq (tgt := 94) (pc' := 75) O dX2_couldBeDay_72 (by decide) rfl (fun hc => ?_) (fun hc => ?_)
      · replace h := ip hc h
        exact tX2_couldBeDay_94 O hf ih h
      · replace h := ine hc h
        refine g_iload (pc' := 77) 2 O dX2_couldBeDay_75 rfl rfl ?_
        refine g_iconst (v := 1) (pc' := 78) O dX2_couldBeDay_77 (by decide) rfl ?_
        refine g_icmp_lt (tgt := 94) (pc' := 81) O dX2_couldBeDay_78 (by decide) rfl (fun hc => ?_) (fun hc => ?_)
        · replace h := ip hc h
          exact tX2_couldBeDay_94 O hf ih h
        · replace h := ine hc h
          refine g_iload (pc' := 83) 2 O dX2_couldBeDay_81 rfl rfl ?_
          refine g_iload (pc' := 85) 3 O dX2_couldBeDay_83 rfl rfl ?_
          refine g_iload_n (pc' := 86) 1 O dX2_couldBeDay_85 rfl rfl rfl ?_
          replace h := ob h; obtain ⟨r4, er4, h⟩ := h
          refine g_callS (y := yX0_lengthOf) (ν := mX0_lengthOf) (n := 2) (As := [.int x5, .int x3]) (b := 0) (st := [.int x4]) (M2 := r4.2) (r1 := (some (.int r4.1))) (pc' := 89) O dX2_couldBeDay_86 tw_361 tw_60 tw_360 tw_383 hyX0_lengthOf rfl (okX0_lengthOf er4) (Nat.le_of_ble_eq_true rfl) ⟨Nat.le_of_ble_eq_true rfl, Nat.le_of_ble_eq_true rfl⟩ ⟨Nat.le_of_ble_eq_true rfl, Nat.le_of_ble_eq_true rfl⟩ rfl ?_
          show G κ mX2_couldBeDay 0 0 89 [(0, .ref x0), (3, .int x3), (4, .int x4), (5, .int x5)] [.int r4.1, .int x4] r4.2
          refine g_icmp_gt (tgt := 94) (pc' := 92) O dX2_couldBeDay_89 (by decide) rfl (fun hc => ?_) (fun hc => ?_)
          · replace h := ip hc h
            exact tX2_couldBeDay_94 O hf ih h
          · replace h := ine hc h
            refine g_iconst (v := 1) (pc' := 93) O dX2_couldBeDay_92 (by decide) rfl ?_
            replace h := ob h; obtain ⟨z5, ez5, h⟩ := h
            obtain ⟨hz5, ez5b⟩ := nz_spec ez5
            rw [ez5b] at h
            cases h
            exact g_ireturn O dX2_couldBeDay_93 rfl (nz_nar hz5) hf (by decide) (by decide)
def fX2_couldBeDay_49  (x0 : Nat) (s0 : Int32) (M : Mem) : Option (Int32 × Mem) :=
  (ck M 1 x0).bind fun u1 =>
  (fX2_leastDay x0 M).bind fun r2 =>
  fX2_couldBeDay_59 FU x0 s0 r2.1 (1 : Int32) r2.2
set_option maxHeartbeats 4000000 in
set_option maxRecDepth 100000 in
theorem tX2_couldBeDay_49 {κ : KT} {p : Int32 × Mem} (O : OkK κ mX2_couldBeDay) (hf : κ.2.2.2.2.2.2.2.2.2.2.2.2.2 = (some (.int p.1), p.2))  {x0 : Nat} {s0 : Int32} {M : Mem} (h : fX2_couldBeDay_49  x0 s0 M = some p) : G κ mX2_couldBeDay 0 0 49 [(0, .ref x0)] [.int s0] M := by
  unfold fX2_couldBeDay_49 at h
  refine g_istore_n (lv' := [(3, .int s0), (0, .ref x0)]) (pc' := 50) O dX2_couldBeDay_49 rfl (by decide) rfl rfl ?_
  refine g_aload_n (pc' := 51) 1 O dX2_couldBeDay_50 rfl rfl rfl ?_
  replace h := ob h; obtain ⟨u1, eu1, h⟩ := h
  replace h := ob h; obtain ⟨r2, er2, h⟩ := h
  refine g_callV (y := yX2_leastDay) (ν := mX2_leastDay) (n := 0) (As := []) (b := x0) (st := []) (M2 := r2.2) (r1 := (some (.int r2.1))) (pc' := 54) O dX2_couldBeDay_51 tw_378 tw_57 tw_377 tw_9 tw_375 hyX2_leastDay rfl rfl eu1 (okX2_leastDay er2) (Nat.le_of_ble_eq_true rfl) ⟨Nat.le_of_ble_eq_true rfl, Nat.le_of_ble_eq_true rfl⟩ ⟨Nat.le_of_ble_eq_true rfl, Nat.le_of_ble_eq_true rfl⟩ rfl ?_
  show G κ mX2_couldBeDay 0 0 54 [(3, .int s0), (0, .ref x0)] [.int r2.1] r2.2
  refine g_istore (lv' := [(4, .int r2.1), (3, .int s0), (0, .ref x0)]) (pc' := 56) O dX2_couldBeDay_54 (by decide) rfl rfl ?_
  refine g_iconst (v := 1) (pc' := 57) O dX2_couldBeDay_56 (by decide) rfl ?_
  refine g_istore (lv' := [(5, .int (1 : Int32)), (4, .int r2.1), (3, .int s0), (0, .ref x0)]) (pc' := 59) O dX2_couldBeDay_57 (by decide) rfl rfl ?_
  refine g_sub (lv' := [(0, .ref x0), (3, .int s0), (4, .int r2.1), (5, .int (1 : Int32))]) [3, 2, 1, 0] rfl ?_
  exact tX2_couldBeDay_59 O hf FU x0 s0 r2.1 (1 : Int32) r2.2 h
def fX2_couldBeDay_44  (x0 : Nat) (M : Mem) : Option (Int32 × Mem) :=
  fX2_couldBeDay_49 x0 (1 : Int32) M
set_option maxHeartbeats 4000000 in
set_option maxRecDepth 100000 in
theorem tX2_couldBeDay_44 {κ : KT} {p : Int32 × Mem} (O : OkK κ mX2_couldBeDay) (hf : κ.2.2.2.2.2.2.2.2.2.2.2.2.2 = (some (.int p.1), p.2))  {x0 : Nat} {M : Mem} (h : fX2_couldBeDay_44  x0 M = some p) : G κ mX2_couldBeDay 0 0 44 [(0, .ref x0)] [] M := by
  unfold fX2_couldBeDay_44 at h
  refine g_iconst (v := 1) (pc' := 45) O dX2_couldBeDay_44 (by decide) rfl ?_
  refine g_goto (pc' := 49) O dX2_couldBeDay_45 (by decide) ?_
  exact tX2_couldBeDay_49 O hf h
def fX2_couldBeDay_33  (x0 : Nat) (x1 : Int32) (x2 : Int32) (M : Mem) : Option (Int32 × Mem) :=
  if x1 = 0 then (fX2_couldBeDay_44 x0 M)
  else ((fX0_isLeap x2 M).bind fun r1 =>
  if r1.1 = 0 then (fX2_couldBeDay_49 x0 (0 : Int32) r1.2)
  else (fX2_couldBeDay_44 x0 r1.2))
set_option maxHeartbeats 4000000 in
set_option maxRecDepth 100000 in
theorem tX2_couldBeDay_33 {κ : KT} {p : Int32 × Mem} (O : OkK κ mX2_couldBeDay) (hf : κ.2.2.2.2.2.2.2.2.2.2.2.2.2 = (some (.int p.1), p.2))  {x0 : Nat} {x1 : Int32} {x2 : Int32} {M : Mem} (h : fX2_couldBeDay_33  x0 x1 x2 M = some p) : G κ mX2_couldBeDay 0 0 33 [(0, .ref x0), (1, .int x1), (2, .int x2)] [] M := by
  unfold fX2_couldBeDay_33 at h
  refine g_iload_n (pc' := 34) 1 O dX2_couldBeDay_33 rfl rfl rfl ?_
  refine g_if_eq (tgt := 44) (pc' := 37) O dX2_couldBeDay_34 (by decide) rfl (fun hc => ?_) (fun hc => ?_)
  · replace h := ip hc h
    refine g_sub (lv' := [(0, .ref x0)]) [0] rfl ?_
    exact tX2_couldBeDay_44 O hf h
  · replace h := ine hc h
    refine g_iload_n (pc' := 38) 2 O dX2_couldBeDay_37 rfl rfl rfl ?_
    replace h := ob h; obtain ⟨r1, er1, h⟩ := h
    refine g_callS (y := yX0_isLeap) (ν := mX0_isLeap) (n := 1) (As := [.int x2]) (b := 0) (st := []) (M2 := r1.2) (r1 := (some (.int r1.1))) (pc' := 41) O dX2_couldBeDay_38 tw_358 tw_60 tw_357 tw_374 hyX0_isLeap rfl (okX0_isLeap er1) (Nat.le_of_ble_eq_true rfl) ⟨Nat.le_of_ble_eq_true rfl, Nat.le_of_ble_eq_true rfl⟩ ⟨Nat.le_of_ble_eq_true rfl, Nat.le_of_ble_eq_true rfl⟩ rfl ?_
    show G κ mX2_couldBeDay 0 0 41 [(0, .ref x0), (1, .int x1), (2, .int x2)] [.int r1.1] r1.2
    refine g_if_eq (tgt := 48) (pc' := 44) O dX2_couldBeDay_41 (by decide) rfl (fun hc => ?_) (fun hc => ?_)
    · replace h := ip hc h
      refine g_iconst (v := 0) (pc' := 49) O dX2_couldBeDay_48 (by decide) rfl ?_
      refine g_sub (lv' := [(0, .ref x0)]) [0] rfl ?_
      exact tX2_couldBeDay_49 O hf h
    · replace h := ine hc h
      refine g_sub (lv' := [(0, .ref x0)]) [0] rfl ?_
      exact tX2_couldBeDay_44 O hf h
def fX2_couldBeDay_15  (x0 : Nat) (s0 : Int32) (M : Mem) : Option (Int32 × Mem) :=
  (gN M 1 x0 6).bind fun v1 =>
  (aI M v1 (2 : Int32)).bind fun v2 =>
  if s0 = 0 then (fX2_couldBeDay_33 x0 s0 v2 M)
  else (if v2 = 0 then ((nz (0 : Int32)).bind fun z3 =>
  some (z3, M))
  else (fX2_couldBeDay_33 x0 s0 v2 M))
set_option maxHeartbeats 4000000 in
set_option maxRecDepth 100000 in
theorem tX2_couldBeDay_15 {κ : KT} {p : Int32 × Mem} (O : OkK κ mX2_couldBeDay) (hf : κ.2.2.2.2.2.2.2.2.2.2.2.2.2 = (some (.int p.1), p.2))  {x0 : Nat} {s0 : Int32} {M : Mem} (h : fX2_couldBeDay_15  x0 s0 M = some p) : G κ mX2_couldBeDay 0 0 15 [(0, .ref x0)] [.int s0] M := by
  unfold fX2_couldBeDay_15 at h
  refine g_istore_n (lv' := [(1, .int s0), (0, .ref x0)]) (pc' := 16) O dX2_couldBeDay_15 rfl (by decide) rfl rfl ?_
  refine g_aload_n (pc' := 17) 1 O dX2_couldBeDay_16 rfl rfl rfl ?_
  replace h := ob h; obtain ⟨v1, ev1, h⟩ := h
  refine g_getF (C := RX2) (T := TX2) (N := 9) (ci := 1) (k := 6) (pc' := 20) O dX2_couldBeDay_17 rfl inX2 (by decide) tw_153 (gN_F ev1) rfl ?_
  refine g_iconst (v := 2) (pc' := 21) O dX2_couldBeDay_20 (by decide) rfl ?_
  replace h := ob h; obtain ⟨v2, ev2, h⟩ := h
  refine g_iald (pc' := 22) O dX2_couldBeDay_21 ev2 rfl ?_
  refine g_istore_n (lv' := [(2, .int v2), (1, .int s0), (0, .ref x0)]) (pc' := 23) O dX2_couldBeDay_22 rfl (by decide) rfl rfl ?_
  refine g_iload_n (pc' := 24) 1 O dX2_couldBeDay_23 rfl rfl rfl ?_
  refine g_if_eq (tgt := 33) (pc' := 27) O dX2_couldBeDay_24 (by decide) rfl (fun hc => ?_) (fun hc => ?_)
  · replace h := ip hc h
    refine g_sub (lv' := [(0, .ref x0), (1, .int s0), (2, .int v2)]) [2, 1, 0] rfl ?_
    exact tX2_couldBeDay_33 O hf h
  · replace h := ine hc h
    refine g_iload_n (pc' := 28) 0 O dX2_couldBeDay_27 rfl rfl rfl ?_
    refine g_if_ne (tgt := 33) (pc' := 31) O dX2_couldBeDay_28 (by decide) rfl (fun hc => ?_) (fun hc => ?_)
    · replace h := ine hc h
      refine g_sub (lv' := [(0, .ref x0), (1, .int s0), (2, .int v2)]) [2, 1, 0] rfl ?_
      exact tX2_couldBeDay_33 O hf h
    · replace h := ip hc h
      refine g_iconst (v := 0) (pc' := 32) O dX2_couldBeDay_31 (by decide) rfl ?_
      replace h := ob h; obtain ⟨z3, ez3, h⟩ := h
      obtain ⟨hz3, ez3b⟩ := nz_spec ez3
      rw [ez3b] at h
      cases h
      exact g_ireturn O dX2_couldBeDay_32 rfl (nz_nar hz3) hf (by decide) (by decide)
def fX2_couldBeDay  (this : Nat) (M : Mem) : Option (Int32 × Mem) :=
  (gN M 1 this 7).bind fun v1 =>
  (aI M v1 (2 : Int32)).bind fun v2 =>
  if v2 = (4 : Int32) then (fX2_couldBeDay_15 this (1 : Int32) M)
  else (fX2_couldBeDay_15 this (0 : Int32) M)
set_option maxHeartbeats 4000000 in
set_option maxRecDepth 100000 in
theorem okX2_couldBeDay {l : Launch} {p : Int32 × Mem} {this : Nat} {M : Mem} (h : fX2_couldBeDay this M = some p) : Cn l yX2_couldBeDay mX2_couldBeDay [.ref this] M (some (.int p.1)) p.2 := by
  refine Cn.of [(0, .ref this)] (by decide) rfl rfl (Nat.le_of_ble_eq_true rfl) rfl (fun κ _ hf O => ?_)
  unfold fX2_couldBeDay at h
  refine g_aload_n (pc' := 1) 0 O dX2_couldBeDay_0 rfl rfl rfl ?_
  replace h := ob h; obtain ⟨v1, ev1, h⟩ := h
  refine g_getF (C := RX2) (T := TX2) (N := 9) (ci := 1) (k := 7) (pc' := 4) O dX2_couldBeDay_1 rfl inX2 (by decide) tw_154 (gN_F ev1) rfl ?_
  refine g_iconst (v := 2) (pc' := 5) O dX2_couldBeDay_4 (by decide) rfl ?_
  replace h := ob h; obtain ⟨v2, ev2, h⟩ := h
  refine g_iald (pc' := 6) O dX2_couldBeDay_5 ev2 rfl ?_
  refine g_iconst (v := 4) (pc' := 7) O dX2_couldBeDay_6 (by decide) rfl ?_
  refine g_icmp_ne (tgt := 14) (pc' := 10) O dX2_couldBeDay_7 (by decide) rfl (fun hc => ?_) (fun hc => ?_)
  · replace h := ine hc h
    refine g_iconst (v := 0) (pc' := 15) O dX2_couldBeDay_14 (by decide) rfl ?_
    exact tX2_couldBeDay_15 O hf h
  · replace h := ip hc h
    refine g_iconst (v := 1) (pc' := 11) O dX2_couldBeDay_10 (by decide) rfl ?_
    refine g_goto (pc' := 15) O dX2_couldBeDay_11 (by decide) ?_
    exact tX2_couldBeDay_15 O hf h
