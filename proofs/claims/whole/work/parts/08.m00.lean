abbrev mX0_isLeap : MD := (cX0_isLeap, 1, RX0, (some .boolean), { frames := 0, cells := 0, slots := 0, locals := 0 }, "isLeap")
theorem hyX0_isLeap : yX0_isLeap.cls ≠ "java/lang/invoke/MethodHandle" ∧ yX0_isLeap.cls ≠ "java/lang/invoke/VarHandle" ∧ (parseMethodDescriptor yX0_isLeap.desc).map (fun d => d.parameters.length) = some 1 := by decide +kernel
def fX0_isLeap_26  (s0 : Int32) (M : Mem) : Option (Int32 × Mem) :=
  (nz s0).bind fun z1 =>
  some (z1, M)
set_option maxHeartbeats 4000000 in
set_option maxRecDepth 100000 in
theorem tX0_isLeap_26 {κ : KT} {p : Int32 × Mem} (O : OkK κ mX0_isLeap) (hf : κ.2.2.2.2.2.2.2.2.2.2.2.2.2 = (some (.int p.1), p.2))  {s0 : Int32} {M : Mem} (h : fX0_isLeap_26  s0 M = some p) : G κ mX0_isLeap 0 0 26 [] [.int s0] M := by
  unfold fX0_isLeap_26 at h
  replace h := ob h; obtain ⟨z1, ez1, h⟩ := h
  obtain ⟨hz1, ez1b⟩ := nz_spec ez1
  rw [ez1b] at h
  cases h
  exact g_ireturn O dX0_isLeap_26 rfl (nz_nar hz1) hf (by decide) (by decide)
def fX0_isLeap_21  (M : Mem) : Option (Int32 × Mem) :=
  fX0_isLeap_26 (1 : Int32) M
set_option maxHeartbeats 4000000 in
set_option maxRecDepth 100000 in
theorem tX0_isLeap_21 {κ : KT} {p : Int32 × Mem} (O : OkK κ mX0_isLeap) (hf : κ.2.2.2.2.2.2.2.2.2.2.2.2.2 = (some (.int p.1), p.2))  {M : Mem} (h : fX0_isLeap_21  M = some p) : G κ mX0_isLeap 0 0 21 [] [] M := by
  unfold fX0_isLeap_21 at h
  refine g_iconst (v := 1) (pc' := 22) O dX0_isLeap_21 (by decide) rfl ?_
  refine g_goto (pc' := 26) O dX0_isLeap_22 (by decide) ?_
  exact tX0_isLeap_26 O hf h
def fX0_isLeap_13  (x0 : Int32) (M : Mem) : Option (Int32 × Mem) :=
  if (rmI x0 (400 : Int32)) = 0 then (fX0_isLeap_21 M)
  else (fX0_isLeap_26 (0 : Int32) M)
set_option maxHeartbeats 4000000 in
set_option maxRecDepth 100000 in
theorem tX0_isLeap_13 {κ : KT} {p : Int32 × Mem} (O : OkK κ mX0_isLeap) (hf : κ.2.2.2.2.2.2.2.2.2.2.2.2.2 = (some (.int p.1), p.2))  {x0 : Int32} {M : Mem} (h : fX0_isLeap_13  x0 M = some p) : G κ mX0_isLeap 0 0 13 [(0, .int x0)] [] M := by
  unfold fX0_isLeap_13 at h
  refine g_iload_n (pc' := 14) 0 O dX0_isLeap_13 rfl rfl rfl ?_
  refine g_sipush (v := 400) (pc' := 17) O dX0_isLeap_14 (by decide) rfl ?_
  refine g_irem2 (pc' := 18) O dX0_isLeap_17 (by decide) rfl ?_
  refine g_if_ne (tgt := 25) (pc' := 21) O dX0_isLeap_18 (by decide) rfl (fun hc => ?_) (fun hc => ?_)
  · replace h := ine hc h
    refine g_iconst (v := 0) (pc' := 26) O dX0_isLeap_25 (by decide) rfl ?_
    refine g_sub (lv' := []) [] rfl ?_
    exact tX0_isLeap_26 O hf h
  · replace h := ip hc h
    refine g_sub (lv' := []) [] rfl ?_
    exact tX0_isLeap_21 O hf h
def fX0_isLeap  (p0 : Int32) (M : Mem) : Option (Int32 × Mem) :=
  if (rmI p0 (4 : Int32)) = 0 then (if (rmI p0 (100 : Int32)) = 0 then (fX0_isLeap_13 p0 M)
  else (fX0_isLeap_21 M))
  else (fX0_isLeap_13 p0 M)
set_option maxHeartbeats 4000000 in
set_option maxRecDepth 100000 in
theorem okX0_isLeap {l : Launch} {p : Int32 × Mem} {p0 : Int32} {M : Mem} (h : fX0_isLeap p0 M = some p) : Cn l yX0_isLeap mX0_isLeap [.int p0] M (some (.int p.1)) p.2 := by
  refine Cn.of [(0, .int p0)] (by decide) rfl rfl (Nat.le_of_ble_eq_true rfl) rfl (fun κ _ hf O => ?_)
  unfold fX0_isLeap at h
  refine g_iload_n (pc' := 1) 0 O dX0_isLeap_0 rfl rfl rfl ?_
  refine g_iconst (v := 4) (pc' := 2) O dX0_isLeap_1 (by decide) rfl ?_
  refine g_irem2 (pc' := 3) O dX0_isLeap_2 (by decide) rfl ?_
  refine g_if_ne (tgt := 13) (pc' := 6) O dX0_isLeap_3 (by decide) rfl (fun hc => ?_) (fun hc => ?_)
  · replace h := ine hc h
    exact tX0_isLeap_13 O hf h
  · replace h := ip hc h
    refine g_iload_n (pc' := 7) 0 O dX0_isLeap_6 rfl rfl rfl ?_
    refine g_bipush (v := 100) (pc' := 9) O dX0_isLeap_7 (by decide) rfl ?_
    refine g_irem2 (pc' := 10) O dX0_isLeap_9 (by decide) rfl ?_
    refine g_if_ne (tgt := 21) (pc' := 13) O dX0_isLeap_10 (by decide) rfl (fun hc => ?_) (fun hc => ?_)
    · replace h := ine hc h
      refine g_sub (lv' := []) [] rfl ?_
      exact tX0_isLeap_21 O hf h
    · replace h := ip hc h
      exact tX0_isLeap_13 O hf h
abbrev mX0_lengthOf : MD := (cX0_lengthOf, 2, RX0, (some .int), { frames := 0, cells := 0, slots := 0, locals := 0 }, "lengthOf")
theorem hyX0_lengthOf : yX0_lengthOf.cls ≠ "java/lang/invoke/MethodHandle" ∧ yX0_lengthOf.cls ≠ "java/lang/invoke/VarHandle" ∧ (parseMethodDescriptor yX0_lengthOf.desc).map (fun d => d.parameters.length) = some 2 := by decide +kernel
def fX0_lengthOf_36  (s0 : Int32) (M : Mem) : Option (Int32 × Mem) :=
  some (s0, M)
set_option maxHeartbeats 4000000 in
set_option maxRecDepth 100000 in
theorem tX0_lengthOf_36 {κ : KT} {p : Int32 × Mem} (O : OkK κ mX0_lengthOf) (hf : κ.2.2.2.2.2.2.2.2.2.2.2.2.2 = (some (.int p.1), p.2))  {s0 : Int32} {M : Mem} (h : fX0_lengthOf_36  s0 M = some p) : G κ mX0_lengthOf 0 0 36 [] [.int s0] M := by
  unfold fX0_lengthOf_36 at h
  cases h
  exact g_ireturn O dX0_lengthOf_36 rfl rfl hf (by decide) (by decide)
def fX0_lengthOf_29  (x0 : Int32) (M : Mem) : Option (Int32 × Mem) :=
  (kA M .int (M.2.2.1 0) (x0 - (1 : Int32))).bind fun v1 =>
  fX0_lengthOf_36 v1 M
set_option maxHeartbeats 4000000 in
set_option maxRecDepth 100000 in
theorem tX0_lengthOf_29 {κ : KT} {p : Int32 × Mem} (O : OkK κ mX0_lengthOf) (hf : κ.2.2.2.2.2.2.2.2.2.2.2.2.2 = (some (.int p.1), p.2))  {x0 : Int32} {M : Mem} (h : fX0_lengthOf_29  x0 M = some p) : G κ mX0_lengthOf 0 0 29 [(0, .int x0)] [] M := by
  unfold fX0_lengthOf_29 at h
  refine g_getS0 (pc' := 32) O dX0_lengthOf_29 tw_362 rfl ?_
  refine g_iload_n (pc' := 33) 0 O dX0_lengthOf_32 rfl rfl rfl ?_
  refine g_iconst (v := 1) (pc' := 34) O dX0_lengthOf_33 (by decide) rfl ?_
  refine g_isub (pc' := 35) O dX0_lengthOf_34 rfl ?_
  replace h := ob h; obtain ⟨v1, ev1, h⟩ := h
  refine g_kiald (pc' := 36) O dX0_lengthOf_35 ev1 rfl ?_
  refine g_sub (lv' := []) [] rfl ?_
  exact tX0_lengthOf_36 O hf h
def fX0_lengthOf_13  (M : Mem) : Option (Int32 × Mem) :=
  some ((0 : Int32), M)
set_option maxHeartbeats 4000000 in
set_option maxRecDepth 100000 in
theorem tX0_lengthOf_13 {κ : KT} {p : Int32 × Mem} (O : OkK κ mX0_lengthOf) (hf : κ.2.2.2.2.2.2.2.2.2.2.2.2.2 = (some (.int p.1), p.2))  {M : Mem} (h : fX0_lengthOf_13  M = some p) : G κ mX0_lengthOf 0 0 13 [] [] M := by
  unfold fX0_lengthOf_13 at h
  refine g_iconst (v := 0) (pc' := 14) O dX0_lengthOf_13 (by decide) rfl ?_
  cases h
  exact g_ireturn O dX0_lengthOf_14 rfl rfl hf (by decide) (by decide)
def fX0_lengthOf  (p0 : Int32) (p1 : Int32) (M : Mem) : Option (Int32 × Mem) :=
  if p0 < (1 : Int32) then (fX0_lengthOf_13 M)
  else ((kN M (M.2.2.1 0)).bind fun v1 =>
  if p0 ≤ v1 then (if p0 = (2 : Int32) then (if p1 = 0 then (fX0_lengthOf_29 p0 M)
  else (fX0_lengthOf_36 (29 : Int32) M))
  else (fX0_lengthOf_29 p0 M))
  else (fX0_lengthOf_13 M))
set_option maxHeartbeats 4000000 in
set_option maxRecDepth 100000 in
theorem okX0_lengthOf {l : Launch} {p : Int32 × Mem} {p0 : Int32} {p1 : Int32} {M : Mem} (h : fX0_lengthOf p0 p1 M = some p) : Cn l yX0_lengthOf mX0_lengthOf [.int p0, .int p1] M (some (.int p.1)) p.2 := by
  refine Cn.of [(0, .int p0), (1, .int p1)] (by decide) rfl rfl (Nat.le_of_ble_eq_true rfl) rfl (fun κ _ hf O => ?_)
  unfold fX0_lengthOf at h
  refine g_iload_n (pc' := 1) 0 O dX0_lengthOf_0 rfl rfl rfl ?_
  refine g_iconst (v := 1) (pc' := 2) O dX0_lengthOf_1 (by decide) rfl ?_
  refine g_icmp_lt (tgt := 13) (pc' := 5) O dX0_lengthOf_2 (by decide) rfl (fun hc => ?_) (fun hc => ?_)
  · replace h := ip hc h
    refine g_sub (lv' := []) [] rfl ?_
    exact tX0_lengthOf_13 O hf h
  · replace h := ine hc h
    refine g_iload_n (pc' := 6) 0 O dX0_lengthOf_5 rfl rfl rfl ?_
    refine g_getS0 (pc' := 9) O dX0_lengthOf_6 tw_362 rfl ?_
    replace h := ob h; obtain ⟨v1, ev1, h⟩ := h
    refine g_kalen (pc' := 10) O dX0_lengthOf_9 ev1 rfl ?_
    refine g_icmp_le (tgt := 15) (pc' := 13) O dX0_lengthOf_10 (by decide) rfl (fun hc => ?_) (fun hc => ?_)
    · replace h := ip hc h
      refine g_iload_n (pc' := 16) 0 O dX0_lengthOf_15 rfl rfl rfl ?_
      refine g_iconst (v := 2) (pc' := 17) O dX0_lengthOf_16 (by decide) rfl ?_
      refine g_icmp_ne (tgt := 29) (pc' := 20) O dX0_lengthOf_17 (by decide) rfl (fun hc => ?_) (fun hc => ?_)
      · replace h := ine hc h
        refine g_sub (lv' := [(0, .int p0)]) [0] rfl ?_
        exact tX0_lengthOf_29 O hf h
      · replace h := ip hc h
        refine g_iload_n (pc' := 21) 1 O dX0_lengthOf_20 rfl rfl rfl ?_
        refine g_if_eq (tgt := 29) (pc' := 24) O dX0_lengthOf_21 (by decide) rfl (fun hc => ?_) (fun hc => ?_)
        · replace h := ip hc h
          refine g_sub (lv' := [(0, .int p0)]) [0] rfl ?_
          exact tX0_lengthOf_29 O hf h
        · replace h := ine hc h
          refine g_bipush (v := 29) (pc' := 26) O dX0_lengthOf_24 (by decide) rfl ?_
          refine g_goto (pc' := 36) O dX0_lengthOf_26 (by decide) ?_
          refine g_sub (lv' := []) [] rfl ?_
          exact tX0_lengthOf_36 O hf h
    · replace h := ine hc h
      refine g_sub (lv' := []) [] rfl ?_
      exact tX0_lengthOf_13 O hf h
abbrev mX0_isDay : MD := (cX0_isDay, 3, RX0, (some .boolean), { frames := 1, cells := 0, slots := 0, locals := 21 }, "isDay")
theorem hyX0_isDay : yX0_isDay.cls ≠ "java/lang/invoke/MethodHandle" ∧ yX0_isDay.cls ≠ "java/lang/invoke/VarHandle" ∧ (parseMethodDescriptor yX0_isDay.desc).map (fun d => d.parameters.length) = some 3 := by decide +kernel
def fX0_isDay_34  (s0 : Int32) (M : Mem) : Option (Int32 × Mem) :=
  (nz s0).bind fun z1 =>
  some (z1, M)
set_option maxHeartbeats 4000000 in
set_option maxRecDepth 100000 in
theorem tX0_isDay_34 {κ : KT} {p : Int32 × Mem} (O : OkK κ mX0_isDay) (hf : κ.2.2.2.2.2.2.2.2.2.2.2.2.2 = (some (.int p.1), p.2))  {s0 : Int32} {M : Mem} (h : fX0_isDay_34  s0 M = some p) : G κ mX0_isDay 0 0 34 [] [.int s0] M := by
  unfold fX0_isDay_34 at h
  replace h := ob h; obtain ⟨z1, ez1, h⟩ := h
  obtain ⟨hz1, ez1b⟩ := nz_spec ez1
  rw [ez1b] at h
  cases h
  exact g_ireturn O dX0_isDay_34 rfl (nz_nar hz1) hf (by decide) (by decide)
def fX0_isDay_33  (M : Mem) : Option (Int32 × Mem) :=
  fX0_isDay_34 (0 : Int32) M
set_option maxHeartbeats 4000000 in
set_option maxRecDepth 100000 in
theorem tX0_isDay_33 {κ : KT} {p : Int32 × Mem} (O : OkK κ mX0_isDay) (hf : κ.2.2.2.2.2.2.2.2.2.2.2.2.2 = (some (.int p.1), p.2))  {M : Mem} (h : fX0_isDay_33  M = some p) : G κ mX0_isDay 0 0 33 [] [] M := by
  unfold fX0_isDay_33 at h
  refine g_iconst (v := 0) (pc' := 34) O dX0_isDay_33 (by decide) rfl ?_
  exact tX0_isDay_34 O hf h
def fX0_isDay  (p0 : Int32) (p1 : Int32) (p2 : Int32) (M : Mem) : Option (Int32 × Mem) :=
  if p0 < (1 : Int32) then (fX0_isDay_33 M)
  else (if (9999 : Int32) < p0 then (fX0_isDay_33 M)
  else (if p2 < (1 : Int32) then (fX0_isDay_33 M)
  else ((fX0_isLeap p0 M).bind fun r1 =>
  (fX0_lengthOf p1 r1.1 r1.2).bind fun r2 =>
  if r2.1 < p2 then (fX0_isDay_33 r2.2)
  else (fX0_isDay_34 (1 : Int32) r2.2))))
set_option maxHeartbeats 4000000 in
set_option maxRecDepth 100000 in
theorem okX0_isDay {l : Launch} {p : Int32 × Mem} {p0 : Int32} {p1 : Int32} {p2 : Int32} {M : Mem} (h : fX0_isDay p0 p1 p2 M = some p) : Cn l yX0_isDay mX0_isDay [.int p0, .int p1, .int p2] M (some (.int p.1)) p.2 := by
  refine Cn.of [(0, .int p0), (1, .int p1), (2, .int p2)] (by decide) rfl rfl (Nat.le_of_ble_eq_true rfl) rfl (fun κ _ hf O => ?_)
  unfold fX0_isDay at h
  refine g_iload_n (pc' := 1) 0 O dX0_isDay_0 rfl rfl rfl ?_
  refine g_iconst (v := 1) (pc' := 2) O dX0_isDay_1 (by decide) rfl ?_
  refine g_icmp_lt (tgt := 33) (pc' := 5) O dX0_isDay_2 (by decide) rfl (fun hc => ?_) (fun hc => ?_)
  · replace h := ip hc h
    refine g_sub (lv' := []) [] rfl ?_
    exact tX0_isDay_33 O hf h
  · replace h := ine hc h
    refine g_iload_n (pc' := 6) 0 O dX0_isDay_5 rfl rfl rfl ?_
    refine g_sipush (v := 9999) (pc' := 9) O dX0_isDay_6 (by decide) rfl ?_
    refine g_icmp_gt (tgt := 33) (pc' := 12) O dX0_isDay_9 (by decide) rfl (fun hc => ?_) (fun hc => ?_)
    · replace h := ip hc h
      refine g_sub (lv' := []) [] rfl ?_
      exact tX0_isDay_33 O hf h
    · replace h := ine hc h
      refine g_iload_n (pc' := 13) 2 O dX0_isDay_12 rfl rfl rfl ?_
      refine g_iconst (v := 1) (pc' := 14) O dX0_isDay_13 (by decide) rfl ?_
      refine g_icmp_lt (tgt := 33) (pc' := 17) O dX0_isDay_14 (by decide) rfl (fun hc => ?_) (fun hc => ?_)
      · replace h := ip hc h
        refine g_sub (lv' := []) [] rfl ?_
        exact tX0_isDay_33 O hf h
      · replace h := ine hc h
        refine g_iload_n (pc' := 18) 2 O dX0_isDay_17 rfl rfl rfl ?_
        refine g_iload_n (pc' := 19) 1 O dX0_isDay_18 rfl rfl rfl ?_
        refine g_iload_n (pc' := 20) 0 O dX0_isDay_19 rfl rfl rfl ?_
        replace h := ob h; obtain ⟨r1, er1, h⟩ := h
        refine g_callS (y := yX0_isLeap) (ν := mX0_isLeap) (n := 1) (As := [.int p0]) (b := 0) (st := [.int p1, .int p2]) (M2 := r1.2) (r1 := (some (.int r1.1))) (pc' := 23) O dX0_isDay_20 tw_358 tw_60 tw_357 tw_356 hyX0_isLeap rfl (okX0_isLeap er1) (Nat.le_of_ble_eq_true rfl) ⟨Nat.le_of_ble_eq_true rfl, Nat.le_of_ble_eq_true rfl⟩ ⟨Nat.le_of_ble_eq_true rfl, Nat.le_of_ble_eq_true rfl⟩ rfl ?_
        show G κ mX0_isDay 0 0 23 [(0, .int p0), (1, .int p1), (2, .int p2)] [.int r1.1, .int p1, .int p2] r1.2
        replace h := ob h; obtain ⟨r2, er2, h⟩ := h
        refine g_callS (y := yX0_lengthOf) (ν := mX0_lengthOf) (n := 2) (As := [.int p1, .int r1.1]) (b := 0) (st := [.int p2]) (M2 := r2.2) (r1 := (some (.int r2.1))) (pc' := 26) O dX0_isDay_23 tw_361 tw_60 tw_360 tw_359 hyX0_lengthOf rfl (okX0_lengthOf er2) (Nat.le_of_ble_eq_true rfl) ⟨Nat.le_of_ble_eq_true rfl, Nat.le_of_ble_eq_true rfl⟩ ⟨Nat.le_of_ble_eq_true rfl, Nat.le_of_ble_eq_true rfl⟩ rfl ?_
        show G κ mX0_isDay 0 0 26 [(0, .int p0), (1, .int p1), (2, .int p2)] [.int r2.1, .int p2] r2.2
        refine g_icmp_gt (tgt := 33) (pc' := 29) O dX0_isDay_26 (by decide) rfl (fun hc => ?_) (fun hc => ?_)
        · replace h := ip hc h
          refine g_sub (lv' := []) [] rfl ?_
          exact tX0_isDay_33 O hf h
        · replace h := ine hc h
          refine g_iconst (v := 1) (pc' := 30) O dX0_isDay_29 (by decide) rfl ?_
          refine g_goto (pc' := 34) O dX0_isDay_30 (by decide) ?_
          refine g_sub (lv' := []) [] rfl ?_
          exact tX0_isDay_34 O hf h
abbrev mX0_beforeYear : MD := (cX0_beforeYear, 2, RX0, (some .int), { frames := 0, cells := 0, slots := 0, locals := 0 }, "beforeYear")
theorem hyX0_beforeYear : yX0_beforeYear.cls ≠ "java/lang/invoke/MethodHandle" ∧ yX0_beforeYear.cls ≠ "java/lang/invoke/VarHandle" ∧ (parseMethodDescriptor yX0_beforeYear.desc).map (fun d => d.parameters.length) = some 1 := by decide +kernel
def fX0_beforeYear  (p0 : Int32) (M : Mem) : Option (Int32 × Mem) :=
  some ((((((p0 - (1 : Int32)) * (365 : Int32)) + ((p0 - (1 : Int32)) / (4 : Int32))) - ((p0 - (1 : Int32)) / (100 : Int32))) + ((p0 - (1 : Int32)) / (400 : Int32))), M)
set_option maxHeartbeats 4000000 in
set_option maxRecDepth 100000 in
theorem okX0_beforeYear {l : Launch} {p : Int32 × Mem} {p0 : Int32} {M : Mem} (h : fX0_beforeYear p0 M = some p) : Cn l yX0_beforeYear mX0_beforeYear [.int p0] M (some (.int p.1)) p.2 := by
  refine Cn.of [(0, .int p0)] (by decide) rfl rfl (Nat.le_of_ble_eq_true rfl) rfl (fun κ _ hf O => ?_)
  unfold fX0_beforeYear at h
  refine g_iload_n (pc' := 1) 0 O dX0_beforeYear_0 rfl rfl rfl ?_
  refine g_iconst (v := 1) (pc' := 2) O dX0_beforeYear_1 (by decide) rfl ?_
  refine g_isub (pc' := 3) O dX0_beforeYear_2 rfl ?_
  refine g_istore_n (lv' := [(1, .int (p0 - (1 : Int32))), (0, .int p0)]) (pc' := 4) O dX0_beforeYear_3 rfl (by decide) rfl rfl ?_
  refine g_iload_n (pc' := 5) 0 O dX0_beforeYear_4 rfl rfl rfl ?_
  refine g_sipush (v := 365) (pc' := 8) O dX0_beforeYear_5 (by decide) rfl ?_
  refine g_imul (pc' := 9) O dX0_beforeYear_8 rfl ?_
  refine g_iload_n (pc' := 10) 0 O dX0_beforeYear_9 rfl rfl rfl ?_
  refine g_iconst (v := 4) (pc' := 11) O dX0_beforeYear_10 (by decide) rfl ?_
  refine g_idiv (pc' := 12) O dX0_beforeYear_11 (by decide) rfl ?_
  refine g_iadd (pc' := 13) O dX0_beforeYear_12 rfl ?_
  refine g_iload_n (pc' := 14) 0 O dX0_beforeYear_13 rfl rfl rfl ?_
  refine g_bipush (v := 100) (pc' := 16) O dX0_beforeYear_14 (by decide) rfl ?_
  refine g_idiv (pc' := 17) O dX0_beforeYear_16 (by decide) rfl ?_
  refine g_isub (pc' := 18) O dX0_beforeYear_17 rfl ?_
  refine g_iload_n (pc' := 19) 0 O dX0_beforeYear_18 rfl rfl rfl ?_
  refine g_sipush (v := 400) (pc' := 22) O dX0_beforeYear_19 (by decide) rfl ?_
  refine g_idiv (pc' := 23) O dX0_beforeYear_22 (by decide) rfl ?_
  refine g_iadd (pc' := 24) O dX0_beforeYear_23 rfl ?_
  cases h
  exact g_ireturn O dX0_beforeYear_24 rfl rfl hf (by decide) (by decide)
abbrev mX0_numberOf : MD := (cX0_numberOf, 6, RX0, (some .int), { frames := 1, cells := 0, slots := 0, locals := 21 }, "numberOf")
theorem hyX0_numberOf : yX0_numberOf.cls ≠ "java/lang/invoke/MethodHandle" ∧ yX0_numberOf.cls ≠ "java/lang/invoke/VarHandle" ∧ (parseMethodDescriptor yX0_numberOf.desc).map (fun d => d.parameters.length) = some 3 := by decide +kernel
def fX0_numberOf_48  (x4 : Int32) (M : Mem) : Option (Int32 × Mem) :=
  some (x4, M)
set_option maxHeartbeats 4000000 in
set_option maxRecDepth 100000 in
theorem tX0_numberOf_48 {κ : KT} {p : Int32 × Mem} (O : OkK κ mX0_numberOf) (hf : κ.2.2.2.2.2.2.2.2.2.2.2.2.2 = (some (.int p.1), p.2))  {x4 : Int32} {M : Mem} (h : fX0_numberOf_48  x4 M = some p) : G κ mX0_numberOf 0 0 48 [(4, .int x4)] [] M := by
  unfold fX0_numberOf_48 at h
  refine g_iload (pc' := 50) 0 O dX0_numberOf_48 rfl rfl ?_
  cases h
  exact g_ireturn O dX0_numberOf_50 rfl rfl hf (by decide) (by decide)
def fX0_numberOf_18  : Nat → Int32 → Int32 → Int32 → Int32 → Mem → Option (Int32 × Mem)
  | 0, _, _, _, _, _ => none
  | n + 1, x1, x3, x4, x5, M =>
    if x1 ≤ x5 then (fX0_numberOf_48 x4 M)
    else (if (12 : Int32) < x5 then (fX0_numberOf_48 x4 M)
    else ((fX0_lengthOf x5 x3 M).bind fun r1 =>
    fX0_numberOf_18 n x1 x3 (x4 + r1.1) (x5 + (1 : Int32)) r1.2))
set_option maxHeartbeats 4000000 in
set_option maxRecDepth 100000 in
theorem tX0_numberOf_18 {κ : KT} {p : Int32 × Mem} (O : OkK κ mX0_numberOf) (hf : κ.2.2.2.2.2.2.2.2.2.2.2.2.2 = (some (.int p.1), p.2))  : ∀ (n : Nat) (x1 : Int32) (x3 : Int32) (x4 : Int32) (x5 : Int32) (M : Mem), fX0_numberOf_18  n x1 x3 x4 x5 M = some p → G κ mX0_numberOf 0 0 18 [(1, .int x1), (3, .int x3), (4, .int x4), (5, .int x5)] [] M := by
  intro n
  induction n with
  | zero => intro x1 x3 x4 x5 M h; cases h
  | succ n ih =>
    intro x1 x3 x4 x5 M h
    rw [fX0_numberOf_18] at h
    refine g_iload (pc' := 20) 3 O dX0_numberOf_18 rfl rfl ?_
    refine g_iload_n (pc' := 21) 0 O dX0_numberOf_20 rfl rfl rfl ?_
    refine g_icmp_ge (tgt := 48) (pc' := 24) O dX0_numberOf_21 (by decide) rfl (fun hc => ?_) (fun hc => ?_)
    · replace h := ip hc h
      refine g_sub (lv' := [(4, .int x4)]) [2] rfl ?_
      exact tX0_numberOf_48 O hf h
    · replace h := ine hc h
      refine g_iload (pc' := 26) 3 O dX0_numberOf_24 rfl rfl ?_
      refine g_bipush (v := 12) (pc' := 28) O dX0_numberOf_26 (by decide) rfl ?_
      refine g_icmp_gt (tgt := 48) (pc' := 31) O dX0_numberOf_28 (by decide) rfl (fun hc => ?_) (fun hc => ?_)
      · replace h := ip hc h
        refine g_sub (lv' := [(4, .int x4)]) [2] rfl ?_
        exact tX0_numberOf_48 O hf h
      · replace h := ine hc h
        refine g_iload (pc' := 33) 2 O dX0_numberOf_31 rfl rfl ?_
        refine g_iload (pc' := 35) 3 O dX0_numberOf_33 rfl rfl ?_
        refine g_iload_n (pc' := 36) 1 O dX0_numberOf_35 rfl rfl rfl ?_
        replace h := ob h; obtain ⟨r1, er1, h⟩ := h
        refine g_callS (y := yX0_lengthOf) (ν := mX0_lengthOf) (n := 2) (As := [.int x5, .int x3]) (b := 0) (st := [.int x4]) (M2 := r1.2) (r1 := (some (.int r1.1))) (pc' := 39) O dX0_numberOf_36 tw_361 tw_60 tw_360 tw_359 hyX0_lengthOf rfl (okX0_lengthOf er1) (Nat.le_of_ble_eq_true rfl) ⟨Nat.le_of_ble_eq_true rfl, Nat.le_of_ble_eq_true rfl⟩ ⟨Nat.le_of_ble_eq_true rfl, Nat.le_of_ble_eq_true rfl⟩ rfl ?_
        show G κ mX0_numberOf 0 0 39 [(1, .int x1), (3, .int x3), (4, .int x4), (5, .int x5)] [.int r1.1, .int x4] r1.2
        refine g_iadd (pc' := 40) O dX0_numberOf_39 rfl ?_
        refine g_istore (lv' := [(4, .int (x4 + r1.1)), (1, .int x1), (3, .int x3), (5, .int x5)]) (pc' := 42) O dX0_numberOf_40 (by decide) rfl rfl ?_
        refine g_iinc (q := 3) (v := x5 + (1 : Int32)) (lv' := [(5, .int (x5 + (1 : Int32))), (4, .int (x4 + r1.1)), (1, .int x1), (3, .int x3)]) (pc' := 45) O dX0_numberOf_42 rfl rfl (by decide) rfl rfl ?_
        refine g_goto (pc' := 18) O dX0_numberOf_45 (by decide) ?_
        refine g_sub (lv' := [(1, .int x1), (3, .int x3), (4, .int (x4 + r1.1)), (5, .int (x5 + (1 : Int32)))]) [2, 3, 1, 0] rfl ?_
        exact ih x1 x3 (x4 + r1.1) (x5 + (1 : Int32)) r1.2 h
def fX0_numberOf  (p0 : Int32) (p1 : Int32) (p2 : Int32) (M : Mem) : Option (Int32 × Mem) :=
  (fX0_isLeap p0 M).bind fun r1 =>
  (fX0_beforeYear p0 r1.2).bind fun r2 =>
  fX0_numberOf_18 FU p1 r1.1 ((r2.1 + p2) - (1 : Int32)) (1 : Int32) r2.2
set_option maxHeartbeats 4000000 in
set_option maxRecDepth 100000 in
theorem okX0_numberOf {l : Launch} {p : Int32 × Mem} {p0 : Int32} {p1 : Int32} {p2 : Int32} {M : Mem} (h : fX0_numberOf p0 p1 p2 M = some p) : Cn l yX0_numberOf mX0_numberOf [.int p0, .int p1, .int p2] M (some (.int p.1)) p.2 := by
  refine Cn.of [(0, .int p0), (1, .int p1), (2, .int p2)] (by decide) rfl rfl (Nat.le_of_ble_eq_true rfl) rfl (fun κ _ hf O => ?_)
  unfold fX0_numberOf at h
  refine g_iload_n (pc' := 1) 0 O dX0_numberOf_0 rfl rfl rfl ?_
  replace h := ob h; obtain ⟨r1, er1, h⟩ := h
  refine g_callS (y := yX0_isLeap) (ν := mX0_isLeap) (n := 1) (As := [.int p0]) (b := 0) (st := []) (M2 := r1.2) (r1 := (some (.int r1.1))) (pc' := 4) O dX0_numberOf_1 tw_358 tw_60 tw_357 tw_356 hyX0_isLeap rfl (okX0_isLeap er1) (Nat.le_of_ble_eq_true rfl) ⟨Nat.le_of_ble_eq_true rfl, Nat.le_of_ble_eq_true rfl⟩ ⟨Nat.le_of_ble_eq_true rfl, Nat.le_of_ble_eq_true rfl⟩ rfl ?_
  show G κ mX0_numberOf 0 0 4 [(0, .int p0), (1, .int p1), (2, .int p2)] [.int r1.1] r1.2
  refine g_istore_n (lv' := [(3, .int r1.1), (0, .int p0), (1, .int p1), (2, .int p2)]) (pc' := 5) O dX0_numberOf_4 rfl (by decide) rfl rfl ?_
  refine g_iload_n (pc' := 6) 1 O dX0_numberOf_5 rfl rfl rfl ?_
  replace h := ob h; obtain ⟨r2, er2, h⟩ := h
  refine g_callS (y := yX0_beforeYear) (ν := mX0_beforeYear) (n := 1) (As := [.int p0]) (b := 0) (st := []) (M2 := r2.2) (r1 := (some (.int r2.1))) (pc' := 9) O dX0_numberOf_6 tw_369 tw_60 tw_368 tw_367 hyX0_beforeYear rfl (okX0_beforeYear er2) (Nat.le_of_ble_eq_true rfl) ⟨Nat.le_of_ble_eq_true rfl, Nat.le_of_ble_eq_true rfl⟩ ⟨Nat.le_of_ble_eq_true rfl, Nat.le_of_ble_eq_true rfl⟩ rfl ?_
  show G κ mX0_numberOf 0 0 9 [(3, .int r1.1), (0, .int p0), (1, .int p1), (2, .int p2)] [.int r2.1] r2.2
  refine g_iload_n (pc' := 10) 3 O dX0_numberOf_9 rfl rfl rfl ?_
  refine g_iadd (pc' := 11) O dX0_numberOf_10 rfl ?_
  refine g_iconst (v := 1) (pc' := 12) O dX0_numberOf_11 (by decide) rfl ?_
  refine g_isub (pc' := 13) O dX0_numberOf_12 rfl ?_
  refine g_istore (lv' := [(4, .int ((r2.1 + p2) - (1 : Int32))), (3, .int r1.1), (0, .int p0), (1, .int p1), (2, .int p2)]) (pc' := 15) O dX0_numberOf_13 (by decide) rfl rfl ?_
  refine g_iconst (v := 1) (pc' := 16) O dX0_numberOf_15 (by decide) rfl ?_
  refine g_istore (lv' := [(5, .int (1 : Int32)), (4, .int ((r2.1 + p2) - (1 : Int32))), (3, .int r1.1), (0, .int p0), (1, .int p1), (2, .int p2)]) (pc' := 18) O dX0_numberOf_16 (by decide) rfl rfl ?_
  refine g_sub (lv' := [(1, .int p1), (3, .int r1.1), (4, .int ((r2.1 + p2) - (1 : Int32))), (5, .int (1 : Int32))]) [4, 2, 1, 0] rfl ?_
  exact tX0_numberOf_18 O hf FU p1 r1.1 ((r2.1 + p2) - (1 : Int32)) (1 : Int32) r2.2 h
abbrev mJ9_min_7cf53 : MD := (cJ9_min_7cf53, 2, RJ9, (some .int), { frames := 0, cells := 0, slots := 0, locals := 0 }, "min")
theorem hyJ9_min_7cf53 : yJ9_min_7cf53.cls ≠ "java/lang/invoke/MethodHandle" ∧ yJ9_min_7cf53.cls ≠ "java/lang/invoke/VarHandle" ∧ (parseMethodDescriptor yJ9_min_7cf53.desc).map (fun d => d.parameters.length) = some 2 := by decide +kernel
def fJ9_min_7cf53_10  (s0 : Int32) (M : Mem) : Option (Int32 × Mem) :=
  some (s0, M)
set_option maxHeartbeats 4000000 in
set_option maxRecDepth 100000 in
theorem tJ9_min_7cf53_10 {κ : KT} {p : Int32 × Mem} (O : OkK κ mJ9_min_7cf53) (hf : κ.2.2.2.2.2.2.2.2.2.2.2.2.2 = (some (.int p.1), p.2))  {s0 : Int32} {M : Mem} (h : fJ9_min_7cf53_10  s0 M = some p) : G κ mJ9_min_7cf53 0 0 10 [] [.int s0] M := by
  unfold fJ9_min_7cf53_10 at h
  cases h
  exact g_ireturn O dJ9_min_7cf53_10 rfl rfl hf (by decide) (by decide)
def fJ9_min_7cf53  (p0 : Int32) (p1 : Int32) (M : Mem) : Option (Int32 × Mem) :=
  if p1 < p0 then (fJ9_min_7cf53_10 p1 M)
  else (fJ9_min_7cf53_10 p0 M)
set_option maxHeartbeats 4000000 in
set_option maxRecDepth 100000 in
theorem okJ9_min_7cf53 {l : Launch} {p : Int32 × Mem} {p0 : Int32} {p1 : Int32} {M : Mem} (h : fJ9_min_7cf53 p0 p1 M = some p) : Cn l yJ9_min_7cf53 mJ9_min_7cf53 [.int p0, .int p1] M (some (.int p.1)) p.2 := by
  refine Cn.ofF [(0, .int p0), (1, .int p1)] (by decide +kernel) rfl rfl (Nat.le_of_ble_eq_true rfl) rfl (fun κ _ hf O => ?_)
  unfold fJ9_min_7cf53 at h
  refine g_iload_n (pc' := 1) 0 O dJ9_min_7cf53_0 rfl rfl rfl ?_
  refine g_iload_n (pc' := 2) 1 O dJ9_min_7cf53_1 rfl rfl rfl ?_
  refine g_icmp_gt (tgt := 9) (pc' := 5) O dJ9_min_7cf53_2 (by decide) rfl (fun hc => ?_) (fun hc => ?_)
  · replace h := ip hc h
    refine g_iload_n (pc' := 10) 1 O dJ9_min_7cf53_9 rfl rfl rfl ?_
    refine g_sub (lv' := []) [] rfl ?_
    exact tJ9_min_7cf53_10 O hf h
  · replace h := ine hc h
    refine g_iload_n (pc' := 6) 0 O dJ9_min_7cf53_5 rfl rfl rfl ?_
    refine g_goto (pc' := 10) O dJ9_min_7cf53_6 (by decide) ?_
    refine g_sub (lv' := []) [] rfl ?_
    exact tJ9_min_7cf53_10 O hf h
abbrev mX0_yearOf : MD := (cX0_yearOf, 5, RX0, (some .int), { frames := 1, cells := 0, slots := 0, locals := 21 }, "yearOf")
theorem hyX0_yearOf : yX0_yearOf.cls ≠ "java/lang/invoke/MethodHandle" ∧ yX0_yearOf.cls ≠ "java/lang/invoke/VarHandle" ∧ (parseMethodDescriptor yX0_yearOf.desc).map (fun d => d.parameters.length) = some 1 := by decide +kernel
def fX0_yearOf  (p0 : Int32) (M : Mem) : Option (Int32 × Mem) :=
  (fJ9_min_7cf53 ((rmI p0 (146097 : Int32)) / (36524 : Int32)) (3 : Int32) M).bind fun r1 =>
  (some (((rmI p0 (146097 : Int32)) - (r1.1 * (36524 : Int32))) / (1461 : Int32))).bind fun v2 =>
  (some (((rmI p0 (146097 : Int32)) - (r1.1 * (36524 : Int32))) - (v2 * (1461 : Int32)))).bind fun v3 =>
  (fJ9_min_7cf53 (v3 / (365 : Int32)) (3 : Int32) r1.2).bind fun r4 =>
  some (((((((p0 / (146097 : Int32)) * (400 : Int32)) + (r1.1 * (100 : Int32))) + (v2 * (4 : Int32))) + r4.1) + (1 : Int32)), r4.2)
set_option maxHeartbeats 4000000 in
set_option maxRecDepth 100000 in
theorem okX0_yearOf {l : Launch} {p : Int32 × Mem} {p0 : Int32} {M : Mem} (h : fX0_yearOf p0 M = some p) : Cn l yX0_yearOf mX0_yearOf [.int p0] M (some (.int p.1)) p.2 := by
  refine Cn.of [(0, .int p0)] (by decide) rfl rfl (Nat.le_of_ble_eq_true rfl) rfl (fun κ _ hf O => ?_)
  unfold fX0_yearOf at h
  refine g_iload_n (pc' := 1) 0 O dX0_yearOf_0 rfl rfl rfl ?_
  refine g_ldc (v := 146097) (pc' := 3) O dX0_yearOf_1 tw_455 rfl ?_
  refine g_irem2 (pc' := 4) O dX0_yearOf_3 (by decide) rfl ?_
  refine g_istore_n (lv' := [(1, .int (rmI p0 (146097 : Int32))), (0, .int p0)]) (pc' := 5) O dX0_yearOf_4 rfl (by decide) rfl rfl ?_
  refine g_iload_n (pc' := 6) 0 O dX0_yearOf_5 rfl rfl rfl ?_
  refine g_ldc (v := 36524) (pc' := 8) O dX0_yearOf_6 tw_456 rfl ?_
  refine g_idiv (pc' := 9) O dX0_yearOf_8 (by decide) rfl ?_
  refine g_iconst (v := 3) (pc' := 10) O dX0_yearOf_9 (by decide) rfl ?_
  replace h := ob h; obtain ⟨r1, er1, h⟩ := h
  refine g_callS (y := yJ9_min_7cf53) (ν := mJ9_min_7cf53) (n := 2) (As := [.int ((rmI p0 (146097 : Int32)) / (36524 : Int32)), .int (3 : Int32)]) (b := 0) (st := []) (M2 := r1.2) (r1 := (some (.int r1.1))) (pc' := 13) O dX0_yearOf_10 tw_312 tw_56 tw_311 tw_457 hyJ9_min_7cf53 rfl (okJ9_min_7cf53 er1) (Nat.le_of_ble_eq_true rfl) ⟨Nat.le_of_ble_eq_true rfl, Nat.le_of_ble_eq_true rfl⟩ ⟨Nat.le_of_ble_eq_true rfl, Nat.le_of_ble_eq_true rfl⟩ rfl ?_
  show G κ mX0_yearOf 0 0 13 [(1, .int (rmI p0 (146097 : Int32))), (0, .int p0)] [.int r1.1] r1.2
  refine g_istore_n (lv' := [(2, .int r1.1), (1, .int (rmI p0 (146097 : Int32))), (0, .int p0)]) (pc' := 14) O dX0_yearOf_13 rfl (by decide) rfl rfl ?_
  refine g_iload_n (pc' := 15) 1 O dX0_yearOf_14 rfl rfl rfl ?_
  refine g_iload_n (pc' := 16) 0 O dX0_yearOf_15 rfl rfl rfl ?_
  refine g_ldc (v := 36524) (pc' := 18) O dX0_yearOf_16 tw_456 rfl ?_
  refine g_imul (pc' := 19) O dX0_yearOf_18 rfl ?_
  refine g_isub (pc' := 20) O dX0_yearOf_19 rfl ?_
  refine g_istore_n (lv' := [(1, .int ((rmI p0 (146097 : Int32)) - (r1.1 * (36524 : Int32)))), (2, .int r1.1), (0, .int p0)]) (pc' := 21) O dX0_yearOf_20 rfl (by decide) rfl rfl ?_
  refine g_iload_n (pc' := 22) 0 O dX0_yearOf_21 rfl rfl rfl ?_
  refine g_sipush (v := 1461) (pc' := 25) O dX0_yearOf_22 (by decide) rfl ?_
  refine g_idiv (pc' := 26) O dX0_yearOf_25 (by decide) rfl ?_
  replace h := ob h; obtain ⟨v2, ev2, h⟩ := h
  have ev2 := Option.some.inj ev2
  rw [ev2]
  refine g_istore_n (lv' := [(3, .int v2), (1, .int ((rmI p0 (146097 : Int32)) - (r1.1 * (36524 : Int32)))), (2, .int r1.1), (0, .int p0)]) (pc' := 27) O dX0_yearOf_26 rfl (by decide) rfl rfl ?_
  refine g_iload_n (pc' := 28) 1 O dX0_yearOf_27 rfl rfl rfl ?_
  refine g_iload_n (pc' := 29) 0 O dX0_yearOf_28 rfl rfl rfl ?_
  refine g_sipush (v := 1461) (pc' := 32) O dX0_yearOf_29 (by decide) rfl ?_
  refine g_imul (pc' := 33) O dX0_yearOf_32 rfl ?_
  refine g_isub (pc' := 34) O dX0_yearOf_33 rfl ?_
  replace h := ob h; obtain ⟨v3, ev3, h⟩ := h
  have ev3 := Option.some.inj ev3
  rw [ev3]
  refine g_istore_n (lv' := [(1, .int v3), (3, .int v2), (2, .int r1.1), (0, .int p0)]) (pc' := 35) O dX0_yearOf_34 rfl (by decide) rfl rfl ?_
  refine g_iload_n (pc' := 36) 0 O dX0_yearOf_35 rfl rfl rfl ?_
  refine g_sipush (v := 365) (pc' := 39) O dX0_yearOf_36 (by decide) rfl ?_
  refine g_idiv (pc' := 40) O dX0_yearOf_39 (by decide) rfl ?_
  refine g_iconst (v := 3) (pc' := 41) O dX0_yearOf_40 (by decide) rfl ?_
  replace h := ob h; obtain ⟨r4, er4, h⟩ := h
  refine g_callS (y := yJ9_min_7cf53) (ν := mJ9_min_7cf53) (n := 2) (As := [.int (v3 / (365 : Int32)), .int (3 : Int32)]) (b := 0) (st := []) (M2 := r4.2) (r1 := (some (.int r4.1))) (pc' := 44) O dX0_yearOf_41 tw_312 tw_56 tw_311 tw_457 hyJ9_min_7cf53 rfl (okJ9_min_7cf53 er4) (Nat.le_of_ble_eq_true rfl) ⟨Nat.le_of_ble_eq_true rfl, Nat.le_of_ble_eq_true rfl⟩ ⟨Nat.le_of_ble_eq_true rfl, Nat.le_of_ble_eq_true rfl⟩ rfl ?_
  show G κ mX0_yearOf 0 0 44 [(1, .int v3), (3, .int v2), (2, .int r1.1), (0, .int p0)] [.int r4.1] r4.2
  refine g_istore (lv' := [(4, .int r4.1), (1, .int v3), (3, .int v2), (2, .int r1.1), (0, .int p0)]) (pc' := 46) O dX0_yearOf_44 (by decide) rfl rfl ?_
  refine g_iload_n (pc' := 47) 4 O dX0_yearOf_46 rfl rfl rfl ?_
  refine g_ldc (v := 146097) (pc' := 49) O dX0_yearOf_47 tw_455 rfl ?_
  refine g_idiv (pc' := 50) O dX0_yearOf_49 (by decide) rfl ?_
  refine g_sipush (v := 400) (pc' := 53) O dX0_yearOf_50 (by decide) rfl ?_
  refine g_imul (pc' := 54) O dX0_yearOf_53 rfl ?_
  refine g_iload_n (pc' := 55) 3 O dX0_yearOf_54 rfl rfl rfl ?_
  refine g_bipush (v := 100) (pc' := 57) O dX0_yearOf_55 (by decide) rfl ?_
  refine g_imul (pc' := 58) O dX0_yearOf_57 rfl ?_
  refine g_iadd (pc' := 59) O dX0_yearOf_58 rfl ?_
  refine g_iload_n (pc' := 60) 2 O dX0_yearOf_59 rfl rfl rfl ?_
  refine g_iconst (v := 4) (pc' := 61) O dX0_yearOf_60 (by decide) rfl ?_
  refine g_imul (pc' := 62) O dX0_yearOf_61 rfl ?_
  refine g_iadd (pc' := 63) O dX0_yearOf_62 rfl ?_
  refine g_iload (pc' := 65) 0 O dX0_yearOf_63 rfl rfl ?_
  refine g_iadd (pc' := 66) O dX0_yearOf_65 rfl ?_
  refine g_iconst (v := 1) (pc' := 67) O dX0_yearOf_66 (by decide) rfl ?_
  refine g_iadd (pc' := 68) O dX0_yearOf_67 rfl ?_
  cases h
  exact g_ireturn O dX0_yearOf_68 rfl rfl hf (by decide) (by decide)
abbrev mX1_init : MD := (cX1_init, 7, RX1, none, { frames := 1, cells := 0, slots := 0, locals := 20 }, "<init>")
theorem hyX1_init : yX1_init.cls ≠ "java/lang/invoke/MethodHandle" ∧ yX1_init.cls ≠ "java/lang/invoke/VarHandle" ∧ (parseMethodDescriptor yX1_init.desc).map (fun d => d.parameters.length) = some 6 := by decide +kernel
def fX1_init_25  (x0 : Nat) (x4 : Int32) (x5 : Int32) (x6 : Int32) (s0 : Int32) (s1 : Nat) (M : Mem) : Option (Mem) :=
  (nz s0).bind fun z1 =>
  (pF M 0 s1 2 (.int z1)).bind fun M2 =>
  (pF M2 0 x0 3 (.int x4)).bind fun M3 =>
  (pF M3 0 x0 4 (.int x5)).bind fun M4 =>
  (nz x6).bind fun z5 =>
  (pF M4 0 x0 5 (.int z5)).bind fun M6 =>
  some M6
set_option maxHeartbeats 4000000 in
set_option maxRecDepth 100000 in
theorem tX1_init_25 {κ : KT} {p : Mem} (O : OkK κ mX1_init) (hf : κ.2.2.2.2.2.2.2.2.2.2.2.2.2 = (none, p))  {x0 : Nat} {x4 : Int32} {x5 : Int32} {x6 : Int32} {s0 : Int32} {s1 : Nat} {M : Mem} (h : fX1_init_25  x0 x4 x5 x6 s0 s1 M = some p) : G κ mX1_init 0 0 25 [(0, .ref x0), (4, .int x4), (5, .int x5), (6, .int x6)] [.int s0, .ref s1] M := by
  unfold fX1_init_25 at h
  replace h := ob h; obtain ⟨z1, ez1, h⟩ := h
  obtain ⟨hz1, ez1b⟩ := nz_spec ez1
  rw [ez1b] at h
  replace h := ob h; obtain ⟨M2, eM2, h⟩ := h
  refine g_putFF (C := RX1) (T := TX1) (N := 8) (ci := 0) (k := 2) (pc' := 28) O dX1_init_25 rfl inX1 (by decide) tw_218 tyX1 tyX1_ok nmX1 rfl rfl rfl rfl (nz_nar hz1) (nz_fit hz1) eM2 rfl ?_
  refine g_aload_n (pc' := 29) 0 O dX1_init_28 rfl rfl rfl ?_
  refine g_iload (pc' := 31) 1 O dX1_init_29 rfl rfl ?_
  replace h := ob h; obtain ⟨M3, eM3, h⟩ := h
  refine g_putFF (C := RX1) (T := TX1) (N := 8) (ci := 0) (k := 3) (pc' := 34) O dX1_init_31 rfl inX1 (by decide) tw_220 tyX1 tyX1_ok nmX1 rfl rfl rfl rfl rfl rfl eM3 rfl ?_
  refine g_aload_n (pc' := 35) 0 O dX1_init_34 rfl rfl rfl ?_
  refine g_iload (pc' := 37) 2 O dX1_init_35 rfl rfl ?_
  replace h := ob h; obtain ⟨M4, eM4, h⟩ := h
  refine g_putFF (C := RX1) (T := TX1) (N := 8) (ci := 0) (k := 4) (pc' := 40) O dX1_init_37 rfl inX1 (by decide) tw_222 tyX1 tyX1_ok nmX1 rfl rfl rfl rfl rfl rfl eM4 rfl ?_
  refine g_aload_n (pc' := 41) 0 O dX1_init_40 rfl rfl rfl ?_
  refine g_iload (pc' := 43) 3 O dX1_init_41 rfl rfl ?_
  replace h := ob h; obtain ⟨z5, ez5, h⟩ := h
  obtain ⟨hz5, ez5b⟩ := nz_spec ez5
  rw [ez5b] at h
  replace h := ob h; obtain ⟨M6, eM6, h⟩ := h
  refine g_putFF (C := RX1) (T := TX1) (N := 8) (ci := 0) (k := 5) (pc' := 46) O dX1_init_43 rfl inX1 (by decide) tw_223 tyX1 tyX1_ok nmX1 rfl rfl rfl rfl (nz_nar hz5) (nz_fit hz5) eM6 rfl ?_
  cases h
  exact g_vreturn O dX1_init_46 rfl hf (by decide) (by decide)
def fX1_init  (this : Nat) (p0 : Int32) (p1 : Int32) (p2 : Int32) (p3 : Int32) (p4 : Int32) (p5 : Int32) (M : Mem) : Option (Mem) :=
  (pF M 0 this 0 (.int p0)).bind fun M1 =>
  (pF M1 0 this 1 (.int p1)).bind fun M2 =>
  if p2 = (1 : Int32) then (fX1_init_25 this p3 p4 p5 (1 : Int32) this M2)
  else (fX1_init_25 this p3 p4 p5 (0 : Int32) this M2)
set_option maxHeartbeats 4000000 in
set_option maxRecDepth 100000 in
theorem okX1_init {l : Launch} {p : Mem} {this : Nat} {p0 : Int32} {p1 : Int32} {p2 : Int32} {p3 : Int32} {p4 : Int32} {p5 : Int32} {M : Mem} (h : fX1_init this p0 p1 p2 p3 p4 p5 M = some p) : Cn l yX1_init mX1_init [.ref this, .int p0, .int p1, .int p2, .int p3, .int p4, .int p5] M none p := by
  refine Cn.of [(0, .ref this), (1, .int p0), (2, .int p1), (3, .int p2), (4, .int p3), (5, .int p4), (6, .int p5)] (by decide) rfl rfl (Nat.le_of_ble_eq_true rfl) rfl (fun κ _ hf O => ?_)
  unfold fX1_init at h
  refine g_aload_n (pc' := 1) 0 O dX1_init_0 rfl rfl rfl ?_
  refine g_objInit (pc' := 4) O dX1_init_1 tw_211 tw_74 tw_75 (by decide) (by decide) rfl ?_
  refine g_aload_n (pc' := 5) 0 O dX1_init_4 rfl rfl rfl ?_
  refine g_iload_n (pc' := 6) 1 O dX1_init_5 rfl rfl rfl ?_
  replace h := ob h; obtain ⟨M1, eM1, h⟩ := h
  refine g_putFF (C := RX1) (T := TX1) (N := 8) (ci := 0) (k := 0) (pc' := 9) O dX1_init_6 rfl inX1 (by decide) tw_212 tyX1 tyX1_ok nmX1 rfl rfl rfl rfl rfl rfl eM1 rfl ?_
  refine g_aload_n (pc' := 10) 0 O dX1_init_9 rfl rfl rfl ?_
  refine g_iload_n (pc' := 11) 2 O dX1_init_10 rfl rfl rfl ?_
  replace h := ob h; obtain ⟨M2, eM2, h⟩ := h
  refine g_putFF (C := RX1) (T := TX1) (N := 8) (ci := 0) (k := 1) (pc' := 14) O dX1_init_11 rfl inX1 (by decide) tw_215 tyX1 tyX1_ok nmX1 rfl rfl rfl rfl rfl rfl eM2 rfl ?_
  refine g_aload_n (pc' := 15) 0 O dX1_init_14 rfl rfl rfl ?_
  refine g_iload_n (pc' := 16) 3 O dX1_init_15 rfl rfl rfl ?_
  refine g_iconst (v := 1) (pc' := 17) O dX1_init_16 (by decide) rfl ?_
  refine g_icmp_ne (tgt := 24) (pc' := 20) O dX1_init_17 (by decide) rfl (fun hc => ?_) (fun hc => ?_)
  · replace h := ine hc h
    refine g_iconst (v := 0) (pc' := 25) O dX1_init_24 (by decide) rfl ?_
    refine g_sub (lv' := [(0, .ref this), (4, .int p3), (5, .int p4), (6, .int p5)]) [0, 4, 5, 6] rfl ?_
    exact tX1_init_25 O hf h
  · replace h := ip hc h
    refine g_iconst (v := 1) (pc' := 21) O dX1_init_20 (by decide) rfl ?_
    refine g_goto (pc' := 25) O dX1_init_21 (by decide) ?_
    refine g_sub (lv' := [(0, .ref this), (4, .int p3), (5, .int p4), (6, .int p5)]) [0, 4, 5, 6] rfl ?_
    exact tX1_init_25 O hf h
abbrev mX1_setDays : MD := (cX1_setDays, 3, RX1, none, { frames := 0, cells := 0, slots := 0, locals := 0 }, "setDays")
theorem hyX1_setDays : yX1_setDays.cls ≠ "java/lang/invoke/MethodHandle" ∧ yX1_setDays.cls ≠ "java/lang/invoke/VarHandle" ∧ (parseMethodDescriptor yX1_setDays.desc).map (fun d => d.parameters.length) = some 2 := by decide +kernel
def fX1_setDays  (this : Nat) (p0 : Int32) (p1 : Int32) (M : Mem) : Option (Mem) :=
  (pF M 0 this 6 (.int p0)).bind fun M1 =>
  (pF M1 0 this 7 (.int p1)).bind fun M2 =>
  some M2
set_option maxHeartbeats 4000000 in
set_option maxRecDepth 100000 in
theorem okX1_setDays {l : Launch} {p : Mem} {this : Nat} {p0 : Int32} {p1 : Int32} {M : Mem} (h : fX1_setDays this p0 p1 M = some p) : Cn l yX1_setDays mX1_setDays [.ref this, .int p0, .int p1] M none p := by
  refine Cn.of [(0, .ref this), (1, .int p0), (2, .int p1)] (by decide) rfl rfl (Nat.le_of_ble_eq_true rfl) rfl (fun κ _ hf O => ?_)
  unfold fX1_setDays at h
  refine g_aload_n (pc' := 1) 0 O dX1_setDays_0 rfl rfl rfl ?_
  refine g_iload_n (pc' := 2) 1 O dX1_setDays_1 rfl rfl rfl ?_
  replace h := ob h; obtain ⟨M1, eM1, h⟩ := h
  refine g_putF (C := RX1) (T := TX1) (N := 8) (ci := 0) (k := 6) (pc' := 5) O dX1_setDays_2 rfl inX1 (by decide) tw_226 tyX1 tyX1_ok nmX1 rfl rfl rfl rfl eM1 rfl ?_
  refine g_aload_n (pc' := 6) 0 O dX1_setDays_5 rfl rfl rfl ?_
  refine g_iload_n (pc' := 7) 2 O dX1_setDays_6 rfl rfl rfl ?_
  replace h := ob h; obtain ⟨M2, eM2, h⟩ := h
  refine g_putF (C := RX1) (T := TX1) (N := 8) (ci := 0) (k := 7) (pc' := 10) O dX1_setDays_7 rfl inX1 (by decide) tw_227 tyX1 tyX1_ok nmX1 rfl rfl rfl rfl eM2 rfl ?_
  cases h
  exact g_vreturn O dX1_setDays_10 rfl hf (by decide) (by decide)
abbrev mX1_canWriteNumbers : MD := (cX1_canWriteNumbers, 6, RX1, (some .boolean), { frames := 0, cells := 0, slots := 0, locals := 0 }, "canWriteNumbers")
theorem hyX1_canWriteNumbers : yX1_canWriteNumbers.cls ≠ "java/lang/invoke/MethodHandle" ∧ yX1_canWriteNumbers.cls ≠ "java/lang/invoke/VarHandle" ∧ (parseMethodDescriptor yX1_canWriteNumbers.desc).map (fun d => d.parameters.length) = some 4 := by decide +kernel
def fX1_canWriteNumbers_92  (s0 : Int32) (M : Mem) : Option (Int32 × Mem) :=
  (nz s0).bind fun z1 =>
  some (z1, M)
set_option maxHeartbeats 4000000 in
set_option maxRecDepth 100000 in
theorem tX1_canWriteNumbers_92 {κ : KT} {p : Int32 × Mem} (O : OkK κ mX1_canWriteNumbers) (hf : κ.2.2.2.2.2.2.2.2.2.2.2.2.2 = (some (.int p.1), p.2))  {s0 : Int32} {M : Mem} (h : fX1_canWriteNumbers_92  s0 M = some p) : G κ mX1_canWriteNumbers 0 0 92 [] [.int s0] M := by
  unfold fX1_canWriteNumbers_92 at h
  replace h := ob h; obtain ⟨z1, ez1, h⟩ := h
  obtain ⟨hz1, ez1b⟩ := nz_spec ez1
  rw [ez1b] at h
  cases h
  exact g_ireturn O dX1_canWriteNumbers_92 rfl (nz_nar hz1) hf (by decide) (by decide)
def fX1_canWriteNumbers_91  (M : Mem) : Option (Int32 × Mem) :=
  fX1_canWriteNumbers_92 (0 : Int32) M
set_option maxHeartbeats 4000000 in
set_option maxRecDepth 100000 in
theorem tX1_canWriteNumbers_91 {κ : KT} {p : Int32 × Mem} (O : OkK κ mX1_canWriteNumbers) (hf : κ.2.2.2.2.2.2.2.2.2.2.2.2.2 = (some (.int p.1), p.2))  {M : Mem} (h : fX1_canWriteNumbers_91  M = some p) : G κ mX1_canWriteNumbers 0 0 91 [] [] M := by
  unfold fX1_canWriteNumbers_91 at h
  refine g_iconst (v := 0) (pc' := 92) O dX1_canWriteNumbers_91 (by decide) rfl ?_
  exact tX1_canWriteNumbers_92 O hf h
def fX1_canWriteNumbers_78  (x3 : Int32) (M : Mem) : Option (Int32 × Mem) :=
  if x3 < 0 then (fX1_canWriteNumbers_91 M)
  else (if (2 : Int32) < x3 then (fX1_canWriteNumbers_91 M)
  else (fX1_canWriteNumbers_92 (1 : Int32) M))
set_option maxHeartbeats 4000000 in
set_option maxRecDepth 100000 in
theorem tX1_canWriteNumbers_78 {κ : KT} {p : Int32 × Mem} (O : OkK κ mX1_canWriteNumbers) (hf : κ.2.2.2.2.2.2.2.2.2.2.2.2.2 = (some (.int p.1), p.2))  {x3 : Int32} {M : Mem} (h : fX1_canWriteNumbers_78  x3 M = some p) : G κ mX1_canWriteNumbers 0 0 78 [(3, .int x3)] [] M := by
  unfold fX1_canWriteNumbers_78 at h
  refine g_iload_n (pc' := 79) 0 O dX1_canWriteNumbers_78 rfl rfl rfl ?_
  refine g_if_lt (tgt := 91) (pc' := 82) O dX1_canWriteNumbers_79 (by decide) rfl (fun hc => ?_) (fun hc => ?_)
  · replace h := ip hc h
    refine g_sub (lv' := []) [] rfl ?_
    exact tX1_canWriteNumbers_91 O hf h
  · replace h := ine hc h
    refine g_iload_n (pc' := 83) 0 O dX1_canWriteNumbers_82 rfl rfl rfl ?_
    refine g_iconst (v := 2) (pc' := 84) O dX1_canWriteNumbers_83 (by decide) rfl ?_
    refine g_icmp_gt (tgt := 91) (pc' := 87) O dX1_canWriteNumbers_84 (by decide) rfl (fun hc => ?_) (fun hc => ?_)
    · replace h := ip hc h
      refine g_sub (lv' := []) [] rfl ?_
      exact tX1_canWriteNumbers_91 O hf h
    · replace h := ine hc h
      refine g_iconst (v := 1) (pc' := 88) O dX1_canWriteNumbers_87 (by decide) rfl ?_
      refine g_goto (pc' := 92) O dX1_canWriteNumbers_88 (by decide) ?_
      refine g_sub (lv' := []) [] rfl ?_
      exact tX1_canWriteNumbers_92 O hf h
def fX1_canWriteNumbers_52  (x0 : Int32) (x1 : Int32) (x2 : Int32) (x3 : Int32) (x4 : Int32) (s0 : Int32) (M : Mem) : Option (Int32 × Mem) :=
  if x4 = 0 then (fX1_canWriteNumbers_91 M)
  else (if s0 = 0 then (fX1_canWriteNumbers_91 M)
  else (if x1 = x0 then (fX1_canWriteNumbers_91 M)
  else (if x2 = 0 then (fX1_canWriteNumbers_78 x3 M)
  else (if x2 = (1 : Int32) then (fX1_canWriteNumbers_78 x3 M)
  else (fX1_canWriteNumbers_91 M)))))
set_option maxHeartbeats 4000000 in
set_option maxRecDepth 100000 in
theorem tX1_canWriteNumbers_52 {κ : KT} {p : Int32 × Mem} (O : OkK κ mX1_canWriteNumbers) (hf : κ.2.2.2.2.2.2.2.2.2.2.2.2.2 = (some (.int p.1), p.2))  {x0 : Int32} {x1 : Int32} {x2 : Int32} {x3 : Int32} {x4 : Int32} {s0 : Int32} {M : Mem} (h : fX1_canWriteNumbers_52  x0 x1 x2 x3 x4 s0 M = some p) : G κ mX1_canWriteNumbers 0 0 52 [(0, .int x0), (1, .int x1), (2, .int x2), (3, .int x3), (4, .int x4)] [.int s0] M := by
  unfold fX1_canWriteNumbers_52 at h
  refine g_istore (lv' := [(5, .int s0), (0, .int x0), (1, .int x1), (2, .int x2), (3, .int x3), (4, .int x4)]) (pc' := 54) O dX1_canWriteNumbers_52 (by decide) rfl rfl ?_
  refine g_iload (pc' := 56) 5 O dX1_canWriteNumbers_54 rfl rfl ?_
  refine g_if_eq (tgt := 91) (pc' := 59) O dX1_canWriteNumbers_56 (by decide) rfl (fun hc => ?_) (fun hc => ?_)
  · replace h := ip hc h
    refine g_sub (lv' := []) [] rfl ?_
    exact tX1_canWriteNumbers_91 O hf h
  · replace h := ine hc h
    refine g_iload (pc' := 61) 0 O dX1_canWriteNumbers_59 rfl rfl ?_
    refine g_if_eq (tgt := 91) (pc' := 64) O dX1_canWriteNumbers_61 (by decide) rfl (fun hc => ?_) (fun hc => ?_)
    · replace h := ip hc h
      refine g_sub (lv' := []) [] rfl ?_
      exact tX1_canWriteNumbers_91 O hf h
    · replace h := ine hc h
      refine g_iload_n (pc' := 65) 2 O dX1_canWriteNumbers_64 rfl rfl rfl ?_
      refine g_iload_n (pc' := 66) 1 O dX1_canWriteNumbers_65 rfl rfl rfl ?_
      refine g_icmp_eq (tgt := 91) (pc' := 69) O dX1_canWriteNumbers_66 (by decide) rfl (fun hc => ?_) (fun hc => ?_)
      · replace h := ip hc h
        refine g_sub (lv' := []) [] rfl ?_
        exact tX1_canWriteNumbers_91 O hf h
      · replace h := ine hc h
        refine g_iload_n (pc' := 70) 3 O dX1_canWriteNumbers_69 rfl rfl rfl ?_
        refine g_if_eq (tgt := 78) (pc' := 73) O dX1_canWriteNumbers_70 (by decide) rfl (fun hc => ?_) (fun hc => ?_)
        · replace h := ip hc h
          refine g_sub (lv' := [(3, .int x3)]) [4] rfl ?_
          exact tX1_canWriteNumbers_78 O hf h
        · replace h := ine hc h
          refine g_iload_n (pc' := 74) 3 O dX1_canWriteNumbers_73 rfl rfl rfl ?_
          refine g_iconst (v := 1) (pc' := 75) O dX1_canWriteNumbers_74 (by decide) rfl ?_
          refine g_icmp_ne (tgt := 91) (pc' := 78) O dX1_canWriteNumbers_75 (by decide) rfl (fun hc => ?_) (fun hc => ?_)
          · replace h := ine hc h
            refine g_sub (lv' := []) [] rfl ?_
            exact tX1_canWriteNumbers_91 O hf h
          · replace h := ip hc h
            refine g_sub (lv' := [(3, .int x3)]) [4] rfl ?_
            exact tX1_canWriteNumbers_78 O hf h
def fX1_canWriteNumbers_47  (x0 : Int32) (x1 : Int32) (x2 : Int32) (x3 : Int32) (x4 : Int32) (M : Mem) : Option (Int32 × Mem) :=
  fX1_canWriteNumbers_52 x0 x1 x2 x3 x4 (1 : Int32) M
set_option maxHeartbeats 4000000 in
set_option maxRecDepth 100000 in
theorem tX1_canWriteNumbers_47 {κ : KT} {p : Int32 × Mem} (O : OkK κ mX1_canWriteNumbers) (hf : κ.2.2.2.2.2.2.2.2.2.2.2.2.2 = (some (.int p.1), p.2))  {x0 : Int32} {x1 : Int32} {x2 : Int32} {x3 : Int32} {x4 : Int32} {M : Mem} (h : fX1_canWriteNumbers_47  x0 x1 x2 x3 x4 M = some p) : G κ mX1_canWriteNumbers 0 0 47 [(0, .int x0), (1, .int x1), (2, .int x2), (3, .int x3), (4, .int x4)] [] M := by
  unfold fX1_canWriteNumbers_47 at h
  refine g_iconst (v := 1) (pc' := 48) O dX1_canWriteNumbers_47 (by decide) rfl ?_
  refine g_goto (pc' := 52) O dX1_canWriteNumbers_48 (by decide) ?_
  exact tX1_canWriteNumbers_52 O hf h
def fX1_canWriteNumbers_17  (x0 : Int32) (x1 : Int32) (x2 : Int32) (x3 : Int32) (s0 : Int32) (M : Mem) : Option (Int32 × Mem) :=
  if x1 = (44 : Int32) then (fX1_canWriteNumbers_47 x0 x1 x2 x3 s0 M)
  else (if x1 = (46 : Int32) then (fX1_canWriteNumbers_47 x0 x1 x2 x3 s0 M)
  else (if x1 = (32 : Int32) then (fX1_canWriteNumbers_47 x0 x1 x2 x3 s0 M)
  else (if x1 = (39 : Int32) then (fX1_canWriteNumbers_47 x0 x1 x2 x3 s0 M)
  else (if x1 = 0 then (fX1_canWriteNumbers_47 x0 x1 x2 x3 s0 M)
  else (fX1_canWriteNumbers_52 x0 x1 x2 x3 s0 (0 : Int32) M)))))
set_option maxHeartbeats 4000000 in
set_option maxRecDepth 100000 in
theorem tX1_canWriteNumbers_17 {κ : KT} {p : Int32 × Mem} (O : OkK κ mX1_canWriteNumbers) (hf : κ.2.2.2.2.2.2.2.2.2.2.2.2.2 = (some (.int p.1), p.2))  {x0 : Int32} {x1 : Int32} {x2 : Int32} {x3 : Int32} {s0 : Int32} {M : Mem} (h : fX1_canWriteNumbers_17  x0 x1 x2 x3 s0 M = some p) : G κ mX1_canWriteNumbers 0 0 17 [(0, .int x0), (1, .int x1), (2, .int x2), (3, .int x3)] [.int s0] M := by
  unfold fX1_canWriteNumbers_17 at h
  refine g_istore (lv' := [(4, .int s0), (0, .int x0), (1, .int x1), (2, .int x2), (3, .int x3)]) (pc' := 19) O dX1_canWriteNumbers_17 (by decide) rfl rfl ?_
  refine g_iload_n (pc' := 20) 2 O dX1_canWriteNumbers_19 rfl rfl rfl ?_
  refine g_bipush (v := 44) (pc' := 22) O dX1_canWriteNumbers_20 (by decide) rfl ?_
  refine g_icmp_eq (tgt := 47) (pc' := 25) O dX1_canWriteNumbers_22 (by decide) rfl (fun hc => ?_) (fun hc => ?_)
  · replace h := ip hc h
    refine g_sub (lv' := [(0, .int x0), (1, .int x1), (2, .int x2), (3, .int x3), (4, .int s0)]) [1, 2, 3, 4, 0] rfl ?_
    exact tX1_canWriteNumbers_47 O hf h
  · replace h := ine hc h
    refine g_iload_n (pc' := 26) 2 O dX1_canWriteNumbers_25 rfl rfl rfl ?_
    refine g_bipush (v := 46) (pc' := 28) O dX1_canWriteNumbers_26 (by decide) rfl ?_
    refine g_icmp_eq (tgt := 47) (pc' := 31) O dX1_canWriteNumbers_28 (by decide) rfl (fun hc => ?_) (fun hc => ?_)
    · replace h := ip hc h
      refine g_sub (lv' := [(0, .int x0), (1, .int x1), (2, .int x2), (3, .int x3), (4, .int s0)]) [1, 2, 3, 4, 0] rfl ?_
      exact tX1_canWriteNumbers_47 O hf h
    · replace h := ine hc h
      refine g_iload_n (pc' := 32) 2 O dX1_canWriteNumbers_31 rfl rfl rfl ?_
      refine g_bipush (v := 32) (pc' := 34) O dX1_canWriteNumbers_32 (by decide) rfl ?_
      refine g_icmp_eq (tgt := 47) (pc' := 37) O dX1_canWriteNumbers_34 (by decide) rfl (fun hc => ?_) (fun hc => ?_)
      · replace h := ip hc h
        refine g_sub (lv' := [(0, .int x0), (1, .int x1), (2, .int x2), (3, .int x3), (4, .int s0)]) [1, 2, 3, 4, 0] rfl ?_
        exact tX1_canWriteNumbers_47 O hf h
      · replace h := ine hc h
        refine g_iload_n (pc' := 38) 2 O dX1_canWriteNumbers_37 rfl rfl rfl ?_
        refine g_bipush (v := 39) (pc' := 40) O dX1_canWriteNumbers_38 (by decide) rfl ?_
        refine g_icmp_eq (tgt := 47) (pc' := 43) O dX1_canWriteNumbers_40 (by decide) rfl (fun hc => ?_) (fun hc => ?_)
        · replace h := ip hc h
          refine g_sub (lv' := [(0, .int x0), (1, .int x1), (2, .int x2), (3, .int x3), (4, .int s0)]) [1, 2, 3, 4, 0] rfl ?_
          exact tX1_canWriteNumbers_47 O hf h
        · replace h := ine hc h
          refine g_iload_n (pc' := 44) 2 O dX1_canWriteNumbers_43 rfl rfl rfl ?_
          refine g_if_ne (tgt := 51) (pc' := 47) O dX1_canWriteNumbers_44 (by decide) rfl (fun hc => ?_) (fun hc => ?_)
          · replace h := ine hc h
            refine g_iconst (v := 0) (pc' := 52) O dX1_canWriteNumbers_51 (by decide) rfl ?_
            refine g_sub (lv' := [(0, .int x0), (1, .int x1), (2, .int x2), (3, .int x3), (4, .int s0)]) [1, 2, 3, 4, 0] rfl ?_
            exact tX1_canWriteNumbers_52 O hf h
          · replace h := ip hc h
            refine g_sub (lv' := [(0, .int x0), (1, .int x1), (2, .int x2), (3, .int x3), (4, .int s0)]) [1, 2, 3, 4, 0] rfl ?_
            exact tX1_canWriteNumbers_47 O hf h
def fX1_canWriteNumbers_12  (x0 : Int32) (x1 : Int32) (x2 : Int32) (x3 : Int32) (M : Mem) : Option (Int32 × Mem) :=
  fX1_canWriteNumbers_17 x0 x1 x2 x3 (1 : Int32) M
set_option maxHeartbeats 4000000 in
set_option maxRecDepth 100000 in
theorem tX1_canWriteNumbers_12 {κ : KT} {p : Int32 × Mem} (O : OkK κ mX1_canWriteNumbers) (hf : κ.2.2.2.2.2.2.2.2.2.2.2.2.2 = (some (.int p.1), p.2))  {x0 : Int32} {x1 : Int32} {x2 : Int32} {x3 : Int32} {M : Mem} (h : fX1_canWriteNumbers_12  x0 x1 x2 x3 M = some p) : G κ mX1_canWriteNumbers 0 0 12 [(0, .int x0), (1, .int x1), (2, .int x2), (3, .int x3)] [] M := by
  unfold fX1_canWriteNumbers_12 at h
  refine g_iconst (v := 1) (pc' := 13) O dX1_canWriteNumbers_12 (by decide) rfl ?_
  refine g_goto (pc' := 17) O dX1_canWriteNumbers_13 (by decide) ?_
  exact tX1_canWriteNumbers_17 O hf h
def fX1_canWriteNumbers  (p0 : Int32) (p1 : Int32) (p2 : Int32) (p3 : Int32) (M : Mem) : Option (Int32 × Mem) :=
  if p0 = (44 : Int32) then (fX1_canWriteNumbers_12 p0 p1 p2 p3 M)
  else (if p0 = (46 : Int32) then (fX1_canWriteNumbers_12 p0 p1 p2 p3 M)
  else (fX1_canWriteNumbers_17 p0 p1 p2 p3 (0 : Int32) M))
set_option maxHeartbeats 4000000 in
set_option maxRecDepth 100000 in
theorem okX1_canWriteNumbers {l : Launch} {p : Int32 × Mem} {p0 : Int32} {p1 : Int32} {p2 : Int32} {p3 : Int32} {M : Mem} (h : fX1_canWriteNumbers p0 p1 p2 p3 M = some p) : Cn l yX1_canWriteNumbers mX1_canWriteNumbers [.int p0, .int p1, .int p2, .int p3] M (some (.int p.1)) p.2 := by
  refine Cn.of [(0, .int p0), (1, .int p1), (2, .int p2), (3, .int p3)] (by decide) rfl rfl (Nat.le_of_ble_eq_true rfl) rfl (fun κ _ hf O => ?_)
  unfold fX1_canWriteNumbers at h
  refine g_iload_n (pc' := 1) 0 O dX1_canWriteNumbers_0 rfl rfl rfl ?_
  refine g_bipush (v := 44) (pc' := 3) O dX1_canWriteNumbers_1 (by decide) rfl ?_
  refine g_icmp_eq (tgt := 12) (pc' := 6) O dX1_canWriteNumbers_3 (by decide) rfl (fun hc => ?_) (fun hc => ?_)
  · replace h := ip hc h
    exact tX1_canWriteNumbers_12 O hf h
  · replace h := ine hc h
    refine g_iload_n (pc' := 7) 0 O dX1_canWriteNumbers_6 rfl rfl rfl ?_
    refine g_bipush (v := 46) (pc' := 9) O dX1_canWriteNumbers_7 (by decide) rfl ?_
    refine g_icmp_ne (tgt := 16) (pc' := 12) O dX1_canWriteNumbers_9 (by decide) rfl (fun hc => ?_) (fun hc => ?_)
    · replace h := ine hc h
      refine g_iconst (v := 0) (pc' := 17) O dX1_canWriteNumbers_16 (by decide) rfl ?_
      exact tX1_canWriteNumbers_17 O hf h
    · replace h := ip hc h
      exact tX1_canWriteNumbers_12 O hf h
abbrev mX1_isCapital : MD := (cX1_isCapital, 1, RX1, (some .boolean), { frames := 0, cells := 0, slots := 0, locals := 0 }, "isCapital")
theorem hyX1_isCapital : yX1_isCapital.cls ≠ "java/lang/invoke/MethodHandle" ∧ yX1_isCapital.cls ≠ "java/lang/invoke/VarHandle" ∧ (parseMethodDescriptor yX1_isCapital.desc).map (fun d => d.parameters.length) = some 1 := by decide +kernel
def fX1_isCapital_17  (s0 : Int32) (M : Mem) : Option (Int32 × Mem) :=
  (nz s0).bind fun z1 =>
  some (z1, M)
set_option maxHeartbeats 4000000 in
set_option maxRecDepth 100000 in
theorem tX1_isCapital_17 {κ : KT} {p : Int32 × Mem} (O : OkK κ mX1_isCapital) (hf : κ.2.2.2.2.2.2.2.2.2.2.2.2.2 = (some (.int p.1), p.2))  {s0 : Int32} {M : Mem} (h : fX1_isCapital_17  s0 M = some p) : G κ mX1_isCapital 0 0 17 [] [.int s0] M := by
  unfold fX1_isCapital_17 at h
  replace h := ob h; obtain ⟨z1, ez1, h⟩ := h
  obtain ⟨hz1, ez1b⟩ := nz_spec ez1
  rw [ez1b] at h
  cases h
  exact g_ireturn O dX1_isCapital_17 rfl (nz_nar hz1) hf (by decide) (by decide)
def fX1_isCapital_16  (M : Mem) : Option (Int32 × Mem) :=
  fX1_isCapital_17 (0 : Int32) M
set_option maxHeartbeats 4000000 in
set_option maxRecDepth 100000 in
theorem tX1_isCapital_16 {κ : KT} {p : Int32 × Mem} (O : OkK κ mX1_isCapital) (hf : κ.2.2.2.2.2.2.2.2.2.2.2.2.2 = (some (.int p.1), p.2))  {M : Mem} (h : fX1_isCapital_16  M = some p) : G κ mX1_isCapital 0 0 16 [] [] M := by
  unfold fX1_isCapital_16 at h
  refine g_iconst (v := 0) (pc' := 17) O dX1_isCapital_16 (by decide) rfl ?_
  exact tX1_isCapital_17 O hf h
def fX1_isCapital  (p0 : Int32) (M : Mem) : Option (Int32 × Mem) :=
  if p0 < (65 : Int32) then (fX1_isCapital_16 M)
  else (if (90 : Int32) < p0 then (fX1_isCapital_16 M)
  else (fX1_isCapital_17 (1 : Int32) M))
set_option maxHeartbeats 4000000 in
set_option maxRecDepth 100000 in
theorem okX1_isCapital {l : Launch} {p : Int32 × Mem} {p0 : Int32} {M : Mem} (h : fX1_isCapital p0 M = some p) : Cn l yX1_isCapital mX1_isCapital [.int p0] M (some (.int p.1)) p.2 := by
  refine Cn.of [(0, .int p0)] (by decide) rfl rfl (Nat.le_of_ble_eq_true rfl) rfl (fun κ _ hf O => ?_)
  unfold fX1_isCapital at h
  refine g_iload_n (pc' := 1) 0 O dX1_isCapital_0 rfl rfl rfl ?_
  refine g_bipush (v := 65) (pc' := 3) O dX1_isCapital_1 (by decide) rfl ?_
  refine g_icmp_lt (tgt := 16) (pc' := 6) O dX1_isCapital_3 (by decide) rfl (fun hc => ?_) (fun hc => ?_)
  · replace h := ip hc h
    refine g_sub (lv' := []) [] rfl ?_
    exact tX1_isCapital_16 O hf h
  · replace h := ine hc h
    refine g_iload_n (pc' := 7) 0 O dX1_isCapital_6 rfl rfl rfl ?_
    refine g_bipush (v := 90) (pc' := 9) O dX1_isCapital_7 (by decide) rfl ?_
    refine g_icmp_gt (tgt := 16) (pc' := 12) O dX1_isCapital_9 (by decide) rfl (fun hc => ?_) (fun hc => ?_)
    · replace h := ip hc h
      refine g_sub (lv' := []) [] rfl ?_
      exact tX1_isCapital_16 O hf h
    · replace h := ine hc h
      refine g_iconst (v := 1) (pc' := 13) O dX1_isCapital_12 (by decide) rfl ?_
      refine g_goto (pc' := 17) O dX1_isCapital_13 (by decide) ?_
      refine g_sub (lv' := []) [] rfl ?_
      exact tX1_isCapital_17 O hf h
abbrev mX1_canWriteMoney : MD := (cX1_canWriteMoney, 1, RX1, (some .boolean), { frames := 1, cells := 0, slots := 0, locals := 20 }, "canWriteMoney")
theorem hyX1_canWriteMoney : yX1_canWriteMoney.cls ≠ "java/lang/invoke/MethodHandle" ∧ yX1_canWriteMoney.cls ≠ "java/lang/invoke/VarHandle" ∧ (parseMethodDescriptor yX1_canWriteMoney.desc).map (fun d => d.parameters.length) = some 1 := by decide +kernel
def fX1_canWriteMoney_40  (s0 : Int32) (M : Mem) : Option (Int32 × Mem) :=
  (nz s0).bind fun z1 =>
  some (z1, M)
set_option maxHeartbeats 4000000 in
set_option maxRecDepth 100000 in
theorem tX1_canWriteMoney_40 {κ : KT} {p : Int32 × Mem} (O : OkK κ mX1_canWriteMoney) (hf : κ.2.2.2.2.2.2.2.2.2.2.2.2.2 = (some (.int p.1), p.2))  {s0 : Int32} {M : Mem} (h : fX1_canWriteMoney_40  s0 M = some p) : G κ mX1_canWriteMoney 0 0 40 [] [.int s0] M := by
  unfold fX1_canWriteMoney_40 at h
  replace h := ob h; obtain ⟨z1, ez1, h⟩ := h
  obtain ⟨hz1, ez1b⟩ := nz_spec ez1
  rw [ez1b] at h
  cases h
  exact g_ireturn O dX1_canWriteMoney_40 rfl (nz_nar hz1) hf (by decide) (by decide)
def fX1_canWriteMoney_39  (M : Mem) : Option (Int32 × Mem) :=
  fX1_canWriteMoney_40 (0 : Int32) M
set_option maxHeartbeats 4000000 in
set_option maxRecDepth 100000 in
theorem tX1_canWriteMoney_39 {κ : KT} {p : Int32 × Mem} (O : OkK κ mX1_canWriteMoney) (hf : κ.2.2.2.2.2.2.2.2.2.2.2.2.2 = (some (.int p.1), p.2))  {M : Mem} (h : fX1_canWriteMoney_39  M = some p) : G κ mX1_canWriteMoney 0 0 39 [] [] M := by
  unfold fX1_canWriteMoney_39 at h
  refine g_iconst (v := 0) (pc' := 40) O dX1_canWriteMoney_39 (by decide) rfl ?_
  exact tX1_canWriteMoney_40 O hf h
def fX1_canWriteMoney  (p0 : Int32) (M : Mem) : Option (Int32 × Mem) :=
  (fX1_isCapital (p0 >>> ((16 : Int32) &&& 31)) M).bind fun r1 =>
  if r1.1 = 0 then (fX1_canWriteMoney_39 r1.2)
  else ((fX1_isCapital ((p0 >>> ((8 : Int32) &&& 31)) &&& (255 : Int32)) r1.2).bind fun r2 =>
  if r2.1 = 0 then (fX1_canWriteMoney_39 r2.2)
  else ((fX1_isCapital (p0 &&& (255 : Int32)) r2.2).bind fun r3 =>
  if r3.1 = 0 then (fX1_canWriteMoney_39 r3.2)
  else (fX1_canWriteMoney_40 (1 : Int32) r3.2)))
set_option maxHeartbeats 4000000 in
set_option maxRecDepth 100000 in
theorem okX1_canWriteMoney {l : Launch} {p : Int32 × Mem} {p0 : Int32} {M : Mem} (h : fX1_canWriteMoney p0 M = some p) : Cn l yX1_canWriteMoney mX1_canWriteMoney [.int p0] M (some (.int p.1)) p.2 := by
  refine Cn.of [(0, .int p0)] (by decide) rfl rfl (Nat.le_of_ble_eq_true rfl) rfl (fun κ _ hf O => ?_)
  unfold fX1_canWriteMoney at h
  refine g_iload_n (pc' := 1) 0 O dX1_canWriteMoney_0 rfl rfl rfl ?_
  refine g_bipush (v := 16) (pc' := 3) O dX1_canWriteMoney_1 (by decide) rfl ?_
  refine g_ishr (pc' := 4) O dX1_canWriteMoney_3 rfl ?_
  replace h := ob h; obtain ⟨r1, er1, h⟩ := h
  refine g_callS (y := yX1_isCapital) (ν := mX1_isCapital) (n := 1) (As := [.int (p0 >>> ((16 : Int32) &&& 31))]) (b := 0) (st := []) (M2 := r1.2) (r1 := (some (.int r1.1))) (pc' := 7) O dX1_canWriteMoney_4 tw_202 tw_59 tw_201 tw_200 hyX1_isCapital rfl (okX1_isCapital er1) (Nat.le_of_ble_eq_true rfl) ⟨Nat.le_of_ble_eq_true rfl, Nat.le_of_ble_eq_true rfl⟩ ⟨Nat.le_of_ble_eq_true rfl, Nat.le_of_ble_eq_true rfl⟩ rfl ?_
  show G κ mX1_canWriteMoney 0 0 7 [(0, .int p0)] [.int r1.1] r1.2
  refine g_if_eq (tgt := 39) (pc' := 10) O dX1_canWriteMoney_7 (by decide) rfl (fun hc => ?_) (fun hc => ?_)
  · replace h := ip hc h
    refine g_sub (lv' := []) [] rfl ?_
    exact tX1_canWriteMoney_39 O hf h
  · replace h := ine hc h
    refine g_iload_n (pc' := 11) 0 O dX1_canWriteMoney_10 rfl rfl rfl ?_
    refine g_bipush (v := 8) (pc' := 13) O dX1_canWriteMoney_11 (by decide) rfl ?_
    refine g_ishr (pc' := 14) O dX1_canWriteMoney_13 rfl ?_
    refine g_sipush (v := 255) (pc' := 17) O dX1_canWriteMoney_14 (by decide) rfl ?_
    refine g_iand (pc' := 18) O dX1_canWriteMoney_17 rfl ?_
    replace h := ob h; obtain ⟨r2, er2, h⟩ := h
    refine g_callS (y := yX1_isCapital) (ν := mX1_isCapital) (n := 1) (As := [.int ((p0 >>> ((8 : Int32) &&& 31)) &&& (255 : Int32))]) (b := 0) (st := []) (M2 := r2.2) (r1 := (some (.int r2.1))) (pc' := 21) O dX1_canWriteMoney_18 tw_202 tw_59 tw_201 tw_200 hyX1_isCapital rfl (okX1_isCapital er2) (Nat.le_of_ble_eq_true rfl) ⟨Nat.le_of_ble_eq_true rfl, Nat.le_of_ble_eq_true rfl⟩ ⟨Nat.le_of_ble_eq_true rfl, Nat.le_of_ble_eq_true rfl⟩ rfl ?_
    show G κ mX1_canWriteMoney 0 0 21 [(0, .int p0)] [.int r2.1] r2.2
    refine g_if_eq (tgt := 39) (pc' := 24) O dX1_canWriteMoney_21 (by decide) rfl (fun hc => ?_) (fun hc => ?_)
    · replace h := ip hc h
      refine g_sub (lv' := []) [] rfl ?_
      exact tX1_canWriteMoney_39 O hf h
    · replace h := ine hc h
      refine g_iload_n (pc' := 25) 0 O dX1_canWriteMoney_24 rfl rfl rfl ?_
      refine g_sipush (v := 255) (pc' := 28) O dX1_canWriteMoney_25 (by decide) rfl ?_
      refine g_iand (pc' := 29) O dX1_canWriteMoney_28 rfl ?_
      replace h := ob h; obtain ⟨r3, er3, h⟩ := h
      refine g_callS (y := yX1_isCapital) (ν := mX1_isCapital) (n := 1) (As := [.int (p0 &&& (255 : Int32))]) (b := 0) (st := []) (M2 := r3.2) (r1 := (some (.int r3.1))) (pc' := 32) O dX1_canWriteMoney_29 tw_202 tw_59 tw_201 tw_200 hyX1_isCapital rfl (okX1_isCapital er3) (Nat.le_of_ble_eq_true rfl) ⟨Nat.le_of_ble_eq_true rfl, Nat.le_of_ble_eq_true rfl⟩ ⟨Nat.le_of_ble_eq_true rfl, Nat.le_of_ble_eq_true rfl⟩ rfl ?_
      show G κ mX1_canWriteMoney 0 0 32 [(0, .int p0)] [.int r3.1] r3.2
      refine g_if_eq (tgt := 39) (pc' := 35) O dX1_canWriteMoney_32 (by decide) rfl (fun hc => ?_) (fun hc => ?_)
      · replace h := ip hc h
        refine g_sub (lv' := []) [] rfl ?_
        exact tX1_canWriteMoney_39 O hf h
      · replace h := ine hc h
        refine g_iconst (v := 1) (pc' := 36) O dX1_canWriteMoney_35 (by decide) rfl ?_
        refine g_goto (pc' := 40) O dX1_canWriteMoney_36 (by decide) ?_
        refine g_sub (lv' := []) [] rfl ?_
        exact tX1_canWriteMoney_40 O hf h
abbrev mX1_canWriteDays : MD := (cX1_canWriteDays, 2, RX1, (some .boolean), { frames := 0, cells := 0, slots := 0, locals := 0 }, "canWriteDays")
theorem hyX1_canWriteDays : yX1_canWriteDays.cls ≠ "java/lang/invoke/MethodHandle" ∧ yX1_canWriteDays.cls ≠ "java/lang/invoke/VarHandle" ∧ (parseMethodDescriptor yX1_canWriteDays.desc).map (fun d => d.parameters.length) = some 2 := by decide +kernel
def fX1_canWriteDays_32  (s0 : Int32) (M : Mem) : Option (Int32 × Mem) :=
  (nz s0).bind fun z1 =>
  some (z1, M)
set_option maxHeartbeats 4000000 in
set_option maxRecDepth 100000 in
theorem tX1_canWriteDays_32 {κ : KT} {p : Int32 × Mem} (O : OkK κ mX1_canWriteDays) (hf : κ.2.2.2.2.2.2.2.2.2.2.2.2.2 = (some (.int p.1), p.2))  {s0 : Int32} {M : Mem} (h : fX1_canWriteDays_32  s0 M = some p) : G κ mX1_canWriteDays 0 0 32 [] [.int s0] M := by
  unfold fX1_canWriteDays_32 at h
  replace h := ob h; obtain ⟨z1, ez1, h⟩ := h
  obtain ⟨hz1, ez1b⟩ := nz_spec ez1
  rw [ez1b] at h
  cases h
  exact g_ireturn O dX1_canWriteDays_32 rfl (nz_nar hz1) hf (by decide) (by decide)
def fX1_canWriteDays_31  (M : Mem) : Option (Int32 × Mem) :=
  fX1_canWriteDays_32 (0 : Int32) M
set_option maxHeartbeats 4000000 in
set_option maxRecDepth 100000 in
theorem tX1_canWriteDays_31 {κ : KT} {p : Int32 × Mem} (O : OkK κ mX1_canWriteDays) (hf : κ.2.2.2.2.2.2.2.2.2.2.2.2.2 = (some (.int p.1), p.2))  {M : Mem} (h : fX1_canWriteDays_31  M = some p) : G κ mX1_canWriteDays 0 0 31 [] [] M := by
  unfold fX1_canWriteDays_31 at h
  refine g_iconst (v := 0) (pc' := 32) O dX1_canWriteDays_31 (by decide) rfl ?_
  exact tX1_canWriteDays_32 O hf h
def fX1_canWriteDays_27  (M : Mem) : Option (Int32 × Mem) :=
  fX1_canWriteDays_32 (1 : Int32) M
set_option maxHeartbeats 4000000 in
set_option maxRecDepth 100000 in
theorem tX1_canWriteDays_27 {κ : KT} {p : Int32 × Mem} (O : OkK κ mX1_canWriteDays) (hf : κ.2.2.2.2.2.2.2.2.2.2.2.2.2 = (some (.int p.1), p.2))  {M : Mem} (h : fX1_canWriteDays_27  M = some p) : G κ mX1_canWriteDays 0 0 27 [] [] M := by
  unfold fX1_canWriteDays_27 at h
  refine g_iconst (v := 1) (pc' := 28) O dX1_canWriteDays_27 (by decide) rfl ?_
  refine g_goto (pc' := 32) O dX1_canWriteDays_28 (by decide) ?_
  exact tX1_canWriteDays_32 O hf h
def fX1_canWriteDays  (p0 : Int32) (p1 : Int32) (M : Mem) : Option (Int32 × Mem) :=
  if p0 < 0 then (fX1_canWriteDays_31 M)
  else (if (2 : Int32) < p0 then (fX1_canWriteDays_31 M)
  else (if p1 = (47 : Int32) then (fX1_canWriteDays_27 M)
  else (if p1 = (46 : Int32) then (fX1_canWriteDays_27 M)
  else (if p1 = (45 : Int32) then (fX1_canWriteDays_27 M)
  else (fX1_canWriteDays_31 M)))))
set_option maxHeartbeats 4000000 in
set_option maxRecDepth 100000 in
theorem okX1_canWriteDays {l : Launch} {p : Int32 × Mem} {p0 : Int32} {p1 : Int32} {M : Mem} (h : fX1_canWriteDays p0 p1 M = some p) : Cn l yX1_canWriteDays mX1_canWriteDays [.int p0, .int p1] M (some (.int p.1)) p.2 := by
  refine Cn.of [(0, .int p0), (1, .int p1)] (by decide) rfl rfl (Nat.le_of_ble_eq_true rfl) rfl (fun κ _ hf O => ?_)
  unfold fX1_canWriteDays at h
  refine g_iload_n (pc' := 1) 0 O dX1_canWriteDays_0 rfl rfl rfl ?_
  refine g_if_lt (tgt := 31) (pc' := 4) O dX1_canWriteDays_1 (by decide) rfl (fun hc => ?_) (fun hc => ?_)
  · replace h := ip hc h
    refine g_sub (lv' := []) [] rfl ?_
    exact tX1_canWriteDays_31 O hf h
  · replace h := ine hc h
    refine g_iload_n (pc' := 5) 0 O dX1_canWriteDays_4 rfl rfl rfl ?_
    refine g_iconst (v := 2) (pc' := 6) O dX1_canWriteDays_5 (by decide) rfl ?_
    refine g_icmp_gt (tgt := 31) (pc' := 9) O dX1_canWriteDays_6 (by decide) rfl (fun hc => ?_) (fun hc => ?_)
    · replace h := ip hc h
      refine g_sub (lv' := []) [] rfl ?_
      exact tX1_canWriteDays_31 O hf h
    · replace h := ine hc h
      refine g_iload_n (pc' := 10) 1 O dX1_canWriteDays_9 rfl rfl rfl ?_
      refine g_bipush (v := 47) (pc' := 12) O dX1_canWriteDays_10 (by decide) rfl ?_
      refine g_icmp_eq (tgt := 27) (pc' := 15) O dX1_canWriteDays_12 (by decide) rfl (fun hc => ?_) (fun hc => ?_)
      · replace h := ip hc h
        refine g_sub (lv' := []) [] rfl ?_
        exact tX1_canWriteDays_27 O hf h
      · replace h := ine hc h
        refine g_iload_n (pc' := 16) 1 O dX1_canWriteDays_15 rfl rfl rfl ?_
        refine g_bipush (v := 46) (pc' := 18) O dX1_canWriteDays_16 (by decide) rfl ?_
        refine g_icmp_eq (tgt := 27) (pc' := 21) O dX1_canWriteDays_18 (by decide) rfl (fun hc => ?_) (fun hc => ?_)
        · replace h := ip hc h
          refine g_sub (lv' := []) [] rfl ?_
          exact tX1_canWriteDays_27 O hf h
        · replace h := ine hc h
          refine g_iload_n (pc' := 22) 1 O dX1_canWriteDays_21 rfl rfl rfl ?_
          refine g_bipush (v := 45) (pc' := 24) O dX1_canWriteDays_22 (by decide) rfl ?_
          refine g_icmp_ne (tgt := 31) (pc' := 27) O dX1_canWriteDays_24 (by decide) rfl (fun hc => ?_) (fun hc => ?_)
          · replace h := ine hc h
            refine g_sub (lv' := []) [] rfl ?_
            exact tX1_canWriteDays_31 O hf h
          · replace h := ip hc h
            refine g_sub (lv' := []) [] rfl ?_
            exact tX1_canWriteDays_27 O hf h
abbrev mX7_byteOf : MD := (cX7_byteOf, 2, RX7, (some .int), { frames := 0, cells := 0, slots := 0, locals := 0 }, "byteOf")
theorem hyX7_byteOf : yX7_byteOf.cls ≠ "java/lang/invoke/MethodHandle" ∧ yX7_byteOf.cls ≠ "java/lang/invoke/VarHandle" ∧ (parseMethodDescriptor yX7_byteOf.desc).map (fun d => d.parameters.length) = some 2 := by decide +kernel
def fX7_byteOf  (p0 : Int32) (p1 : Int32) (M : Mem) : Option (Int32 × Mem) :=
  some ((((p0.toUInt32 >>> (((24 : Int32) - ((8 : Int32) * p1)).toUInt32 &&& Int32.toUInt32 31)).toInt32) &&& (255 : Int32)), M)
set_option maxHeartbeats 4000000 in
set_option maxRecDepth 100000 in
theorem okX7_byteOf {l : Launch} {p : Int32 × Mem} {p0 : Int32} {p1 : Int32} {M : Mem} (h : fX7_byteOf p0 p1 M = some p) : Cn l yX7_byteOf mX7_byteOf [.int p0, .int p1] M (some (.int p.1)) p.2 := by
  refine Cn.of [(0, .int p0), (1, .int p1)] (by decide) rfl rfl (Nat.le_of_ble_eq_true rfl) rfl (fun κ _ hf O => ?_)
  unfold fX7_byteOf at h
  refine g_iload_n (pc' := 1) 0 O dX7_byteOf_0 rfl rfl rfl ?_
  refine g_bipush (v := 24) (pc' := 3) O dX7_byteOf_1 (by decide) rfl ?_
  refine g_bipush (v := 8) (pc' := 5) O dX7_byteOf_3 (by decide) rfl ?_
  refine g_iload_n (pc' := 6) 1 O dX7_byteOf_5 rfl rfl rfl ?_
  refine g_imul (pc' := 7) O dX7_byteOf_6 rfl ?_
  refine g_isub (pc' := 8) O dX7_byteOf_7 rfl ?_
  refine g_iushr (pc' := 9) O dX7_byteOf_8 rfl ?_
  refine g_sipush (v := 255) (pc' := 12) O dX7_byteOf_9 (by decide) rfl ?_
  refine g_iand (pc' := 13) O dX7_byteOf_12 rfl ?_
  cases h
  exact g_ireturn O dX7_byteOf_13 rfl rfl hf (by decide) (by decide)
abbrev mX1_markByte : MD := (cX1_markByte, 2, RX1, (some .int), { frames := 1, cells := 0, slots := 0, locals := 21 }, "markByte")
theorem hyX1_markByte : yX1_markByte.cls ≠ "java/lang/invoke/MethodHandle" ∧ yX1_markByte.cls ≠ "java/lang/invoke/VarHandle" ∧ (parseMethodDescriptor yX1_markByte.desc).map (fun d => d.parameters.length) = some 1 := by decide +kernel
def fX1_markByte  (this : Nat) (p0 : Int32) (M : Mem) : Option (Int32 × Mem) :=
  (gI M 0 this 4).bind fun v1 =>
  (fX7_byteOf v1 (p0 + (1 : Int32)) M).bind fun r2 =>
  some (r2.1, r2.2)
set_option maxHeartbeats 4000000 in
set_option maxRecDepth 100000 in
theorem okX1_markByte {l : Launch} {p : Int32 × Mem} {this : Nat} {p0 : Int32} {M : Mem} (h : fX1_markByte this p0 M = some p) : Cn l yX1_markByte mX1_markByte [.ref this, .int p0] M (some (.int p.1)) p.2 := by
  refine Cn.of [(0, .ref this), (1, .int p0)] (by decide) rfl rfl (Nat.le_of_ble_eq_true rfl) rfl (fun κ _ hf O => ?_)
  unfold fX1_markByte at h
  refine g_aload_n (pc' := 1) 0 O dX1_markByte_0 rfl rfl rfl ?_
  replace h := ob h; obtain ⟨v1, ev1, h⟩ := h
  refine g_getF (C := RX1) (T := TX1) (N := 8) (ci := 0) (k := 4) (pc' := 4) O dX1_markByte_1 rfl inX1 (by decide) tw_222 (gI_F ev1) rfl ?_
  refine g_iload_n (pc' := 5) 1 O dX1_markByte_4 rfl rfl rfl ?_
  refine g_iconst (v := 1) (pc' := 6) O dX1_markByte_5 (by decide) rfl ?_
  refine g_iadd (pc' := 7) O dX1_markByte_6 rfl ?_
  replace h := ob h; obtain ⟨r2, er2, h⟩ := h
  refine g_callSN (y := yX7_byteOf) (ν := mX7_byteOf) (n := 2) (As := [.int v1, .int (p0 + (1 : Int32))]) (b := 0) (st := []) (M2 := r2.2) (r1 := (some (.int r2.1))) (pc' := 10) O dX1_markByte_7 tw_271 tw_53 tw_270 (by decide) hyX7_byteOf rfl (okX7_byteOf er2) (Nat.le_of_ble_eq_true rfl) ⟨Nat.le_of_ble_eq_true rfl, Nat.le_of_ble_eq_true rfl⟩ ⟨Nat.le_of_ble_eq_true rfl, Nat.le_of_ble_eq_true rfl⟩ rfl ?_
  show G κ mX1_markByte 0 0 10 [(0, .ref this), (1, .int p0)] [.int r2.1] r2.2
  cases h
  exact g_ireturn O dX1_markByte_10 rfl rfl hf (by decide) (by decide)
abbrev mX1_signOfDays : MD := (cX1_signOfDays, 1, RX1, (some .int), { frames := 0, cells := 0, slots := 0, locals := 0 }, "signOfDays")
theorem hyX1_signOfDays : yX1_signOfDays.cls ≠ "java/lang/invoke/MethodHandle" ∧ yX1_signOfDays.cls ≠ "java/lang/invoke/VarHandle" ∧ (parseMethodDescriptor yX1_signOfDays.desc).map (fun d => d.parameters.length) = some 0 := by decide +kernel
def fX1_signOfDays  (this : Nat) (M : Mem) : Option (Int32 × Mem) :=
  (gI M 0 this 7).bind fun v1 =>
  some (v1, M)
set_option maxHeartbeats 4000000 in
set_option maxRecDepth 100000 in
theorem okX1_signOfDays {l : Launch} {p : Int32 × Mem} {this : Nat} {M : Mem} (h : fX1_signOfDays this M = some p) : Cn l yX1_signOfDays mX1_signOfDays [.ref this] M (some (.int p.1)) p.2 := by
  refine Cn.of [(0, .ref this)] (by decide) rfl rfl (Nat.le_of_ble_eq_true rfl) rfl (fun κ _ hf O => ?_)
  unfold fX1_signOfDays at h
  refine g_aload_n (pc' := 1) 0 O dX1_signOfDays_0 rfl rfl rfl ?_
  replace h := ob h; obtain ⟨v1, ev1, h⟩ := h
  refine g_getF (C := RX1) (T := TX1) (N := 8) (ci := 0) (k := 7) (pc' := 4) O dX1_signOfDays_1 rfl inX1 (by decide) tw_227 (gI_F ev1) rfl ?_
  cases h
  exact g_ireturn O dX1_signOfDays_4 rfl rfl hf (by decide) (by decide)
abbrev mX1_partAt : MD := (cX1_partAt, 2, RX1, (some .int), { frames := 0, cells := 0, slots := 0, locals := 0 }, "partAt")
theorem hyX1_partAt : yX1_partAt.cls ≠ "java/lang/invoke/MethodHandle" ∧ yX1_partAt.cls ≠ "java/lang/invoke/VarHandle" ∧ (parseMethodDescriptor yX1_partAt.desc).map (fun d => d.parameters.length) = some 1 := by decide +kernel
def fX1_partAt_32  (s0 : Int32) (M : Mem) : Option (Int32 × Mem) :=
  some (s0, M)
set_option maxHeartbeats 4000000 in
set_option maxRecDepth 100000 in
theorem tX1_partAt_32 {κ : KT} {p : Int32 × Mem} (O : OkK κ mX1_partAt) (hf : κ.2.2.2.2.2.2.2.2.2.2.2.2.2 = (some (.int p.1), p.2))  {s0 : Int32} {M : Mem} (h : fX1_partAt_32  s0 M = some p) : G κ mX1_partAt 0 0 32 [] [.int s0] M := by
  unfold fX1_partAt_32 at h
  cases h
  exact g_ireturn O dX1_partAt_32 rfl rfl hf (by decide) (by decide)
def fX1_partAt_31  (x1 : Int32) (M : Mem) : Option (Int32 × Mem) :=
  fX1_partAt_32 x1 M
set_option maxHeartbeats 4000000 in
set_option maxRecDepth 100000 in
theorem tX1_partAt_31 {κ : KT} {p : Int32 × Mem} (O : OkK κ mX1_partAt) (hf : κ.2.2.2.2.2.2.2.2.2.2.2.2.2 = (some (.int p.1), p.2))  {x1 : Int32} {M : Mem} (h : fX1_partAt_31  x1 M = some p) : G κ mX1_partAt 0 0 31 [(1, .int x1)] [] M := by
  unfold fX1_partAt_31 at h
  refine g_iload_n (pc' := 32) 0 O dX1_partAt_31 rfl rfl rfl ?_
  refine g_sub (lv' := []) [] rfl ?_
  exact tX1_partAt_32 O hf h
def fX1_partAt  (this : Nat) (p0 : Int32) (M : Mem) : Option (Int32 × Mem) :=
  (gI M 0 this 6).bind fun v1 =>
  if v1 = (2 : Int32) then (some (((2 : Int32) - p0), M))
  else ((gI M 0 this 6).bind fun v2 =>
  if v2 = (1 : Int32) then (if (2 : Int32) ≤ p0 then (fX1_partAt_31 p0 M)
  else (fX1_partAt_32 ((1 : Int32) - p0) M))
  else (fX1_partAt_31 p0 M))
set_option maxHeartbeats 4000000 in
set_option maxRecDepth 100000 in
theorem okX1_partAt {l : Launch} {p : Int32 × Mem} {this : Nat} {p0 : Int32} {M : Mem} (h : fX1_partAt this p0 M = some p) : Cn l yX1_partAt mX1_partAt [.ref this, .int p0] M (some (.int p.1)) p.2 := by
  refine Cn.of [(0, .ref this), (1, .int p0)] (by decide) rfl rfl (Nat.le_of_ble_eq_true rfl) rfl (fun κ _ hf O => ?_)
  unfold fX1_partAt at h
  refine g_aload_n (pc' := 1) 0 O dX1_partAt_0 rfl rfl rfl ?_
  replace h := ob h; obtain ⟨v1, ev1, h⟩ := h
  refine g_getF (C := RX1) (T := TX1) (N := 8) (ci := 0) (k := 6) (pc' := 4) O dX1_partAt_1 rfl inX1 (by decide) tw_226 (gI_F ev1) rfl ?_
  refine g_iconst (v := 2) (pc' := 5) O dX1_partAt_4 (by decide) rfl ?_
  refine g_icmp_ne (tgt := 12) (pc' := 8) O dX1_partAt_5 (by decide) rfl (fun hc => ?_) (fun hc => ?_)
  · replace h := ine hc h
    refine g_aload_n (pc' := 13) 0 O dX1_partAt_12 rfl rfl rfl ?_
    replace h := ob h; obtain ⟨v2, ev2, h⟩ := h
    refine g_getF (C := RX1) (T := TX1) (N := 8) (ci := 0) (k := 6) (pc' := 16) O dX1_partAt_13 rfl inX1 (by decide) tw_226 (gI_F ev2) rfl ?_
    refine g_iconst (v := 1) (pc' := 17) O dX1_partAt_16 (by decide) rfl ?_
    refine g_icmp_ne (tgt := 31) (pc' := 20) O dX1_partAt_17 (by decide) rfl (fun hc => ?_) (fun hc => ?_)
    · replace h := ine hc h
      refine g_sub (lv' := [(1, .int p0)]) [1] rfl ?_
      exact tX1_partAt_31 O hf h
    · replace h := ip hc h
      refine g_iload_n (pc' := 21) 1 O dX1_partAt_20 rfl rfl rfl ?_
      refine g_iconst (v := 2) (pc' := 22) O dX1_partAt_21 (by decide) rfl ?_
      refine g_icmp_ge (tgt := 31) (pc' := 25) O dX1_partAt_22 (by decide) rfl (fun hc => ?_) (fun hc => ?_)
      · replace h := ip hc h
        refine g_sub (lv' := [(1, .int p0)]) [1] rfl ?_
        exact tX1_partAt_31 O hf h
      · replace h := ine hc h
        refine g_iconst (v := 1) (pc' := 26) O dX1_partAt_25 (by decide) rfl ?_
        refine g_iload_n (pc' := 27) 1 O dX1_partAt_26 rfl rfl rfl ?_
        refine g_isub (pc' := 28) O dX1_partAt_27 rfl ?_
        refine g_goto (pc' := 32) O dX1_partAt_28 (by decide) ?_
        refine g_sub (lv' := []) [] rfl ?_
        exact tX1_partAt_32 O hf h
  · replace h := ip hc h
    refine g_iconst (v := 2) (pc' := 9) O dX1_partAt_8 (by decide) rfl ?_
    refine g_iload_n (pc' := 10) 1 O dX1_partAt_9 rfl rfl rfl ?_
    refine g_isub (pc' := 11) O dX1_partAt_10 rfl ?_
    cases h
    exact g_ireturn O dX1_partAt_11 rfl rfl hf (by decide) (by decide)
abbrev mX1_minusAhead : MD := (cX1_minusAhead, 1, RX1, (some .int), { frames := 0, cells := 0, slots := 0, locals := 0 }, "minusAhead")
theorem hyX1_minusAhead : yX1_minusAhead.cls ≠ "java/lang/invoke/MethodHandle" ∧ yX1_minusAhead.cls ≠ "java/lang/invoke/VarHandle" ∧ (parseMethodDescriptor yX1_minusAhead.desc).map (fun d => d.parameters.length) = some 0 := by decide +kernel
def fX1_minusAhead_25  (s0 : Int32) (M : Mem) : Option (Int32 × Mem) :=
  some (s0, M)
set_option maxHeartbeats 4000000 in
set_option maxRecDepth 100000 in
theorem tX1_minusAhead_25 {κ : KT} {p : Int32 × Mem} (O : OkK κ mX1_minusAhead) (hf : κ.2.2.2.2.2.2.2.2.2.2.2.2.2 = (some (.int p.1), p.2))  {s0 : Int32} {M : Mem} (h : fX1_minusAhead_25  s0 M = some p) : G κ mX1_minusAhead 0 0 25 [] [.int s0] M := by
  unfold fX1_minusAhead_25 at h
  cases h
  exact g_ireturn O dX1_minusAhead_25 rfl rfl hf (by decide) (by decide)
def fX1_minusAhead  (this : Nat) (M : Mem) : Option (Int32 × Mem) :=
  (gI M 0 this 3).bind fun v1 =>
  if v1 = (1 : Int32) then (some ((-1 : Int32), M))
  else ((gI M 0 this 3).bind fun v2 =>
  if v2 = (2 : Int32) then (fX1_minusAhead_25 (40 : Int32) M)
  else (fX1_minusAhead_25 (45 : Int32) M))
set_option maxHeartbeats 4000000 in
set_option maxRecDepth 100000 in
theorem okX1_minusAhead {l : Launch} {p : Int32 × Mem} {this : Nat} {M : Mem} (h : fX1_minusAhead this M = some p) : Cn l yX1_minusAhead mX1_minusAhead [.ref this] M (some (.int p.1)) p.2 := by
  refine Cn.of [(0, .ref this)] (by decide) rfl rfl (Nat.le_of_ble_eq_true rfl) rfl (fun κ _ hf O => ?_)
  unfold fX1_minusAhead at h
  refine g_aload_n (pc' := 1) 0 O dX1_minusAhead_0 rfl rfl rfl ?_
  replace h := ob h; obtain ⟨v1, ev1, h⟩ := h
  refine g_getF (C := RX1) (T := TX1) (N := 8) (ci := 0) (k := 3) (pc' := 4) O dX1_minusAhead_1 rfl inX1 (by decide) tw_220 (gI_F ev1) rfl ?_
  refine g_iconst (v := 1) (pc' := 5) O dX1_minusAhead_4 (by decide) rfl ?_
  refine g_icmp_ne (tgt := 10) (pc' := 8) O dX1_minusAhead_5 (by decide) rfl (fun hc => ?_) (fun hc => ?_)
  · replace h := ine hc h
    refine g_aload_n (pc' := 11) 0 O dX1_minusAhead_10 rfl rfl rfl ?_
    replace h := ob h; obtain ⟨v2, ev2, h⟩ := h
    refine g_getF (C := RX1) (T := TX1) (N := 8) (ci := 0) (k := 3) (pc' := 14) O dX1_minusAhead_11 rfl inX1 (by decide) tw_220 (gI_F ev2) rfl ?_
    refine g_iconst (v := 2) (pc' := 15) O dX1_minusAhead_14 (by decide) rfl ?_
    refine g_icmp_ne (tgt := 23) (pc' := 18) O dX1_minusAhead_15 (by decide) rfl (fun hc => ?_) (fun hc => ?_)
    · replace h := ine hc h
      refine g_bipush (v := 45) (pc' := 25) O dX1_minusAhead_23 (by decide) rfl ?_
      refine g_sub (lv' := []) [] rfl ?_
      exact tX1_minusAhead_25 O hf h
    · replace h := ip hc h
      refine g_bipush (v := 40) (pc' := 20) O dX1_minusAhead_18 (by decide) rfl ?_
      refine g_goto (pc' := 25) O dX1_minusAhead_20 (by decide) ?_
      refine g_sub (lv' := []) [] rfl ?_
      exact tX1_minusAhead_25 O hf h
  · replace h := ip hc h
    refine g_iconst (v := -1) (pc' := 9) O dX1_minusAhead_8 (by decide) rfl ?_
    cases h
    exact g_ireturn O dX1_minusAhead_9 rfl rfl hf (by decide) (by decide)
abbrev mX1_minusBehind : MD := (cX1_minusBehind, 1, RX1, (some .int), { frames := 0, cells := 0, slots := 0, locals := 0 }, "minusBehind")
theorem hyX1_minusBehind : yX1_minusBehind.cls ≠ "java/lang/invoke/MethodHandle" ∧ yX1_minusBehind.cls ≠ "java/lang/invoke/VarHandle" ∧ (parseMethodDescriptor yX1_minusBehind.desc).map (fun d => d.parameters.length) = some 0 := by decide +kernel
def fX1_minusBehind_24  (s0 : Int32) (M : Mem) : Option (Int32 × Mem) :=
  some (s0, M)
set_option maxHeartbeats 4000000 in
set_option maxRecDepth 100000 in
theorem tX1_minusBehind_24 {κ : KT} {p : Int32 × Mem} (O : OkK κ mX1_minusBehind) (hf : κ.2.2.2.2.2.2.2.2.2.2.2.2.2 = (some (.int p.1), p.2))  {s0 : Int32} {M : Mem} (h : fX1_minusBehind_24  s0 M = some p) : G κ mX1_minusBehind 0 0 24 [] [.int s0] M := by
  unfold fX1_minusBehind_24 at h
  cases h
  exact g_ireturn O dX1_minusBehind_24 rfl rfl hf (by decide) (by decide)
def fX1_minusBehind  (this : Nat) (M : Mem) : Option (Int32 × Mem) :=
  (gI M 0 this 3).bind fun v1 =>
  if v1 = 0 then (some ((-1 : Int32), M))
  else ((gI M 0 this 3).bind fun v2 =>
  if v2 = (2 : Int32) then (fX1_minusBehind_24 (41 : Int32) M)
  else (fX1_minusBehind_24 (45 : Int32) M))
set_option maxHeartbeats 4000000 in
set_option maxRecDepth 100000 in
theorem okX1_minusBehind {l : Launch} {p : Int32 × Mem} {this : Nat} {M : Mem} (h : fX1_minusBehind this M = some p) : Cn l yX1_minusBehind mX1_minusBehind [.ref this] M (some (.int p.1)) p.2 := by
  refine Cn.of [(0, .ref this)] (by decide) rfl rfl (Nat.le_of_ble_eq_true rfl) rfl (fun κ _ hf O => ?_)
  unfold fX1_minusBehind at h
  refine g_aload_n (pc' := 1) 0 O dX1_minusBehind_0 rfl rfl rfl ?_
  replace h := ob h; obtain ⟨v1, ev1, h⟩ := h
  refine g_getF (C := RX1) (T := TX1) (N := 8) (ci := 0) (k := 3) (pc' := 4) O dX1_minusBehind_1 rfl inX1 (by decide) tw_220 (gI_F ev1) rfl ?_
  refine g_if_ne (tgt := 9) (pc' := 7) O dX1_minusBehind_4 (by decide) rfl (fun hc => ?_) (fun hc => ?_)
  · replace h := ine hc h
    refine g_aload_n (pc' := 10) 0 O dX1_minusBehind_9 rfl rfl rfl ?_
    replace h := ob h; obtain ⟨v2, ev2, h⟩ := h
    refine g_getF (C := RX1) (T := TX1) (N := 8) (ci := 0) (k := 3) (pc' := 13) O dX1_minusBehind_10 rfl inX1 (by decide) tw_220 (gI_F ev2) rfl ?_
    refine g_iconst (v := 2) (pc' := 14) O dX1_minusBehind_13 (by decide) rfl ?_
    refine g_icmp_ne (tgt := 22) (pc' := 17) O dX1_minusBehind_14 (by decide) rfl (fun hc => ?_) (fun hc => ?_)
    · replace h := ine hc h
      refine g_bipush (v := 45) (pc' := 24) O dX1_minusBehind_22 (by decide) rfl ?_
      refine g_sub (lv' := []) [] rfl ?_
      exact tX1_minusBehind_24 O hf h
    · replace h := ip hc h
      refine g_bipush (v := 41) (pc' := 19) O dX1_minusBehind_17 (by decide) rfl ?_
      refine g_goto (pc' := 24) O dX1_minusBehind_19 (by decide) ?_
      refine g_sub (lv' := []) [] rfl ?_
      exact tX1_minusBehind_24 O hf h
  · replace h := ip hc h
    refine g_iconst (v := -1) (pc' := 8) O dX1_minusBehind_7 (by decide) rfl ?_
    cases h
    exact g_ireturn O dX1_minusBehind_8 rfl rfl hf (by decide) (by decide)
abbrev mX1_groupsAhead : MD := (cX1_groupsAhead, 2, RX1, (some .boolean), { frames := 0, cells := 0, slots := 0, locals := 0 }, "groupsAhead")
theorem hyX1_groupsAhead : yX1_groupsAhead.cls ≠ "java/lang/invoke/MethodHandle" ∧ yX1_groupsAhead.cls ≠ "java/lang/invoke/VarHandle" ∧ (parseMethodDescriptor yX1_groupsAhead.desc).map (fun d => d.parameters.length) = some 1 := by decide +kernel
def fX1_groupsAhead_47  (s0 : Int32) (M : Mem) : Option (Int32 × Mem) :=
  (nz s0).bind fun z1 =>
  some (z1, M)
set_option maxHeartbeats 4000000 in
set_option maxRecDepth 100000 in
theorem tX1_groupsAhead_47 {κ : KT} {p : Int32 × Mem} (O : OkK κ mX1_groupsAhead) (hf : κ.2.2.2.2.2.2.2.2.2.2.2.2.2 = (some (.int p.1), p.2))  {s0 : Int32} {M : Mem} (h : fX1_groupsAhead_47  s0 M = some p) : G κ mX1_groupsAhead 0 0 47 [] [.int s0] M := by
  unfold fX1_groupsAhead_47 at h
  replace h := ob h; obtain ⟨z1, ez1, h⟩ := h
  obtain ⟨hz1, ez1b⟩ := nz_spec ez1
  rw [ez1b] at h
  cases h
  exact g_ireturn O dX1_groupsAhead_47 rfl (nz_nar hz1) hf (by decide) (by decide)
def fX1_groupsAhead_12  (M : Mem) : Option (Int32 × Mem) :=
  (nz (0 : Int32)).bind fun z1 =>
  some (z1, M)
set_option maxHeartbeats 4000000 in
set_option maxRecDepth 100000 in
theorem tX1_groupsAhead_12 {κ : KT} {p : Int32 × Mem} (O : OkK κ mX1_groupsAhead) (hf : κ.2.2.2.2.2.2.2.2.2.2.2.2.2 = (some (.int p.1), p.2))  {M : Mem} (h : fX1_groupsAhead_12  M = some p) : G κ mX1_groupsAhead 0 0 12 [] [] M := by
  unfold fX1_groupsAhead_12 at h
  refine g_iconst (v := 0) (pc' := 13) O dX1_groupsAhead_12 (by decide) rfl ?_
  replace h := ob h; obtain ⟨z1, ez1, h⟩ := h
  obtain ⟨hz1, ez1b⟩ := nz_spec ez1
  rw [ez1b] at h
  cases h
  exact g_ireturn O dX1_groupsAhead_13 rfl (nz_nar hz1) hf (by decide) (by decide)
def fX1_groupsAhead  (this : Nat) (p0 : Int32) (M : Mem) : Option (Int32 × Mem) :=
  (gI M 0 this 1).bind fun v1 =>
  if v1 = 0 then (fX1_groupsAhead_12 M)
  else (if (3 : Int32) ≤ p0 then ((gI M 0 this 2).bind fun v2 =>
  if v2 = 0 then (if (rmI p0 (3 : Int32)) = 0 then (fX1_groupsAhead_47 (1 : Int32) M)
  else (fX1_groupsAhead_47 (0 : Int32) M))
  else (if (rmI p0 (2 : Int32)) = (1 : Int32) then (fX1_groupsAhead_47 (1 : Int32) M)
  else (fX1_groupsAhead_47 (0 : Int32) M)))
  else (fX1_groupsAhead_12 M))
set_option maxHeartbeats 4000000 in
set_option maxRecDepth 100000 in
theorem okX1_groupsAhead {l : Launch} {p : Int32 × Mem} {this : Nat} {p0 : Int32} {M : Mem} (h : fX1_groupsAhead this p0 M = some p) : Cn l yX1_groupsAhead mX1_groupsAhead [.ref this, .int p0] M (some (.int p.1)) p.2 := by
  refine Cn.of [(0, .ref this), (1, .int p0)] (by decide) rfl rfl (Nat.le_of_ble_eq_true rfl) rfl (fun κ _ hf O => ?_)
  unfold fX1_groupsAhead at h
  refine g_aload_n (pc' := 1) 0 O dX1_groupsAhead_0 rfl rfl rfl ?_
  replace h := ob h; obtain ⟨v1, ev1, h⟩ := h
  refine g_getF (C := RX1) (T := TX1) (N := 8) (ci := 0) (k := 1) (pc' := 4) O dX1_groupsAhead_1 rfl inX1 (by decide) tw_215 (gI_F ev1) rfl ?_
  refine g_if_eq (tgt := 12) (pc' := 7) O dX1_groupsAhead_4 (by decide) rfl (fun hc => ?_) (fun hc => ?_)
  · replace h := ip hc h
    refine g_sub (lv' := []) [] rfl ?_
    exact tX1_groupsAhead_12 O hf h
  · replace h := ine hc h
    refine g_iload_n (pc' := 8) 1 O dX1_groupsAhead_7 rfl rfl rfl ?_
    refine g_iconst (v := 3) (pc' := 9) O dX1_groupsAhead_8 (by decide) rfl ?_
    refine g_icmp_ge (tgt := 14) (pc' := 12) O dX1_groupsAhead_9 (by decide) rfl (fun hc => ?_) (fun hc => ?_)
    · replace h := ip hc h
      refine g_aload_n (pc' := 15) 0 O dX1_groupsAhead_14 rfl rfl rfl ?_
      replace h := ob h; obtain ⟨v2, ev2, h⟩ := h
      refine g_getF (C := RX1) (T := TX1) (N := 8) (ci := 0) (k := 2) (pc' := 18) O dX1_groupsAhead_15 rfl inX1 (by decide) tw_218 (gI_F ev2) rfl ?_
      refine g_if_eq (tgt := 36) (pc' := 21) O dX1_groupsAhead_18 (by decide) rfl (fun hc => ?_) (fun hc => ?_)
      · replace h := ip hc h
        refine g_iload_n (pc' := 37) 1 O dX1_groupsAhead_36 rfl rfl rfl ?_
        refine g_iconst (v := 3) (pc' := 38) O dX1_groupsAhead_37 (by decide) rfl ?_
        refine g_irem2 (pc' := 39) O dX1_groupsAhead_38 (by decide) rfl ?_
        refine g_if_ne (tgt := 46) (pc' := 42) O dX1_groupsAhead_39 (by decide) rfl (fun hc => ?_) (fun hc => ?_)
        · replace h := ine hc h
          refine g_iconst (v := 0) (pc' := 47) O dX1_groupsAhead_46 (by decide) rfl ?_
          refine g_sub (lv' := []) [] rfl ?_
          exact tX1_groupsAhead_47 O hf h
        · replace h := ip hc h
          refine g_iconst (v := 1) (pc' := 43) O dX1_groupsAhead_42 (by decide) rfl ?_
          refine g_goto (pc' := 47) O dX1_groupsAhead_43 (by decide) ?_
          refine g_sub (lv' := []) [] rfl ?_
          exact tX1_groupsAhead_47 O hf h
      · replace h := ine hc h
        refine g_iload_n (pc' := 22) 1 O dX1_groupsAhead_21 rfl rfl rfl ?_
        refine g_iconst (v := 2) (pc' := 23) O dX1_groupsAhead_22 (by decide) rfl ?_
        refine g_irem2 (pc' := 24) O dX1_groupsAhead_23 (by decide) rfl ?_
        refine g_iconst (v := 1) (pc' := 25) O dX1_groupsAhead_24 (by decide) rfl ?_
        refine g_icmp_ne (tgt := 32) (pc' := 28) O dX1_groupsAhead_25 (by decide) rfl (fun hc => ?_) (fun hc => ?_)
        · replace h := ine hc h
          refine g_iconst (v := 0) (pc' := 33) O dX1_groupsAhead_32 (by decide) rfl ?_
          refine g_goto (pc' := 47) O dX1_groupsAhead_33 (by decide) ?_
          refine g_sub (lv' := []) [] rfl ?_
          exact tX1_groupsAhead_47 O hf h
        · replace h := ip hc h
          refine g_iconst (v := 1) (pc' := 29) O dX1_groupsAhead_28 (by decide) rfl ?_
          refine g_goto (pc' := 47) O dX1_groupsAhead_29 (by decide) ?_
          refine g_sub (lv' := []) [] rfl ?_
          exact tX1_groupsAhead_47 O hf h
    · replace h := ine hc h
      refine g_sub (lv' := []) [] rfl ?_
      exact tX1_groupsAhead_12 O hf h
