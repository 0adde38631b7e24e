abbrev mX8_makeAmount : MD := (cX8_makeAmount, 16, RX8, (some .boolean), { frames := 2, cells := 0, slots := 0, locals := 42 }, "makeAmount")
theorem hyX8_makeAmount : yX8_makeAmount.cls ≠ "java/lang/invoke/MethodHandle" ∧ yX8_makeAmount.cls ≠ "java/lang/invoke/VarHandle" ∧ (parseMethodDescriptor yX8_makeAmount.desc).map (fun d => d.parameters.length) = some 4 := by decide +kernel
def fX8_makeAmount_436  (M : Mem) : Option (Int32 × Mem) :=
  (nz (1 : Int32)).bind fun z1 =>
  some (z1, M)
set_option maxHeartbeats 4000000 in
set_option maxRecDepth 100000 in
theorem tX8_makeAmount_436 {κ : KT} {p : Int32 × Mem} (O : OkK κ mX8_makeAmount) (hf : κ.2.2.2.2.2.2.2.2.2.2.2.2.2 = (some (.int p.1), p.2))  {M : Mem} (h : fX8_makeAmount_436  M = some p) : G κ mX8_makeAmount 0 0 436 [] [] M := by
  unfold fX8_makeAmount_436 at h
  refine g_iconst (v := 1) (pc' := 437) O dX8_makeAmount_436 (by decide) rfl ?_
  replace h := ob h; obtain ⟨z1, ez1, h⟩ := h
  obtain ⟨hz1, ez1b⟩ := nz_spec ez1
  rw [ez1b] at h
  cases h
  exact g_ireturn O dX8_makeAmount_437 rfl (nz_nar hz1) hf (by decide) (by decide)
def fX8_makeAmount_433  (s0 : Int32) (s1 : Nat) (M : Mem) : Option (Int32 × Mem) :=
  (ck M 5 s1).bind fun u1 =>
  (fX8_say s1 s0 M).bind fun r2 =>
  fX8_makeAmount_436 r2
set_option maxHeartbeats 4000000 in
set_option maxRecDepth 100000 in
theorem tX8_makeAmount_433 {κ : KT} {p : Int32 × Mem} (O : OkK κ mX8_makeAmount) (hf : κ.2.2.2.2.2.2.2.2.2.2.2.2.2 = (some (.int p.1), p.2))  {s0 : Int32} {s1 : Nat} {M : Mem} (h : fX8_makeAmount_433  s0 s1 M = some p) : G κ mX8_makeAmount 0 0 433 [] [.int s0, .ref s1] M := by
  unfold fX8_makeAmount_433 at h
  replace h := ob h; obtain ⟨u1, eu1, h⟩ := h
  replace h := ob h; obtain ⟨r2, er2, h⟩ := h
  refine g_callV (y := yX8_say) (ν := mX8_say) (n := 1) (As := [.int s0]) (b := s1) (st := []) (M2 := r2) (r1 := none) (pc' := 436) O dX8_makeAmount_433 tw_939 tw_58 tw_938 tw_37 tw_936 hyX8_say rfl rfl eu1 (okX8_say er2) (Nat.le_of_ble_eq_true rfl) ⟨Nat.le_of_ble_eq_true rfl, Nat.le_of_ble_eq_true rfl⟩ ⟨Nat.le_of_ble_eq_true rfl, Nat.le_of_ble_eq_true rfl⟩ rfl ?_
  show G κ mX8_makeAmount 0 0 436 [] [] r2
  exact tX8_makeAmount_436 O hf h
def fX8_makeAmount_401  (x0 : Nat) (x1 : Int32) (x10 : Int32) (M : Mem) : Option (Int32 × Mem) :=
  if x10 = 0 then (fX8_makeAmount_436 M)
  else ((gN M 5 x0 5).bind fun v1 =>
  (aI M v1 x1).bind fun v2 =>
  if v2 = 0 then (fX8_makeAmount_436 M)
  else ((gN M 5 x0 5).bind fun v3 =>
  (aI M v3 x1).bind fun v4 =>
  if v4 = (1 : Int32) then (fX8_makeAmount_433 (45 : Int32) x0 M)
  else (fX8_makeAmount_433 (41 : Int32) x0 M)))
set_option maxHeartbeats 4000000 in
set_option maxRecDepth 100000 in
theorem tX8_makeAmount_401 {κ : KT} {p : Int32 × Mem} (O : OkK κ mX8_makeAmount) (hf : κ.2.2.2.2.2.2.2.2.2.2.2.2.2 = (some (.int p.1), p.2))  {x0 : Nat} {x1 : Int32} {x10 : Int32} {M : Mem} (h : fX8_makeAmount_401  x0 x1 x10 M = some p) : G κ mX8_makeAmount 0 0 401 [(0, .ref x0), (1, .int x1), (10, .int x10)] [] M := by
  unfold fX8_makeAmount_401 at h
  refine g_iload (pc' := 403) 2 O dX8_makeAmount_401 rfl rfl ?_
  refine g_if_eq (tgt := 436) (pc' := 406) O dX8_makeAmount_403 (by decide) rfl (fun hc => ?_) (fun hc => ?_)
  · replace h := ip hc h
    refine g_sub (lv' := []) [] rfl ?_
    exact tX8_makeAmount_436 O hf h
  · replace h := ine hc h
    refine g_aload_n (pc' := 407) 0 O dX8_makeAmount_406 rfl rfl rfl ?_
    replace h := ob h; obtain ⟨v1, ev1, h⟩ := h
    refine g_getF (C := RX8) (T := TX8) (N := 29) (ci := 5) (k := 5) (pc' := 410) O dX8_makeAmount_407 rfl inX8 (by decide) tw_721 (gN_F ev1) rfl ?_
    refine g_iload_n (pc' := 411) 1 O dX8_makeAmount_410 rfl rfl rfl ?_
    replace h := ob h; obtain ⟨v2, ev2, h⟩ := h
    refine g_iald (pc' := 412) O dX8_makeAmount_411 ev2 rfl ?_
    refine g_if_eq (tgt := 436) (pc' := 415) O dX8_makeAmount_412 (by decide) rfl (fun hc => ?_) (fun hc => ?_)
    · replace h := ip hc h
      refine g_sub (lv' := []) [] rfl ?_
      exact tX8_makeAmount_436 O hf h
    · replace h := ine hc h
      refine g_aload_n (pc' := 416) 0 O dX8_makeAmount_415 rfl rfl rfl ?_
      refine g_aload_n (pc' := 417) 0 O dX8_makeAmount_416 rfl rfl rfl ?_
      replace h := ob h; obtain ⟨v3, ev3, h⟩ := h
      refine g_getF (C := RX8) (T := TX8) (N := 29) (ci := 5) (k := 5) (pc' := 420) O dX8_makeAmount_417 rfl inX8 (by decide) tw_721 (gN_F ev3) rfl ?_
      refine g_iload_n (pc' := 421) 1 O dX8_makeAmount_420 rfl rfl rfl ?_
      replace h := ob h; obtain ⟨v4, ev4, h⟩ := h
      refine g_iald (pc' := 422) O dX8_makeAmount_421 ev4 rfl ?_
      refine g_iconst (v := 1) (pc' := 423) O dX8_makeAmount_422 (by decide) rfl ?_
      refine g_icmp_ne (tgt := 431) (pc' := 426) O dX8_makeAmount_423 (by decide) rfl (fun hc => ?_) (fun hc => ?_)
      · replace h := ine hc h
        refine g_bipush (v := 41) (pc' := 433) O dX8_makeAmount_431 (by decide) rfl ?_
        refine g_sub (lv' := []) [] rfl ?_
        exact tX8_makeAmount_433 O hf h
      · replace h := ip hc h
        refine g_bipush (v := 45) (pc' := 428) O dX8_makeAmount_426 (by decide) rfl ?_
        refine g_goto (pc' := 433) O dX8_makeAmount_428 (by decide) ?_
        refine g_sub (lv' := []) [] rfl ?_
        exact tX8_makeAmount_433 O hf h
def fX8_makeAmount_376  (x0 : Nat) (x1 : Int32) (x2 : Int32) (x10 : Int32) (M : Mem) : Option (Int32 × Mem) :=
  if x2 = (1 : Int32) then ((gN M 5 x0 7).bind fun v1 =>
  (aZ M v1 x1).bind fun v2 =>
  if v2 = 0 then (fX8_makeAmount_401 x0 x1 x10 M)
  else ((ck M 5 x0).bind fun u3 =>
  (fX8_say x0 (32 : Int32) M).bind fun r4 =>
  (ck r4 5 x0).bind fun u5 =>
  (fX8_sayMark x0 x1 r4).bind fun r6 =>
  fX8_makeAmount_401 x0 x1 x10 r6))
  else (fX8_makeAmount_401 x0 x1 x10 M)
set_option maxHeartbeats 4000000 in
set_option maxRecDepth 100000 in
theorem tX8_makeAmount_376 {κ : KT} {p : Int32 × Mem} (O : OkK κ mX8_makeAmount) (hf : κ.2.2.2.2.2.2.2.2.2.2.2.2.2 = (some (.int p.1), p.2))  {x0 : Nat} {x1 : Int32} {x2 : Int32} {x10 : Int32} {M : Mem} (h : fX8_makeAmount_376  x0 x1 x2 x10 M = some p) : G κ mX8_makeAmount 0 0 376 [(0, .ref x0), (1, .int x1), (2, .int x2), (10, .int x10)] [] M := by
  unfold fX8_makeAmount_376 at h
  refine g_iload_n (pc' := 377) 2 O dX8_makeAmount_376 rfl rfl rfl ?_
  refine g_iconst (v := 1) (pc' := 378) O dX8_makeAmount_377 (by decide) rfl ?_
  refine g_icmp_ne (tgt := 401) (pc' := 381) O dX8_makeAmount_378 (by decide) rfl (fun hc => ?_) (fun hc => ?_)
  · replace h := ine hc h
    refine g_sub (lv' := [(0, .ref x0), (1, .int x1), (10, .int x10)]) [0, 1, 3] rfl ?_
    exact tX8_makeAmount_401 O hf h
  · replace h := ip hc h
    refine g_aload_n (pc' := 382) 0 O dX8_makeAmount_381 rfl rfl rfl ?_
    replace h := ob h; obtain ⟨v1, ev1, h⟩ := h
    refine g_getF (C := RX8) (T := TX8) (N := 29) (ci := 5) (k := 7) (pc' := 385) O dX8_makeAmount_382 rfl inX8 (by decide) tw_723 (gN_F ev1) rfl ?_
    refine g_iload_n (pc' := 386) 1 O dX8_makeAmount_385 rfl rfl rfl ?_
    replace h := ob h; obtain ⟨v2, ev2, h⟩ := h
    refine g_zald (pc' := 387) O dX8_makeAmount_386 ev2 rfl ?_
    refine g_if_eq (tgt := 401) (pc' := 390) O dX8_makeAmount_387 (by decide) rfl (fun hc => ?_) (fun hc => ?_)
    · replace h := ip hc h
      refine g_sub (lv' := [(0, .ref x0), (1, .int x1), (10, .int x10)]) [0, 1, 3] rfl ?_
      exact tX8_makeAmount_401 O hf h
    · replace h := ine hc h
      refine g_aload_n (pc' := 391) 0 O dX8_makeAmount_390 rfl rfl rfl ?_
      refine g_bipush (v := 32) (pc' := 393) O dX8_makeAmount_391 (by decide) rfl ?_
      replace h := ob h; obtain ⟨u3, eu3, h⟩ := h
      replace h := ob h; obtain ⟨r4, er4, h⟩ := h
      refine g_callV (y := yX8_say) (ν := mX8_say) (n := 1) (As := [.int (32 : Int32)]) (b := x0) (st := []) (M2 := r4) (r1 := none) (pc' := 396) O dX8_makeAmount_393 tw_939 tw_58 tw_938 tw_37 tw_936 hyX8_say rfl rfl eu3 (okX8_say er4) (Nat.le_of_ble_eq_true rfl) ⟨Nat.le_of_ble_eq_true rfl, Nat.le_of_ble_eq_true rfl⟩ ⟨Nat.le_of_ble_eq_true rfl, Nat.le_of_ble_eq_true rfl⟩ rfl ?_
      show G κ mX8_makeAmount 0 0 396 [(0, .ref x0), (1, .int x1), (2, .int x2), (10, .int x10)] [] r4
      refine g_aload_n (pc' := 397) 0 O dX8_makeAmount_396 rfl rfl rfl ?_
      refine g_iload_n (pc' := 398) 1 O dX8_makeAmount_397 rfl rfl rfl ?_
      replace h := ob h; obtain ⟨u5, eu5, h⟩ := h
      replace h := ob h; obtain ⟨r6, er6, h⟩ := h
      refine g_callV (y := yX8_sayMark) (ν := mX8_sayMark) (n := 1) (As := [.int x1]) (b := x0) (st := []) (M2 := r6) (r1 := none) (pc' := 401) O dX8_makeAmount_398 tw_950 tw_58 tw_949 tw_39 tw_947 hyX8_sayMark rfl rfl eu5 (okX8_sayMark er6) (Nat.le_of_ble_eq_true rfl) ⟨Nat.le_of_ble_eq_true rfl, Nat.le_of_ble_eq_true rfl⟩ ⟨Nat.le_of_ble_eq_true rfl, Nat.le_of_ble_eq_true rfl⟩ rfl ?_
      show G κ mX8_makeAmount 0 0 401 [(0, .ref x0), (1, .int x1), (2, .int x2), (10, .int x10)] [] r6
      refine g_sub (lv' := [(0, .ref x0), (1, .int x1), (10, .int x10)]) [0, 1, 3] rfl ?_
      exact tX8_makeAmount_401 O hf h
def fX8_makeAmount_341  : Nat → Nat → Int32 → Int32 → Int32 → Int32 → Int32 → Int32 → Mem → Option (Int32 × Mem)
  | 0, _, _, _, _, _, _, _, _ => none
  | n + 1, x0, x1, x2, x5, x10, x12, x15, M =>
    if x5 ≤ x15 then (fX8_makeAmount_376 x0 x1 x2 x10 M)
    else ((ck M 5 x0).bind fun u1 =>
    (fX8_say x0 ((48 : Int32) + (x12 / (100000 : Int32))) M).bind fun r2 =>
    fX8_makeAmount_341 n x0 x1 x2 x5 x10 ((rmI x12 (100000 : Int32)) * (10 : Int32)) (x15 + (1 : Int32)) r2)
set_option maxHeartbeats 4000000 in
set_option maxRecDepth 100000 in
theorem tX8_makeAmount_341 {κ : KT} {p : Int32 × Mem} (O : OkK κ mX8_makeAmount) (hf : κ.2.2.2.2.2.2.2.2.2.2.2.2.2 = (some (.int p.1), p.2))  : ∀ (n : Nat) (x0 : Nat) (x1 : Int32) (x2 : Int32) (x5 : Int32) (x10 : Int32) (x12 : Int32) (x15 : Int32) (M : Mem), fX8_makeAmount_341  n x0 x1 x2 x5 x10 x12 x15 M = some p → G κ mX8_makeAmount 0 0 341 [(0, .ref x0), (1, .int x1), (2, .int x2), (5, .int x5), (10, .int x10), (12, .int x12), (15, .int x15)] [] M := by
  intro n
  induction n with
  | zero => intro x0 x1 x2 x5 x10 x12 x15 M h; cases h
  | succ n ih =>
    intro x0 x1 x2 x5 x10 x12 x15 M h
    rw [fX8_makeAmount_341] at h
    refine g_iload (pc' := 343) 6 O dX8_makeAmount_341 rfl rfl ?_
    refine g_iload (pc' := 345) 3 O dX8_makeAmount_343 rfl rfl ?_
    refine g_icmp_ge (tgt := 376) (pc' := 348) O dX8_makeAmount_345 (by decide) rfl (fun hc => ?_) (fun hc => ?_)
    · replace h := ip hc h
      refine g_sub (lv' := [(0, .ref x0), (1, .int x1), (2, .int x2), (10, .int x10)]) [0, 1, 2, 4] rfl ?_
      exact tX8_makeAmount_376 O hf h
    · replace h := ine hc h
      refine g_aload_n (pc' := 349) 0 O dX8_makeAmount_348 rfl rfl rfl ?_
      refine g_bipush (v := 48) (pc' := 351) O dX8_makeAmount_349 (by decide) rfl ?_
      refine g_iload (pc' := 353) 5 O dX8_makeAmount_351 rfl rfl ?_
      refine g_ldc (v := 100000) (pc' := 355) O dX8_makeAmount_353 tw_951 rfl ?_
      refine g_idiv (pc' := 356) O dX8_makeAmount_355 (by decide) rfl ?_
      refine g_iadd (pc' := 357) O dX8_makeAmount_356 rfl ?_
      replace h := ob h; obtain ⟨u1, eu1, h⟩ := h
      replace h := ob h; obtain ⟨r2, er2, h⟩ := h
      refine g_callV (y := yX8_say) (ν := mX8_say) (n := 1) (As := [.int ((48 : Int32) + (x12 / (100000 : Int32)))]) (b := x0) (st := []) (M2 := r2) (r1 := none) (pc' := 360) O dX8_makeAmount_357 tw_939 tw_58 tw_938 tw_37 tw_936 hyX8_say rfl rfl eu1 (okX8_say er2) (Nat.le_of_ble_eq_true rfl) ⟨Nat.le_of_ble_eq_true rfl, Nat.le_of_ble_eq_true rfl⟩ ⟨Nat.le_of_ble_eq_true rfl, Nat.le_of_ble_eq_true rfl⟩ rfl ?_
      show G κ mX8_makeAmount 0 0 360 [(0, .ref x0), (1, .int x1), (2, .int x2), (5, .int x5), (10, .int x10), (12, .int x12), (15, .int x15)] [] r2
      refine g_iload (pc' := 362) 5 O dX8_makeAmount_360 rfl rfl ?_
      refine g_ldc (v := 100000) (pc' := 364) O dX8_makeAmount_362 tw_951 rfl ?_
      refine g_irem2 (pc' := 365) O dX8_makeAmount_364 (by decide) rfl ?_
      refine g_bipush (v := 10) (pc' := 367) O dX8_makeAmount_365 (by decide) rfl ?_
      refine g_imul (pc' := 368) O dX8_makeAmount_367 rfl ?_
      refine g_istore (lv' := [(12, .int ((rmI x12 (100000 : Int32)) * (10 : Int32))), (0, .ref x0), (1, .int x1), (2, .int x2), (5, .int x5), (10, .int x10), (15, .int x15)]) (pc' := 370) O dX8_makeAmount_368 (by decide) rfl rfl ?_
      refine g_iinc (q := 6) (v := x15 + (1 : Int32)) (lv' := [(15, .int (x15 + (1 : Int32))), (12, .int ((rmI x12 (100000 : Int32)) * (10 : Int32))), (0, .ref x0), (1, .int x1), (2, .int x2), (5, .int x5), (10, .int x10)]) (pc' := 373) O dX8_makeAmount_370 rfl rfl (by decide) rfl rfl ?_
      refine g_goto (pc' := 341) O dX8_makeAmount_373 (by decide) ?_
      refine g_sub (lv' := [(0, .ref x0), (1, .int x1), (2, .int x2), (5, .int x5), (10, .int x10), (12, .int ((rmI x12 (100000 : Int32)) * (10 : Int32))), (15, .int (x15 + (1 : Int32)))]) [2, 3, 4, 5, 6, 1, 0] rfl ?_
      exact ih x0 x1 x2 x5 x10 ((rmI x12 (100000 : Int32)) * (10 : Int32)) (x15 + (1 : Int32)) r2 h
def fX8_makeAmount_317 (k248 : Nat → Int32 → Int32 → Int32 → Int32 → Int32 → Int32 → Int32 → Int32 → Int32 → Mem → Option (Int32 × Mem)) (x0 : Nat) (x1 : Int32) (x2 : Int32) (x5 : Int32) (x10 : Int32) (x11 : Int32) (x12 : Int32) (x13 : Int32) (x14 : Int32) (x15 : Int32) (M : Mem) : Option (Int32 × Mem) :=
  k248 x0 x1 x2 x5 x10 x11 x12 x13 x14 (x15 + (1 : Int32)) M
set_option maxHeartbeats 4000000 in
set_option maxRecDepth 100000 in
theorem tX8_makeAmount_317 {κ : KT} {p : Int32 × Mem} (O : OkK κ mX8_makeAmount) (hf : κ.2.2.2.2.2.2.2.2.2.2.2.2.2 = (some (.int p.1), p.2)) {k248 : Nat → Int32 → Int32 → Int32 → Int32 → Int32 → Int32 → Int32 → Int32 → Int32 → Mem → Option (Int32 × Mem)} (hk248 : ∀ (x0 : Nat) (x1 : Int32) (x2 : Int32) (x5 : Int32) (x10 : Int32) (x11 : Int32) (x12 : Int32) (x13 : Int32) (x14 : Int32) (x15 : Int32) (M : Mem), k248 x0 x1 x2 x5 x10 x11 x12 x13 x14 x15 M = some p → G κ mX8_makeAmount 0 0 248 [(0, .ref x0), (1, .int x1), (2, .int x2), (5, .int x5), (10, .int x10), (11, .int x11), (12, .int x12), (13, .int x13), (14, .int x14), (15, .int x15)] [] M) {x0 : Nat} {x1 : Int32} {x2 : Int32} {x5 : Int32} {x10 : Int32} {x11 : Int32} {x12 : Int32} {x13 : Int32} {x14 : Int32} {x15 : Int32} {M : Mem} (h : fX8_makeAmount_317 k248 x0 x1 x2 x5 x10 x11 x12 x13 x14 x15 M = some p) : G κ mX8_makeAmount 0 0 317 [(0, .ref x0), (1, .int x1), (2, .int x2), (5, .int x5), (10, .int x10), (11, .int x11), (12, .int x12), (13, .int x13), (14, .int x14), (15, .int x15)] [] M := by
  unfold fX8_makeAmount_317 at h
  refine g_iinc (q := 9) (v := x15 + (1 : Int32)) (lv' := [(15, .int (x15 + (1 : Int32))), (0, .ref x0), (1, .int x1), (2, .int x2), (5, .int x5), (10, .int x10), (11, .int x11), (12, .int x12), (13, .int x13), (14, .int x14)]) (pc' := 320) O dX8_makeAmount_317 rfl rfl (by decide) rfl rfl ?_
  refine g_goto (pc' := 248) O dX8_makeAmount_320 (by decide) ?_
  refine g_sub (lv' := [(0, .ref x0), (1, .int x1), (2, .int x2), (5, .int x5), (10, .int x10), (11, .int x11), (12, .int x12), (13, .int x13), (14, .int x14), (15, .int (x15 + (1 : Int32)))]) [1, 2, 3, 4, 5, 6, 7, 8, 9, 0] rfl ?_
  exact hk248 x0 x1 x2 x5 x10 x11 x12 x13 x14 (x15 + (1 : Int32)) M h
def fX8_makeAmount_248  : Nat → Nat → Int32 → Int32 → Int32 → Int32 → Int32 → Int32 → Int32 → Int32 → Int32 → Mem → Option (Int32 × Mem)
  | 0, _, _, _, _, _, _, _, _, _, _, _ => none
  | n + 1, x0, x1, x2, x5, x10, x11, x12, x13, x14, x15, M =>
    if x13 ≤ x15 then (if x5 ≤ 0 then (fX8_makeAmount_376 x0 x1 x2 x10 M)
    else ((gN M 5 x0 2).bind fun v1 =>
    (aI M v1 x1).bind fun v2 =>
    (ck M 5 x0).bind fun u3 =>
    (fX8_say x0 v2 M).bind fun r4 =>
    fX8_makeAmount_341 FU x0 x1 x2 x5 x10 x12 (0 : Int32) r4))
    else ((dzI x14).bind fun z5 =>
    (ck M 5 x0).bind fun u6 =>
    (fX8_say x0 ((48 : Int32) + (rmI (x11 / x14) (10 : Int32))) M).bind fun r7 =>
    (gN r7 5 x0 3).bind fun v8 =>
    (aI r7 v8 x1).bind fun v9 =>
    if v9 = 0 then (fX8_makeAmount_317 (fX8_makeAmount_248 n) x0 x1 x2 x5 x10 x11 x12 x13 (x14 / (10 : Int32)) x15 r7)
    else (if x13 ≤ (3 : Int32) then (fX8_makeAmount_317 (fX8_makeAmount_248 n) x0 x1 x2 x5 x10 x11 x12 x13 (x14 / (10 : Int32)) x15 r7)
    else ((ck r7 5 x0).bind fun u10 =>
    (fX8_isSignBehind x0 x1 ((x13 - (1 : Int32)) - x15) r7).bind fun r11 =>
    if r11.1 = 0 then (fX8_makeAmount_317 (fX8_makeAmount_248 n) x0 x1 x2 x5 x10 x11 x12 x13 (x14 / (10 : Int32)) x15 r11.2)
    else ((gN r11.2 5 x0 3).bind fun v12 =>
    (aI r11.2 v12 x1).bind fun v13 =>
    (ck r11.2 5 x0).bind fun u14 =>
    (fX8_say x0 v13 r11.2).bind fun r15 =>
    fX8_makeAmount_317 (fX8_makeAmount_248 n) x0 x1 x2 x5 x10 x11 x12 x13 (x14 / (10 : Int32)) x15 r15))))
set_option maxHeartbeats 4000000 in
set_option maxRecDepth 100000 in
theorem tX8_makeAmount_248 {κ : KT} {p : Int32 × Mem} (O : OkK κ mX8_makeAmount) (hf : κ.2.2.2.2.2.2.2.2.2.2.2.2.2 = (some (.int p.1), p.2))  : ∀ (n : Nat) (x0 : Nat) (x1 : Int32) (x2 : Int32) (x5 : Int32) (x10 : Int32) (x11 : Int32) (x12 : Int32) (x13 : Int32) (x14 : Int32) (x15 : Int32) (M : Mem), fX8_makeAmount_248  n x0 x1 x2 x5 x10 x11 x12 x13 x14 x15 M = some p → G κ mX8_makeAmount 0 0 248 [(0, .ref x0), (1, .int x1), (2, .int x2), (5, .int x5), (10, .int x10), (11, .int x11), (12, .int x12), (13, .int x13), (14, .int x14), (15, .int x15)] [] M := by
  intro n
  induction n with
  | zero => intro x0 x1 x2 x5 x10 x11 x12 x13 x14 x15 M h; cases h
  | succ n ih =>
    intro x0 x1 x2 x5 x10 x11 x12 x13 x14 x15 M h
    rw [fX8_makeAmount_248] at h
    refine g_iload (pc' := 250) 9 O dX8_makeAmount_248 rfl rfl ?_
    refine g_iload (pc' := 252) 7 O dX8_makeAmount_250 rfl rfl ?_
    refine g_icmp_ge (tgt := 323) (pc' := 255) O dX8_makeAmount_252 (by decide) rfl (fun hc => ?_) (fun hc => ?_)
    · replace h := ip hc h
      refine g_iload (pc' := 325) 3 O dX8_makeAmount_323 rfl rfl ?_
      refine g_if_le (tgt := 376) (pc' := 328) O dX8_makeAmount_325 (by decide) rfl (fun hc => ?_) (fun hc => ?_)
      · replace h := ip hc h
        refine g_sub (lv' := [(0, .ref x0), (1, .int x1), (2, .int x2), (10, .int x10)]) [0, 1, 2, 4] rfl ?_
        exact tX8_makeAmount_376 O hf h
      · replace h := ine hc h
        refine g_aload_n (pc' := 329) 0 O dX8_makeAmount_328 rfl rfl rfl ?_
        refine g_aload_n (pc' := 330) 0 O dX8_makeAmount_329 rfl rfl rfl ?_
        replace h := ob h; obtain ⟨v1, ev1, h⟩ := h
        refine g_getF (C := RX8) (T := TX8) (N := 29) (ci := 5) (k := 2) (pc' := 333) O dX8_makeAmount_330 rfl inX8 (by decide) tw_718 (gN_F ev1) rfl ?_
        refine g_iload_n (pc' := 334) 1 O dX8_makeAmount_333 rfl rfl rfl ?_
        replace h := ob h; obtain ⟨v2, ev2, h⟩ := h
        refine g_iald (pc' := 335) O dX8_makeAmount_334 ev2 rfl ?_
        replace h := ob h; obtain ⟨u3, eu3, h⟩ := h
        replace h := ob h; obtain ⟨r4, er4, h⟩ := h
        refine g_callV (y := yX8_say) (ν := mX8_say) (n := 1) (As := [.int v2]) (b := x0) (st := []) (M2 := r4) (r1 := none) (pc' := 338) O dX8_makeAmount_335 tw_939 tw_58 tw_938 tw_37 tw_936 hyX8_say rfl rfl eu3 (okX8_say er4) (Nat.le_of_ble_eq_true rfl) ⟨Nat.le_of_ble_eq_true rfl, Nat.le_of_ble_eq_true rfl⟩ ⟨Nat.le_of_ble_eq_true rfl, Nat.le_of_ble_eq_true rfl⟩ rfl ?_
        show G κ mX8_makeAmount 0 0 338 [(0, .ref x0), (1, .int x1), (2, .int x2), (5, .int x5), (10, .int x10), (11, .int x11), (12, .int x12), (13, .int x13), (14, .int x14), (15, .int x15)] [] r4
        refine g_iconst (v := 0) (pc' := 339) O dX8_makeAmount_338 (by decide) rfl ?_
        refine g_istore (lv' := [(15, .int (0 : Int32)), (0, .ref x0), (1, .int x1), (2, .int x2), (5, .int x5), (10, .int x10), (11, .int x11), (12, .int x12), (13, .int x13), (14, .int x14)]) (pc' := 341) O dX8_makeAmount_339 (by decide) rfl rfl ?_
        refine g_sub (lv' := [(0, .ref x0), (1, .int x1), (2, .int x2), (5, .int x5), (10, .int x10), (12, .int x12), (15, .int (0 : Int32))]) [1, 2, 3, 4, 5, 7, 0] rfl ?_
        exact tX8_makeAmount_341 O hf FU x0 x1 x2 x5 x10 x12 (0 : Int32) r4 h
    · replace h := ine hc h
      refine g_aload_n (pc' := 256) 0 O dX8_makeAmount_255 rfl rfl rfl ?_
      refine g_bipush (v := 48) (pc' := 258) O dX8_makeAmount_256 (by decide) rfl ?_
      refine g_iload (pc' := 260) 5 O dX8_makeAmount_258 rfl rfl ?_
      refine g_iload (pc' := 262) 8 O dX8_makeAmount_260 rfl rfl ?_
      replace h := ob h; obtain ⟨z5, ez5, h⟩ := h
      refine g_idiv (pc' := 263) O dX8_makeAmount_262 (dzI_ne ez5) rfl ?_
      refine g_bipush (v := 10) (pc' := 265) O dX8_makeAmount_263 (by decide) rfl ?_
      refine g_irem2 (pc' := 266) O dX8_makeAmount_265 (by decide) rfl ?_
      refine g_iadd (pc' := 267) O dX8_makeAmount_266 rfl ?_
      replace h := ob h; obtain ⟨u6, eu6, h⟩ := h
      replace h := ob h; obtain ⟨r7, er7, h⟩ := h
      refine g_callV (y := yX8_say) (ν := mX8_say) (n := 1) (As := [.int ((48 : Int32) + (rmI (x11 / x14) (10 : Int32)))]) (b := x0) (st := []) (M2 := r7) (r1 := none) (pc' := 270) O dX8_makeAmount_267 tw_939 tw_58 tw_938 tw_37 tw_936 hyX8_say rfl rfl eu6 (okX8_say er7) (Nat.le_of_ble_eq_true rfl) ⟨Nat.le_of_ble_eq_true rfl, Nat.le_of_ble_eq_true rfl⟩ ⟨Nat.le_of_ble_eq_true rfl, Nat.le_of_ble_eq_true rfl⟩ rfl ?_
      show G κ mX8_makeAmount 0 0 270 [(0, .ref x0), (1, .int x1), (2, .int x2), (5, .int x5), (10, .int x10), (11, .int x11), (12, .int x12), (13, .int x13), (14, .int x14), (15, .int x15)] [] r7
      refine g_iload (pc' := 272) 8 O dX8_makeAmount_270 rfl rfl ?_
      refine g_bipush (v := 10) (pc' := 274) O dX8_makeAmount_272 (by decide) rfl ?_
      refine g_idiv (pc' := 275) O dX8_makeAmount_274 (by decide) rfl ?_
      refine g_istore (lv' := [(14, .int (x14 / (10 : Int32))), (0, .ref x0), (1, .int x1), (2, .int x2), (5, .int x5), (10, .int x10), (11, .int x11), (12, .int x12), (13, .int x13), (15, .int x15)]) (pc' := 277) O dX8_makeAmount_275 (by decide) rfl rfl ?_
      refine g_aload_n (pc' := 278) 1 O dX8_makeAmount_277 rfl rfl rfl ?_
      replace h := ob h; obtain ⟨v8, ev8, h⟩ := h
      refine g_getF (C := RX8) (T := TX8) (N := 29) (ci := 5) (k := 3) (pc' := 281) O dX8_makeAmount_278 rfl inX8 (by decide) tw_719 (gN_F ev8) rfl ?_
      refine g_iload_n (pc' := 282) 2 O dX8_makeAmount_281 rfl rfl rfl ?_
      replace h := ob h; obtain ⟨v9, ev9, h⟩ := h
      refine g_iald (pc' := 283) O dX8_makeAmount_282 ev9 rfl ?_
      refine g_if_eq (tgt := 317) (pc' := 286) O dX8_makeAmount_283 (by decide) rfl (fun hc => ?_) (fun hc => ?_)
      · replace h := ip hc h
        refine g_sub (lv' := [(0, .ref x0), (1, .int x1), (2, .int x2), (5, .int x5), (10, .int x10), (11, .int x11), (12, .int x12), (13, .int x13), (14, .int (x14 / (10 : Int32))), (15, .int x15)]) [1, 2, 3, 4, 5, 6, 7, 8, 0, 9] rfl ?_
        exact tX8_makeAmount_317 O hf ih h
      · replace h := ine hc h
        refine g_iload (pc' := 288) 8 O dX8_makeAmount_286 rfl rfl ?_
        refine g_iconst (v := 3) (pc' := 289) O dX8_makeAmount_288 (by decide) rfl ?_
        refine g_icmp_le (tgt := 317) (pc' := 292) O dX8_makeAmount_289 (by decide) rfl (fun hc => ?_) (fun hc => ?_)
        · replace h := ip hc h
          refine g_sub (lv' := [(0, .ref x0), (1, .int x1), (2, .int x2), (5, .int x5), (10, .int x10), (11, .int x11), (12, .int x12), (13, .int x13), (14, .int (x14 / (10 : Int32))), (15, .int x15)]) [1, 2, 3, 4, 5, 6, 7, 8, 0, 9] rfl ?_
          exact tX8_makeAmount_317 O hf ih h
        · replace h := ine hc h
          refine g_aload_n (pc' := 293) 1 O dX8_makeAmount_292 rfl rfl rfl ?_
          refine g_iload_n (pc' := 294) 2 O dX8_makeAmount_293 rfl rfl rfl ?_
          refine g_iload (pc' := 296) 8 O dX8_makeAmount_294 rfl rfl ?_
          refine g_iconst (v := 1) (pc' := 297) O dX8_makeAmount_296 (by decide) rfl ?_
          refine g_isub (pc' := 298) O dX8_makeAmount_297 rfl ?_
          refine g_iload (pc' := 300) 9 O dX8_makeAmount_298 rfl rfl ?_
          refine g_isub (pc' := 301) O dX8_makeAmount_300 rfl ?_
          replace h := ob h; obtain ⟨u10, eu10, h⟩ := h
          replace h := ob h; obtain ⟨r11, er11, h⟩ := h
          refine g_callV (y := yX8_isSignBehind) (ν := mX8_isSignBehind) (n := 2) (As := [.int x1, .int ((x13 - (1 : Int32)) - x15)]) (b := x0) (st := []) (M2 := r11.2) (r1 := (some (.int r11.1))) (pc' := 304) O dX8_makeAmount_301 tw_871 tw_58 tw_870 tw_28 tw_868 hyX8_isSignBehind rfl rfl eu10 (okX8_isSignBehind er11) (Nat.le_of_ble_eq_true rfl) ⟨Nat.le_of_ble_eq_true rfl, Nat.le_of_ble_eq_true rfl⟩ ⟨Nat.le_of_ble_eq_true rfl, Nat.le_of_ble_eq_true rfl⟩ rfl ?_
          show G κ mX8_makeAmount 0 0 304 [(14, .int (x14 / (10 : Int32))), (0, .ref x0), (1, .int x1), (2, .int x2), (5, .int x5), (10, .int x10), (11, .int x11), (12, .int x12), (13, .int x13), (15, .int x15)] [.int r11.1] r11.2
          refine g_if_eq (tgt := 317) (pc' := 307) O dX8_makeAmount_304 (by decide) rfl (fun hc => ?_) (fun hc => ?_)
          · replace h := ip hc h
            refine g_sub (lv' := [(0, .ref x0), (1, .int x1), (2, .int x2), (5, .int x5), (10, .int x10), (11, .int x11), (12, .int x12), (13, .int x13), (14, .int (x14 / (10 : Int32))), (15, .int x15)]) [1, 2, 3, 4, 5, 6, 7, 8, 0, 9] rfl ?_
            exact tX8_makeAmount_317 O hf ih h
          · replace h := ine hc h
            refine g_aload_n (pc' := 308) 1 O dX8_makeAmount_307 rfl rfl rfl ?_
            refine g_aload_n (pc' := 309) 1 O dX8_makeAmount_308 rfl rfl rfl ?_
            replace h := ob h; obtain ⟨v12, ev12, h⟩ := h
            refine g_getF (C := RX8) (T := TX8) (N := 29) (ci := 5) (k := 3) (pc' := 312) O dX8_makeAmount_309 rfl inX8 (by decide) tw_719 (gN_F ev12) rfl ?_
            refine g_iload_n (pc' := 313) 2 O dX8_makeAmount_312 rfl rfl rfl ?_
            replace h := ob h; obtain ⟨v13, ev13, h⟩ := h
            refine g_iald (pc' := 314) O dX8_makeAmount_313 ev13 rfl ?_
            replace h := ob h; obtain ⟨u14, eu14, h⟩ := h
            replace h := ob h; obtain ⟨r15, er15, h⟩ := h
            refine g_callV (y := yX8_say) (ν := mX8_say) (n := 1) (As := [.int v13]) (b := x0) (st := []) (M2 := r15) (r1 := none) (pc' := 317) O dX8_makeAmount_314 tw_939 tw_58 tw_938 tw_37 tw_936 hyX8_say rfl rfl eu14 (okX8_say er15) (Nat.le_of_ble_eq_true rfl) ⟨Nat.le_of_ble_eq_true rfl, Nat.le_of_ble_eq_true rfl⟩ ⟨Nat.le_of_ble_eq_true rfl, Nat.le_of_ble_eq_true rfl⟩ rfl ?_
            show G κ mX8_makeAmount 0 0 317 [(14, .int (x14 / (10 : Int32))), (0, .ref x0), (1, .int x1), (2, .int x2), (5, .int x5), (10, .int x10), (11, .int x11), (12, .int x12), (13, .int x13), (15, .int x15)] [] r15
            refine g_sub (lv' := [(0, .ref x0), (1, .int x1), (2, .int x2), (5, .int x5), (10, .int x10), (11, .int x11), (12, .int x12), (13, .int x13), (14, .int (x14 / (10 : Int32))), (15, .int x15)]) [1, 2, 3, 4, 5, 6, 7, 8, 0, 9] rfl ?_
            exact tX8_makeAmount_317 O hf ih h
def fX8_makeAmount_225  : Nat → Nat → Int32 → Int32 → Int32 → Int32 → Int32 → Int32 → Int32 → Int32 → Int32 → Mem → Option (Int32 × Mem)
  | 0, _, _, _, _, _, _, _, _, _, _, _ => none
  | n + 1, x0, x1, x2, x5, x10, x11, x12, x13, x14, x15, M =>
    if x13 ≤ x15 then (fX8_makeAmount_248 FU x0 x1 x2 x5 x10 x11 x12 x13 x14 (0 : Int32) M)
    else (fX8_makeAmount_225 n x0 x1 x2 x5 x10 x11 x12 x13 (x14 * (10 : Int32)) (x15 + (1 : Int32)) M)
set_option maxHeartbeats 4000000 in
set_option maxRecDepth 100000 in
theorem tX8_makeAmount_225 {κ : KT} {p : Int32 × Mem} (O : OkK κ mX8_makeAmount) (hf : κ.2.2.2.2.2.2.2.2.2.2.2.2.2 = (some (.int p.1), p.2))  : ∀ (n : Nat) (x0 : Nat) (x1 : Int32) (x2 : Int32) (x5 : Int32) (x10 : Int32) (x11 : Int32) (x12 : Int32) (x13 : Int32) (x14 : Int32) (x15 : Int32) (M : Mem), fX8_makeAmount_225  n x0 x1 x2 x5 x10 x11 x12 x13 x14 x15 M = some p → G κ mX8_makeAmount 0 0 225 [(0, .ref x0), (1, .int x1), (2, .int x2), (5, .int x5), (10, .int x10), (11, .int x11), (12, .int x12), (13, .int x13), (14, .int x14), (15, .int x15)] [] M := by
  intro n
  induction n with
  | zero => intro x0 x1 x2 x5 x10 x11 x12 x13 x14 x15 M h; cases h
  | succ n ih =>
    intro x0 x1 x2 x5 x10 x11 x12 x13 x14 x15 M h
    rw [fX8_makeAmount_225] at h
    refine g_iload (pc' := 227) 9 O dX8_makeAmount_225 rfl rfl ?_
    refine g_iload (pc' := 229) 7 O dX8_makeAmount_227 rfl rfl ?_
    refine g_icmp_ge (tgt := 245) (pc' := 232) O dX8_makeAmount_229 (by decide) rfl (fun hc => ?_) (fun hc => ?_)
    · replace h := ip hc h
      refine g_iconst (v := 0) (pc' := 246) O dX8_makeAmount_245 (by decide) rfl ?_
      refine g_istore (lv' := [(15, .int (0 : Int32)), (0, .ref x0), (1, .int x1), (2, .int x2), (5, .int x5), (10, .int x10), (11, .int x11), (12, .int x12), (13, .int x13), (14, .int x14)]) (pc' := 248) O dX8_makeAmount_246 (by decide) rfl rfl ?_
      refine g_sub (lv' := [(0, .ref x0), (1, .int x1), (2, .int x2), (5, .int x5), (10, .int x10), (11, .int x11), (12, .int x12), (13, .int x13), (14, .int x14), (15, .int (0 : Int32))]) [1, 2, 3, 4, 5, 6, 7, 8, 9, 0] rfl ?_
      exact tX8_makeAmount_248 O hf FU x0 x1 x2 x5 x10 x11 x12 x13 x14 (0 : Int32) M h
    · replace h := ine hc h
      refine g_iload (pc' := 234) 8 O dX8_makeAmount_232 rfl rfl ?_
      refine g_bipush (v := 10) (pc' := 236) O dX8_makeAmount_234 (by decide) rfl ?_
      refine g_imul (pc' := 237) O dX8_makeAmount_236 rfl ?_
      refine g_istore (lv' := [(14, .int (x14 * (10 : Int32))), (0, .ref x0), (1, .int x1), (2, .int x2), (5, .int x5), (10, .int x10), (11, .int x11), (12, .int x12), (13, .int x13), (15, .int x15)]) (pc' := 239) O dX8_makeAmount_237 (by decide) rfl rfl ?_
      refine g_iinc (q := 9) (v := x15 + (1 : Int32)) (lv' := [(15, .int (x15 + (1 : Int32))), (14, .int (x14 * (10 : Int32))), (0, .ref x0), (1, .int x1), (2, .int x2), (5, .int x5), (10, .int x10), (11, .int x11), (12, .int x12), (13, .int x13)]) (pc' := 242) O dX8_makeAmount_239 rfl rfl (by decide) rfl rfl ?_
      refine g_goto (pc' := 225) O dX8_makeAmount_242 (by decide) ?_
      refine g_sub (lv' := [(0, .ref x0), (1, .int x1), (2, .int x2), (5, .int x5), (10, .int x10), (11, .int x11), (12, .int x12), (13, .int x13), (14, .int (x14 * (10 : Int32))), (15, .int (x15 + (1 : Int32)))]) [2, 3, 4, 5, 6, 7, 8, 9, 1, 0] rfl ?_
      exact ih x0 x1 x2 x5 x10 x11 x12 x13 (x14 * (10 : Int32)) (x15 + (1 : Int32)) M h
def fX8_makeAmount_219  (x0 : Nat) (x1 : Int32) (x2 : Int32) (x5 : Int32) (x10 : Int32) (x11 : Int32) (x12 : Int32) (x13 : Int32) (M : Mem) : Option (Int32 × Mem) :=
  fX8_makeAmount_225 FU x0 x1 x2 x5 x10 x11 x12 x13 (1 : Int32) (1 : Int32) M
set_option maxHeartbeats 4000000 in
set_option maxRecDepth 100000 in
theorem tX8_makeAmount_219 {κ : KT} {p : Int32 × Mem} (O : OkK κ mX8_makeAmount) (hf : κ.2.2.2.2.2.2.2.2.2.2.2.2.2 = (some (.int p.1), p.2))  {x0 : Nat} {x1 : Int32} {x2 : Int32} {x5 : Int32} {x10 : Int32} {x11 : Int32} {x12 : Int32} {x13 : Int32} {M : Mem} (h : fX8_makeAmount_219  x0 x1 x2 x5 x10 x11 x12 x13 M = some p) : G κ mX8_makeAmount 0 0 219 [(0, .ref x0), (1, .int x1), (2, .int x2), (5, .int x5), (10, .int x10), (11, .int x11), (12, .int x12), (13, .int x13)] [] M := by
  unfold fX8_makeAmount_219 at h
  refine g_iconst (v := 1) (pc' := 220) O dX8_makeAmount_219 (by decide) rfl ?_
  refine g_istore (lv' := [(14, .int (1 : Int32)), (0, .ref x0), (1, .int x1), (2, .int x2), (5, .int x5), (10, .int x10), (11, .int x11), (12, .int x12), (13, .int x13)]) (pc' := 222) O dX8_makeAmount_220 (by decide) rfl rfl ?_
  refine g_iconst (v := 1) (pc' := 223) O dX8_makeAmount_222 (by decide) rfl ?_
  refine g_istore (lv' := [(15, .int (1 : Int32)), (14, .int (1 : Int32)), (0, .ref x0), (1, .int x1), (2, .int x2), (5, .int x5), (10, .int x10), (11, .int x11), (12, .int x12), (13, .int x13)]) (pc' := 225) O dX8_makeAmount_223 (by decide) rfl rfl ?_
  refine g_sub (lv' := [(0, .ref x0), (1, .int x1), (2, .int x2), (5, .int x5), (10, .int x10), (11, .int x11), (12, .int x12), (13, .int x13), (14, .int (1 : Int32)), (15, .int (1 : Int32))]) [2, 3, 4, 5, 6, 7, 8, 9, 1, 0] rfl ?_
  exact tX8_makeAmount_225 O hf FU x0 x1 x2 x5 x10 x11 x12 x13 (1 : Int32) (1 : Int32) M h
def fX8_makeAmount_200  (x0 : Nat) (x1 : Int32) (x2 : Int32) (x5 : Int32) (x10 : Int32) (x11 : Int32) (x12 : Int32) (x13 : Int32) (M : Mem) : Option (Int32 × Mem) :=
  if x2 = (1 : Int32) then ((gN M 5 x0 7).bind fun v1 =>
  (aZ M v1 x1).bind fun v2 =>
  if v2 = 0 then ((ck M 5 x0).bind fun u3 =>
  (fX8_sayMark x0 x1 M).bind fun r4 =>
  fX8_makeAmount_219 x0 x1 x2 x5 x10 x11 x12 x13 r4)
  else (fX8_makeAmount_219 x0 x1 x2 x5 x10 x11 x12 x13 M))
  else (fX8_makeAmount_219 x0 x1 x2 x5 x10 x11 x12 x13 M)
set_option maxHeartbeats 4000000 in
set_option maxRecDepth 100000 in
theorem tX8_makeAmount_200 {κ : KT} {p : Int32 × Mem} (O : OkK κ mX8_makeAmount) (hf : κ.2.2.2.2.2.2.2.2.2.2.2.2.2 = (some (.int p.1), p.2))  {x0 : Nat} {x1 : Int32} {x2 : Int32} {x5 : Int32} {x10 : Int32} {x11 : Int32} {x12 : Int32} {x13 : Int32} {M : Mem} (h : fX8_makeAmount_200  x0 x1 x2 x5 x10 x11 x12 x13 M = some p) : G κ mX8_makeAmount 0 0 200 [(0, .ref x0), (1, .int x1), (2, .int x2), (5, .int x5), (10, .int x10), (11, .int x11), (12, .int x12), (13, .int x13)] [] M := by
  unfold fX8_makeAmount_200 at h
  refine g_iload_n (pc' := 201) 2 O dX8_makeAmount_200 rfl rfl rfl ?_
  refine g_iconst (v := 1) (pc' := 202) O dX8_makeAmount_201 (by decide) rfl ?_
  refine g_icmp_ne (tgt := 219) (pc' := 205) O dX8_makeAmount_202 (by decide) rfl (fun hc => ?_) (fun hc => ?_)
  · replace h := ine hc h
    exact tX8_makeAmount_219 O hf h
  · replace h := ip hc h
    refine g_aload_n (pc' := 206) 0 O dX8_makeAmount_205 rfl rfl rfl ?_
    replace h := ob h; obtain ⟨v1, ev1, h⟩ := h
    refine g_getF (C := RX8) (T := TX8) (N := 29) (ci := 5) (k := 7) (pc' := 209) O dX8_makeAmount_206 rfl inX8 (by decide) tw_723 (gN_F ev1) rfl ?_
    refine g_iload_n (pc' := 210) 1 O dX8_makeAmount_209 rfl rfl rfl ?_
    replace h := ob h; obtain ⟨v2, ev2, h⟩ := h
    refine g_zald (pc' := 211) O dX8_makeAmount_210 ev2 rfl ?_
    refine g_if_ne (tgt := 219) (pc' := 214) O dX8_makeAmount_211 (by decide) rfl (fun hc => ?_) (fun hc => ?_)
    · replace h := ine hc h
      exact tX8_makeAmount_219 O hf h
    · replace h := ip hc h
      refine g_aload_n (pc' := 215) 0 O dX8_makeAmount_214 rfl rfl rfl ?_
      refine g_iload_n (pc' := 216) 1 O dX8_makeAmount_215 rfl rfl rfl ?_
      replace h := ob h; obtain ⟨u3, eu3, h⟩ := h
      replace h := ob h; obtain ⟨r4, er4, h⟩ := h
      refine g_callV (y := yX8_sayMark) (ν := mX8_sayMark) (n := 1) (As := [.int x1]) (b := x0) (st := []) (M2 := r4) (r1 := none) (pc' := 219) O dX8_makeAmount_216 tw_950 tw_58 tw_949 tw_39 tw_947 hyX8_sayMark rfl rfl eu3 (okX8_sayMark er4) (Nat.le_of_ble_eq_true rfl) ⟨Nat.le_of_ble_eq_true rfl, Nat.le_of_ble_eq_true rfl⟩ ⟨Nat.le_of_ble_eq_true rfl, Nat.le_of_ble_eq_true rfl⟩ rfl ?_
      show G κ mX8_makeAmount 0 0 219 [(0, .ref x0), (1, .int x1), (2, .int x2), (5, .int x5), (10, .int x10), (11, .int x11), (12, .int x12), (13, .int x13)] [] r4
      exact tX8_makeAmount_219 O hf h
def fX8_makeAmount_197  (x0 : Nat) (x1 : Int32) (x2 : Int32) (x5 : Int32) (x10 : Int32) (x11 : Int32) (x12 : Int32) (x13 : Int32) (s0 : Int32) (s1 : Nat) (M : Mem) : Option (Int32 × Mem) :=
  (ck M 5 s1).bind fun u1 =>
  (fX8_say s1 s0 M).bind fun r2 =>
  fX8_makeAmount_200 x0 x1 x2 x5 x10 x11 x12 x13 r2
set_option maxHeartbeats 4000000 in
set_option maxRecDepth 100000 in
theorem tX8_makeAmount_197 {κ : KT} {p : Int32 × Mem} (O : OkK κ mX8_makeAmount) (hf : κ.2.2.2.2.2.2.2.2.2.2.2.2.2 = (some (.int p.1), p.2))  {x0 : Nat} {x1 : Int32} {x2 : Int32} {x5 : Int32} {x10 : Int32} {x11 : Int32} {x12 : Int32} {x13 : Int32} {s0 : Int32} {s1 : Nat} {M : Mem} (h : fX8_makeAmount_197  x0 x1 x2 x5 x10 x11 x12 x13 s0 s1 M = some p) : G κ mX8_makeAmount 0 0 197 [(0, .ref x0), (1, .int x1), (2, .int x2), (5, .int x5), (10, .int x10), (11, .int x11), (12, .int x12), (13, .int x13)] [.int s0, .ref s1] M := by
  unfold fX8_makeAmount_197 at h
  replace h := ob h; obtain ⟨u1, eu1, h⟩ := h
  replace h := ob h; obtain ⟨r2, er2, h⟩ := h
  refine g_callV (y := yX8_say) (ν := mX8_say) (n := 1) (As := [.int s0]) (b := s1) (st := []) (M2 := r2) (r1 := none) (pc' := 200) O dX8_makeAmount_197 tw_939 tw_58 tw_938 tw_37 tw_936 hyX8_say rfl rfl eu1 (okX8_say er2) (Nat.le_of_ble_eq_true rfl) ⟨Nat.le_of_ble_eq_true rfl, Nat.le_of_ble_eq_true rfl⟩ ⟨Nat.le_of_ble_eq_true rfl, Nat.le_of_ble_eq_true rfl⟩ rfl ?_
  show G κ mX8_makeAmount 0 0 200 [(0, .ref x0), (1, .int x1), (2, .int x2), (5, .int x5), (10, .int x10), (11, .int x11), (12, .int x12), (13, .int x13)] [] r2
  exact tX8_makeAmount_200 O hf h
def fX8_makeAmount_147  : Nat → Nat → Int32 → Int32 → Int32 → Int32 → Int32 → Int32 → Int32 → Int32 → Mem → Option (Int32 × Mem)
  | 0, _, _, _, _, _, _, _, _, _, _ => none
  | n + 1, x0, x1, x2, x5, x10, x11, x12, x13, x14, M =>
    if x14 ≤ 0 then (if x10 = 0 then (fX8_makeAmount_200 x0 x1 x2 x5 x10 x11 x12 x13 M)
    else ((gN M 5 x0 5).bind fun v1 =>
    (aI M v1 x1).bind fun v2 =>
    if v2 = (1 : Int32) then (fX8_makeAmount_200 x0 x1 x2 x5 x10 x11 x12 x13 M)
    else ((gN M 5 x0 5).bind fun v3 =>
    (aI M v3 x1).bind fun v4 =>
    if v4 = 0 then (fX8_makeAmount_197 x0 x1 x2 x5 x10 x11 x12 x13 (45 : Int32) x0 M)
    else (fX8_makeAmount_197 x0 x1 x2 x5 x10 x11 x12 x13 (40 : Int32) x0 M))))
    else (fX8_makeAmount_147 n x0 x1 x2 x5 x10 x11 x12 (x13 + (1 : Int32)) (x14 / (10 : Int32)) M)
set_option maxHeartbeats 4000000 in
set_option maxRecDepth 100000 in
theorem tX8_makeAmount_147 {κ : KT} {p : Int32 × Mem} (O : OkK κ mX8_makeAmount) (hf : κ.2.2.2.2.2.2.2.2.2.2.2.2.2 = (some (.int p.1), p.2))  : ∀ (n : Nat) (x0 : Nat) (x1 : Int32) (x2 : Int32) (x5 : Int32) (x10 : Int32) (x11 : Int32) (x12 : Int32) (x13 : Int32) (x14 : Int32) (M : Mem), fX8_makeAmount_147  n x0 x1 x2 x5 x10 x11 x12 x13 x14 M = some p → G κ mX8_makeAmount 0 0 147 [(0, .ref x0), (1, .int x1), (2, .int x2), (5, .int x5), (10, .int x10), (11, .int x11), (12, .int x12), (13, .int x13), (14, .int x14)] [] M := by
  intro n
  induction n with
  | zero => intro x0 x1 x2 x5 x10 x11 x12 x13 x14 M h; cases h
  | succ n ih =>
    intro x0 x1 x2 x5 x10 x11 x12 x13 x14 M h
    rw [fX8_makeAmount_147] at h
    refine g_iload (pc' := 149) 8 O dX8_makeAmount_147 rfl rfl ?_
    refine g_if_le (tgt := 165) (pc' := 152) O dX8_makeAmount_149 (by decide) rfl (fun hc => ?_) (fun hc => ?_)
    · replace h := ip hc h
      refine g_iload (pc' := 167) 4 O dX8_makeAmount_165 rfl rfl ?_
      refine g_if_eq (tgt := 200) (pc' := 170) O dX8_makeAmount_167 (by decide) rfl (fun hc => ?_) (fun hc => ?_)
      · replace h := ip hc h
        refine g_sub (lv' := [(0, .ref x0), (1, .int x1), (2, .int x2), (5, .int x5), (10, .int x10), (11, .int x11), (12, .int x12), (13, .int x13)]) [0, 1, 2, 3, 4, 5, 6, 7] rfl ?_
        exact tX8_makeAmount_200 O hf h
      · replace h := ine hc h
        refine g_aload_n (pc' := 171) 0 O dX8_makeAmount_170 rfl rfl rfl ?_
        replace h := ob h; obtain ⟨v1, ev1, h⟩ := h
        refine g_getF (C := RX8) (T := TX8) (N := 29) (ci := 5) (k := 5) (pc' := 174) O dX8_makeAmount_171 rfl inX8 (by decide) tw_721 (gN_F ev1) rfl ?_
        refine g_iload_n (pc' := 175) 1 O dX8_makeAmount_174 rfl rfl rfl ?_
        replace h := ob h; obtain ⟨v2, ev2, h⟩ := h
        refine g_iald (pc' := 176) O dX8_makeAmount_175 ev2 rfl ?_
        refine g_iconst (v := 1) (pc' := 177) O dX8_makeAmount_176 (by decide) rfl ?_
        refine g_icmp_eq (tgt := 200) (pc' := 180) O dX8_makeAmount_177 (by decide) rfl (fun hc => ?_) (fun hc => ?_)
        · replace h := ip hc h
          refine g_sub (lv' := [(0, .ref x0), (1, .int x1), (2, .int x2), (5, .int x5), (10, .int x10), (11, .int x11), (12, .int x12), (13, .int x13)]) [0, 1, 2, 3, 4, 5, 6, 7] rfl ?_
          exact tX8_makeAmount_200 O hf h
        · replace h := ine hc h
          refine g_aload_n (pc' := 181) 0 O dX8_makeAmount_180 rfl rfl rfl ?_
          refine g_aload_n (pc' := 182) 0 O dX8_makeAmount_181 rfl rfl rfl ?_
          replace h := ob h; obtain ⟨v3, ev3, h⟩ := h
          refine g_getF (C := RX8) (T := TX8) (N := 29) (ci := 5) (k := 5) (pc' := 185) O dX8_makeAmount_182 rfl inX8 (by decide) tw_721 (gN_F ev3) rfl ?_
          refine g_iload_n (pc' := 186) 1 O dX8_makeAmount_185 rfl rfl rfl ?_
          replace h := ob h; obtain ⟨v4, ev4, h⟩ := h
          refine g_iald (pc' := 187) O dX8_makeAmount_186 ev4 rfl ?_
          refine g_if_ne (tgt := 195) (pc' := 190) O dX8_makeAmount_187 (by decide) rfl (fun hc => ?_) (fun hc => ?_)
          · replace h := ine hc h
            refine g_bipush (v := 40) (pc' := 197) O dX8_makeAmount_195 (by decide) rfl ?_
            refine g_sub (lv' := [(0, .ref x0), (1, .int x1), (2, .int x2), (5, .int x5), (10, .int x10), (11, .int x11), (12, .int x12), (13, .int x13)]) [0, 1, 2, 3, 4, 5, 6, 7] rfl ?_
            exact tX8_makeAmount_197 O hf h
          · replace h := ip hc h
            refine g_bipush (v := 45) (pc' := 192) O dX8_makeAmount_190 (by decide) rfl ?_
            refine g_goto (pc' := 197) O dX8_makeAmount_192 (by decide) ?_
            refine g_sub (lv' := [(0, .ref x0), (1, .int x1), (2, .int x2), (5, .int x5), (10, .int x10), (11, .int x11), (12, .int x12), (13, .int x13)]) [0, 1, 2, 3, 4, 5, 6, 7] rfl ?_
            exact tX8_makeAmount_197 O hf h
    · replace h := ine hc h
      refine g_iinc (q := 7) (v := x13 + (1 : Int32)) (lv' := [(13, .int (x13 + (1 : Int32))), (0, .ref x0), (1, .int x1), (2, .int x2), (5, .int x5), (10, .int x10), (11, .int x11), (12, .int x12), (14, .int x14)]) (pc' := 155) O dX8_makeAmount_152 rfl rfl (by decide) rfl rfl ?_
      refine g_iload (pc' := 157) 8 O dX8_makeAmount_155 rfl rfl ?_
      refine g_bipush (v := 10) (pc' := 159) O dX8_makeAmount_157 (by decide) rfl ?_
      refine g_idiv (pc' := 160) O dX8_makeAmount_159 (by decide) rfl ?_
      refine g_istore (lv' := [(14, .int (x14 / (10 : Int32))), (13, .int (x13 + (1 : Int32))), (0, .ref x0), (1, .int x1), (2, .int x2), (5, .int x5), (10, .int x10), (11, .int x11), (12, .int x12)]) (pc' := 162) O dX8_makeAmount_160 (by decide) rfl rfl ?_
      refine g_goto (pc' := 147) O dX8_makeAmount_162 (by decide) ?_
      refine g_sub (lv' := [(0, .ref x0), (1, .int x1), (2, .int x2), (5, .int x5), (10, .int x10), (11, .int x11), (12, .int x12), (13, .int (x13 + (1 : Int32))), (14, .int (x14 / (10 : Int32)))]) [2, 3, 4, 5, 6, 7, 8, 1, 0] rfl ?_
      exact ih x0 x1 x2 x5 x10 x11 x12 (x13 + (1 : Int32)) (x14 / (10 : Int32)) M h
def fX8_makeAmount_117  (x0 : Nat) (x1 : Int32) (x2 : Int32) (x5 : Int32) (x8 : Int64) (s0 : Int32) (M : Mem) : Option (Int32 × Mem) :=
  fX8_makeAmount_147 FU x0 x1 x2 x5 s0 ((x8 / (1000000 : Int64)).toInt32) ((rmL x8 (1000000 : Int64)).toInt32) (1 : Int32) (((x8 / (1000000 : Int64)).toInt32) / (10 : Int32)) M
set_option maxHeartbeats 4000000 in
set_option maxRecDepth 100000 in
theorem tX8_makeAmount_117 {κ : KT} {p : Int32 × Mem} (O : OkK κ mX8_makeAmount) (hf : κ.2.2.2.2.2.2.2.2.2.2.2.2.2 = (some (.int p.1), p.2))  {x0 : Nat} {x1 : Int32} {x2 : Int32} {x5 : Int32} {x8 : Int64} {s0 : Int32} {M : Mem} (h : fX8_makeAmount_117  x0 x1 x2 x5 x8 s0 M = some p) : G κ mX8_makeAmount 0 0 117 [(0, .ref x0), (1, .int x1), (2, .int x2), (5, .int x5), (8, .long x8)] [.int s0] M := by
  unfold fX8_makeAmount_117 at h
  refine g_istore (lv' := [(10, .int s0), (0, .ref x0), (1, .int x1), (2, .int x2), (5, .int x5), (8, .long x8)]) (pc' := 119) O dX8_makeAmount_117 (by decide) rfl rfl ?_
  refine g_lload (pc' := 121) 5 O dX8_makeAmount_119 rfl rfl ?_
  refine g_ldc2 (v := 1000000) (pc' := 124) O dX8_makeAmount_121 tw_880 rfl ?_
  refine g_ldiv (pc' := 125) O dX8_makeAmount_124 (by decide) rfl ?_
  refine g_l2i (pc' := 126) O dX8_makeAmount_125 rfl ?_
  refine g_istore (lv' := [(11, .int ((x8 / (1000000 : Int64)).toInt32)), (10, .int s0), (0, .ref x0), (1, .int x1), (2, .int x2), (5, .int x5), (8, .long x8)]) (pc' := 128) O dX8_makeAmount_126 (by decide) rfl rfl ?_
  refine g_lload (pc' := 130) 6 O dX8_makeAmount_128 rfl rfl ?_
  refine g_ldc2 (v := 1000000) (pc' := 133) O dX8_makeAmount_130 tw_880 rfl ?_
  refine g_lrem2 (pc' := 134) O dX8_makeAmount_133 (by decide) rfl ?_
  refine g_l2i (pc' := 135) O dX8_makeAmount_134 rfl ?_
  refine g_istore (lv' := [(12, .int ((rmL x8 (1000000 : Int64)).toInt32)), (11, .int ((x8 / (1000000 : Int64)).toInt32)), (10, .int s0), (0, .ref x0), (1, .int x1), (2, .int x2), (5, .int x5), (8, .long x8)]) (pc' := 137) O dX8_makeAmount_135 (by decide) rfl rfl ?_
  refine g_iconst (v := 1) (pc' := 138) O dX8_makeAmount_137 (by decide) rfl ?_
  refine g_istore (lv' := [(13, .int (1 : Int32)), (12, .int ((rmL x8 (1000000 : Int64)).toInt32)), (11, .int ((x8 / (1000000 : Int64)).toInt32)), (10, .int s0), (0, .ref x0), (1, .int x1), (2, .int x2), (5, .int x5), (8, .long x8)]) (pc' := 140) O dX8_makeAmount_138 (by decide) rfl rfl ?_
  refine g_iload (pc' := 142) 2 O dX8_makeAmount_140 rfl rfl ?_
  refine g_bipush (v := 10) (pc' := 144) O dX8_makeAmount_142 (by decide) rfl ?_
  refine g_idiv (pc' := 145) O dX8_makeAmount_144 (by decide) rfl ?_
  refine g_istore (lv' := [(14, .int (((x8 / (1000000 : Int64)).toInt32) / (10 : Int32))), (13, .int (1 : Int32)), (12, .int ((rmL x8 (1000000 : Int64)).toInt32)), (11, .int ((x8 / (1000000 : Int64)).toInt32)), (10, .int s0), (0, .ref x0), (1, .int x1), (2, .int x2), (5, .int x5), (8, .long x8)]) (pc' := 147) O dX8_makeAmount_145 (by decide) rfl rfl ?_
  refine g_sub (lv' := [(0, .ref x0), (1, .int x1), (2, .int x2), (5, .int x5), (10, .int s0), (11, .int ((x8 / (1000000 : Int64)).toInt32)), (12, .int ((rmL x8 (1000000 : Int64)).toInt32)), (13, .int (1 : Int32)), (14, .int (((x8 / (1000000 : Int64)).toInt32) / (10 : Int32)))]) [5, 6, 7, 8, 4, 3, 2, 1, 0] rfl ?_
  exact tX8_makeAmount_147 O hf FU x0 x1 x2 x5 s0 ((x8 / (1000000 : Int64)).toInt32) ((rmL x8 (1000000 : Int64)).toInt32) (1 : Int32) (((x8 / (1000000 : Int64)).toInt32) / (10 : Int32)) M h
def fX8_makeAmount_116  (x0 : Nat) (x1 : Int32) (x2 : Int32) (x5 : Int32) (x8 : Int64) (M : Mem) : Option (Int32 × Mem) :=
  fX8_makeAmount_117 x0 x1 x2 x5 x8 (0 : Int32) M
set_option maxHeartbeats 4000000 in
set_option maxRecDepth 100000 in
theorem tX8_makeAmount_116 {κ : KT} {p : Int32 × Mem} (O : OkK κ mX8_makeAmount) (hf : κ.2.2.2.2.2.2.2.2.2.2.2.2.2 = (some (.int p.1), p.2))  {x0 : Nat} {x1 : Int32} {x2 : Int32} {x5 : Int32} {x8 : Int64} {M : Mem} (h : fX8_makeAmount_116  x0 x1 x2 x5 x8 M = some p) : G κ mX8_makeAmount 0 0 116 [(0, .ref x0), (1, .int x1), (2, .int x2), (5, .int x5), (8, .long x8)] [] M := by
  unfold fX8_makeAmount_116 at h
  refine g_iconst (v := 0) (pc' := 117) O dX8_makeAmount_116 (by decide) rfl ?_
  exact tX8_makeAmount_117 O hf h
def fX8_makeAmount_69  (x0 : Nat) (x1 : Int32) (x2 : Int32) (x3 : Int64) (x5 : Int32) (x6 : Int64) (s0 : Int64) (M : Mem) : Option (Int32 × Mem) :=
  (dzL x6).bind fun z1 =>
  if (lg_cmp (((s0 + (x6 / (2 : Int64))) / x6) * x6) (999999999999999 : Int64)) ≤ 0 then (if 0 ≤ (lg_cmp x3 (0 : Int64)) then (fX8_makeAmount_116 x0 x1 x2 x5 (((s0 + (x6 / (2 : Int64))) / x6) * x6) M)
  else (if (lg_cmp (((s0 + (x6 / (2 : Int64))) / x6) * x6) (0 : Int64)) ≤ 0 then (fX8_makeAmount_116 x0 x1 x2 x5 (((s0 + (x6 / (2 : Int64))) / x6) * x6) M)
  else (fX8_makeAmount_117 x0 x1 x2 x5 (((s0 + (x6 / (2 : Int64))) / x6) * x6) (1 : Int32) M)))
  else ((nz (0 : Int32)).bind fun z2 =>
  some (z2, M))
set_option maxHeartbeats 4000000 in
set_option maxRecDepth 100000 in
theorem tX8_makeAmount_69 {κ : KT} {p : Int32 × Mem} (O : OkK κ mX8_makeAmount) (hf : κ.2.2.2.2.2.2.2.2.2.2.2.2.2 = (some (.int p.1), p.2))  {x0 : Nat} {x1 : Int32} {x2 : Int32} {x3 : Int64} {x5 : Int32} {x6 : Int64} {s0 : Int64} {M : Mem} (h : fX8_makeAmount_69  x0 x1 x2 x3 x5 x6 s0 M = some p) : G κ mX8_makeAmount 0 0 69 [(0, .ref x0), (1, .int x1), (2, .int x2), (3, .long x3), (5, .int x5), (6, .long x6)] [.long s0] M := by
  unfold fX8_makeAmount_69 at h
  refine g_lstore (lv' := [(8, .long s0), (0, .ref x0), (1, .int x1), (2, .int x2), (3, .long x3), (5, .int x5), (6, .long x6)]) (pc' := 71) O dX8_makeAmount_69 (by decide) rfl rfl ?_
  refine g_lload (pc' := 73) 0 O dX8_makeAmount_71 rfl rfl ?_
  refine g_lload (pc' := 75) 6 O dX8_makeAmount_73 rfl rfl ?_
  refine g_ldc2 (v := 2) (pc' := 78) O dX8_makeAmount_75 tw_946 rfl ?_
  refine g_ldiv (pc' := 79) O dX8_makeAmount_78 (by decide) rfl ?_
  refine g_ladd (pc' := 80) O dX8_makeAmount_79 rfl ?_
  refine g_lload (pc' := 82) 6 O dX8_makeAmount_80 rfl rfl ?_
  replace h := ob h; obtain ⟨z1, ez1, h⟩ := h
  refine g_ldiv (pc' := 83) O dX8_makeAmount_82 (dzL_ne ez1) rfl ?_
  refine g_lload (pc' := 85) 6 O dX8_makeAmount_83 rfl rfl ?_
  refine g_lmul (pc' := 86) O dX8_makeAmount_85 rfl ?_
  refine g_lstore (lv' := [(8, .long (((s0 + (x6 / (2 : Int64))) / x6) * x6)), (0, .ref x0), (1, .int x1), (2, .int x2), (3, .long x3), (5, .int x5), (6, .long x6)]) (pc' := 88) O dX8_makeAmount_86 (by decide) rfl rfl ?_
  refine g_lload (pc' := 90) 0 O dX8_makeAmount_88 rfl rfl ?_
  refine g_ldc2 (v := 999999999999999) (pc' := 93) O dX8_makeAmount_90 tw_944 rfl ?_
  refine g_lcmp (pc' := 94) O dX8_makeAmount_93 rfl ?_
  refine g_if_le (tgt := 99) (pc' := 97) O dX8_makeAmount_94 (by decide) rfl (fun hc => ?_) (fun hc => ?_)
  · replace h := ip hc h
    refine g_lload_n (pc' := 100) 4 O dX8_makeAmount_99 rfl rfl rfl ?_
    refine g_lconst (v := 0) (pc' := 101) O dX8_makeAmount_100 (by decide) rfl ?_
    refine g_lcmp (pc' := 102) O dX8_makeAmount_101 rfl ?_
    refine g_if_ge (tgt := 116) (pc' := 105) O dX8_makeAmount_102 (by decide) rfl (fun hc => ?_) (fun hc => ?_)
    · replace h := ip hc h
      refine g_sub (lv' := [(0, .ref x0), (1, .int x1), (2, .int x2), (5, .int x5), (8, .long (((s0 + (x6 / (2 : Int64))) / x6) * x6))]) [1, 2, 3, 5, 0] rfl ?_
      exact tX8_makeAmount_116 O hf h
    · replace h := ine hc h
      refine g_lload (pc' := 107) 0 O dX8_makeAmount_105 rfl rfl ?_
      refine g_lconst (v := 0) (pc' := 108) O dX8_makeAmount_107 (by decide) rfl ?_
      refine g_lcmp (pc' := 109) O dX8_makeAmount_108 rfl ?_
      refine g_if_le (tgt := 116) (pc' := 112) O dX8_makeAmount_109 (by decide) rfl (fun hc => ?_) (fun hc => ?_)
      · replace h := ip hc h
        refine g_sub (lv' := [(0, .ref x0), (1, .int x1), (2, .int x2), (5, .int x5), (8, .long (((s0 + (x6 / (2 : Int64))) / x6) * x6))]) [1, 2, 3, 5, 0] rfl ?_
        exact tX8_makeAmount_116 O hf h
      · replace h := ine hc h
        refine g_iconst (v := 1) (pc' := 113) O dX8_makeAmount_112 (by decide) rfl ?_
        refine g_goto (pc' := 117) O dX8_makeAmount_113 (by decide) ?_
        refine g_sub (lv' := [(0, .ref x0), (1, .int x1), (2, .int x2), (5, .int x5), (8, .long (((s0 + (x6 / (2 : Int64))) / x6) * x6))]) [1, 2, 3, 5, 0] rfl ?_
        exact tX8_makeAmount_117 O hf h
  · replace h := ine hc h
    refine g_iconst (v := 0) (pc' := 98) O dX8_makeAmount_97 (by decide) rfl ?_
    replace h := ob h; obtain ⟨z2, ez2, h⟩ := h
    obtain ⟨hz2, ez2b⟩ := nz_spec ez2
    rw [ez2b] at h
    cases h
    exact g_ireturn O dX8_makeAmount_98 rfl (nz_nar hz2) hf (by decide) (by decide)
def fX8_makeAmount_36  : Nat → Nat → Int32 → Int32 → Int64 → Int32 → Int64 → Int32 → Mem → Option (Int32 × Mem)
  | 0, _, _, _, _, _, _, _, _ => none
  | n + 1, x0, x1, x2, x3, x5, x6, x8, M =>
    if (6 : Int32) ≤ x8 then (if 0 ≤ (lg_cmp x3 (0 : Int64)) then (fX8_makeAmount_69 x0 x1 x2 x3 x5 x6 x3 M)
    else (fX8_makeAmount_69 x0 x1 x2 x3 x5 x6 (-x3) M))
    else (fX8_makeAmount_36 n x0 x1 x2 x3 x5 (x6 * (10 : Int64)) (x8 + (1 : Int32)) M)
set_option maxHeartbeats 4000000 in
set_option maxRecDepth 100000 in
theorem tX8_makeAmount_36 {κ : KT} {p : Int32 × Mem} (O : OkK κ mX8_makeAmount) (hf : κ.2.2.2.2.2.2.2.2.2.2.2.2.2 = (some (.int p.1), p.2))  : ∀ (n : Nat) (x0 : Nat) (x1 : Int32) (x2 : Int32) (x3 : Int64) (x5 : Int32) (x6 : Int64) (x8 : Int32) (M : Mem), fX8_makeAmount_36  n x0 x1 x2 x3 x5 x6 x8 M = some p → G κ mX8_makeAmount 0 0 36 [(0, .ref x0), (1, .int x1), (2, .int x2), (3, .long x3), (5, .int x5), (6, .long x6), (8, .int x8)] [] M := by
  intro n
  induction n with
  | zero => intro x0 x1 x2 x3 x5 x6 x8 M h; cases h
  | succ n ih =>
    intro x0 x1 x2 x3 x5 x6 x8 M h
    rw [fX8_makeAmount_36] at h
    refine g_iload (pc' := 38) 6 O dX8_makeAmount_36 rfl rfl ?_
    refine g_bipush (v := 6) (pc' := 40) O dX8_makeAmount_38 (by decide) rfl ?_
    refine g_icmp_ge (tgt := 57) (pc' := 43) O dX8_makeAmount_40 (by decide) rfl (fun hc => ?_) (fun hc => ?_)
    · replace h := ip hc h
      refine g_lload_n (pc' := 58) 3 O dX8_makeAmount_57 rfl rfl rfl ?_
      refine g_lconst (v := 0) (pc' := 59) O dX8_makeAmount_58 (by decide) rfl ?_
      refine g_lcmp (pc' := 60) O dX8_makeAmount_59 rfl ?_
      refine g_if_ge (tgt := 68) (pc' := 63) O dX8_makeAmount_60 (by decide) rfl (fun hc => ?_) (fun hc => ?_)
      · replace h := ip hc h
        refine g_lload_n (pc' := 69) 3 O dX8_makeAmount_68 rfl rfl rfl ?_
        refine g_sub (lv' := [(0, .ref x0), (1, .int x1), (2, .int x2), (3, .long x3), (5, .int x5), (6, .long x6)]) [0, 1, 2, 3, 4, 5] rfl ?_
        exact tX8_makeAmount_69 O hf h
      · replace h := ine hc h
        refine g_lload_n (pc' := 64) 3 O dX8_makeAmount_63 rfl rfl rfl ?_
        refine g_lneg (pc' := 65) O dX8_makeAmount_64 rfl ?_
        refine g_goto (pc' := 69) O dX8_makeAmount_65 (by decide) ?_
        refine g_sub (lv' := [(0, .ref x0), (1, .int x1), (2, .int x2), (3, .long x3), (5, .int x5), (6, .long x6)]) [0, 1, 2, 3, 4, 5] rfl ?_
        exact tX8_makeAmount_69 O hf h
    · replace h := ine hc h
      refine g_lload (pc' := 45) 5 O dX8_makeAmount_43 rfl rfl ?_
      refine g_ldc2 (v := 10) (pc' := 48) O dX8_makeAmount_45 tw_881 rfl ?_
      refine g_lmul (pc' := 49) O dX8_makeAmount_48 rfl ?_
      refine g_lstore (lv' := [(6, .long (x6 * (10 : Int64))), (0, .ref x0), (1, .int x1), (2, .int x2), (3, .long x3), (5, .int x5), (8, .int x8)]) (pc' := 51) O dX8_makeAmount_49 (by decide) rfl rfl ?_
      refine g_iinc (q := 6) (v := x8 + (1 : Int32)) (lv' := [(8, .int (x8 + (1 : Int32))), (6, .long (x6 * (10 : Int64))), (0, .ref x0), (1, .int x1), (2, .int x2), (3, .long x3), (5, .int x5)]) (pc' := 54) O dX8_makeAmount_51 rfl rfl (by decide) rfl rfl ?_
      refine g_goto (pc' := 36) O dX8_makeAmount_54 (by decide) ?_
      refine g_sub (lv' := [(0, .ref x0), (1, .int x1), (2, .int x2), (3, .long x3), (5, .int x5), (6, .long (x6 * (10 : Int64))), (8, .int (x8 + (1 : Int32)))]) [2, 3, 4, 5, 6, 1, 0] rfl ?_
      exact ih x0 x1 x2 x3 x5 (x6 * (10 : Int64)) (x8 + (1 : Int32)) M h
def fX8_makeAmount_27  (M : Mem) : Option (Int32 × Mem) :=
  (nz (0 : Int32)).bind fun z1 =>
  some (z1, M)
set_option maxHeartbeats 4000000 in
set_option maxRecDepth 100000 in
theorem tX8_makeAmount_27 {κ : KT} {p : Int32 × Mem} (O : OkK κ mX8_makeAmount) (hf : κ.2.2.2.2.2.2.2.2.2.2.2.2.2 = (some (.int p.1), p.2))  {M : Mem} (h : fX8_makeAmount_27  M = some p) : G κ mX8_makeAmount 0 0 27 [] [] M := by
  unfold fX8_makeAmount_27 at h
  refine g_iconst (v := 0) (pc' := 28) O dX8_makeAmount_27 (by decide) rfl ?_
  replace h := ob h; obtain ⟨z1, ez1, h⟩ := h
  obtain ⟨hz1, ez1b⟩ := nz_spec ez1
  rw [ez1b] at h
  cases h
  exact g_ireturn O dX8_makeAmount_28 rfl (nz_nar hz1) hf (by decide) (by decide)
def fX8_makeAmount  (this : Nat) (p0 : Int32) (p1 : Int32) (p2 : Int64) (p3 : Int32) (M : Mem) : Option (Int32 × Mem) :=
  (fX8_in p3 (0 : Int32) (6 : Int32) M).bind fun r1 =>
  if r1.1 = 0 then (fX8_makeAmount_27 r1.2)
  else (if 0 < (lg_cmp p2 (999999999999999 : Int64)) then (fX8_makeAmount_27 r1.2)
  else (if 0 ≤ (lg_cmp p2 (-999999999999999 : Int64)) then (fX8_makeAmount_36 FU this p0 p1 p2 p3 (1 : Int64) p3 r1.2)
  else (fX8_makeAmount_27 r1.2)))
set_option maxHeartbeats 4000000 in
set_option maxRecDepth 100000 in
theorem okX8_makeAmount {l : Launch} {p : Int32 × Mem} {this : Nat} {p0 : Int32} {p1 : Int32} {p2 : Int64} {p3 : Int32} {M : Mem} (h : fX8_makeAmount this p0 p1 p2 p3 M = some p) : Cn l yX8_makeAmount mX8_makeAmount [.ref this, .int p0, .int p1, .long p2, .int p3] M (some (.int p.1)) p.2 := by
  refine Cn.of [(0, .ref this), (1, .int p0), (2, .int p1), (3, .long p2), (5, .int p3)] (by decide) rfl rfl (Nat.le_of_ble_eq_true rfl) rfl (fun κ _ hf O => ?_)
  unfold fX8_makeAmount at h
  refine g_iload (pc' := 2) 4 O dX8_makeAmount_0 rfl rfl ?_
  refine g_iconst (v := 0) (pc' := 3) O dX8_makeAmount_2 (by decide) rfl ?_
  refine g_bipush (v := 6) (pc' := 5) O dX8_makeAmount_3 (by decide) rfl ?_
  replace h := ob h; obtain ⟨r1, er1, h⟩ := h
  refine g_callS (y := yX8_in) (ν := mX8_in) (n := 3) (As := [.int p3, .int (0 : Int32), .int (6 : Int32)]) (b := 0) (st := []) (M2 := r1.2) (r1 := (some (.int r1.1))) (pc' := 8) O dX8_makeAmount_5 tw_811 tw_58 tw_810 tw_809 hyX8_in rfl (okX8_in er1) (Nat.le_of_ble_eq_true rfl) ⟨Nat.le_of_ble_eq_true rfl, Nat.le_of_ble_eq_true rfl⟩ ⟨Nat.le_of_ble_eq_true rfl, Nat.le_of_ble_eq_true rfl⟩ rfl ?_
  show G κ mX8_makeAmount 0 0 8 [(0, .ref this), (1, .int p0), (2, .int p1), (3, .long p2), (5, .int p3)] [.int r1.1] r1.2
  refine g_if_eq (tgt := 27) (pc' := 11) O dX8_makeAmount_8 (by decide) rfl (fun hc => ?_) (fun hc => ?_)
  · replace h := ip hc h
    refine g_sub (lv' := []) [] rfl ?_
    exact tX8_makeAmount_27 O hf h
  · replace h := ine hc h
    refine g_lload_n (pc' := 12) 3 O dX8_makeAmount_11 rfl rfl rfl ?_
    refine g_ldc2 (v := 999999999999999) (pc' := 15) O dX8_makeAmount_12 tw_944 rfl ?_
    refine g_lcmp (pc' := 16) O dX8_makeAmount_15 rfl ?_
    refine g_if_gt (tgt := 27) (pc' := 19) O dX8_makeAmount_16 (by decide) rfl (fun hc => ?_) (fun hc => ?_)
    · replace h := ip hc h
      refine g_sub (lv' := []) [] rfl ?_
      exact tX8_makeAmount_27 O hf h
    · replace h := ine hc h
      refine g_lload_n (pc' := 20) 3 O dX8_makeAmount_19 rfl rfl rfl ?_
      refine g_ldc2 (v := -999999999999999) (pc' := 23) O dX8_makeAmount_20 tw_945 rfl ?_
      refine g_lcmp (pc' := 24) O dX8_makeAmount_23 rfl ?_
      refine g_if_ge (tgt := 29) (pc' := 27) O dX8_makeAmount_24 (by decide) rfl (fun hc => ?_) (fun hc => ?_)
      · replace h := ip hc h
        refine g_lconst (v := 1) (pc' := 30) O dX8_makeAmount_29 (by decide) rfl ?_
        refine g_lstore (lv' := [(6, .long (1 : Int64)), (0, .ref this), (1, .int p0), (2, .int p1), (3, .long p2), (5, .int p3)]) (pc' := 32) O dX8_makeAmount_30 (by decide) rfl rfl ?_
        refine g_iload (pc' := 34) 5 O dX8_makeAmount_32 rfl rfl ?_
        refine g_istore (lv' := [(8, .int p3), (6, .long (1 : Int64)), (0, .ref this), (1, .int p0), (2, .int p1), (3, .long p2), (5, .int p3)]) (pc' := 36) O dX8_makeAmount_34 (by decide) rfl rfl ?_
        refine g_sub (lv' := [(0, .ref this), (1, .int p0), (2, .int p1), (3, .long p2), (5, .int p3), (6, .long (1 : Int64)), (8, .int p3)]) [2, 3, 4, 5, 6, 1, 0] rfl ?_
        exact tX8_makeAmount_36 O hf FU this p0 p1 p2 p3 (1 : Int64) p3 r1.2 h
      · replace h := ine hc h
        refine g_sub (lv' := []) [] rfl ?_
        exact tX8_makeAmount_27 O hf h
abbrev mX8_makeDay : MD := (cX8_makeDay, 7, RX8, (some .boolean), { frames := 3, cells := 0, slots := 0, locals := 68 }, "makeDay")
theorem hyX8_makeDay : yX8_makeDay.cls ≠ "java/lang/invoke/MethodHandle" ∧ yX8_makeDay.cls ≠ "java/lang/invoke/VarHandle" ∧ (parseMethodDescriptor yX8_makeDay.desc).map (fun d => d.parameters.length) = some 2 := by decide +kernel
def fX8_makeDay_208  (x0 : Nat) (x1 : Int32) (x4 : Int32) (s0 : Int32) (s1 : Nat) (M : Mem) : Option (Int32 × Mem) :=
  (ck M 5 s1).bind fun u1 =>
  (fX8_sayDigits s1 s0 (2 : Int32) M).bind fun r2 =>
  (gN r2 5 x0 9).bind fun v3 =>
  (aI r2 v3 x1).bind fun v4 =>
  (ck r2 5 x0).bind fun u5 =>
  (fX8_say x0 v4 r2).bind fun r6 =>
  (ck r6 5 x0).bind fun u7 =>
  (fX8_sayDigits x0 x4 (4 : Int32) r6).bind fun r8 =>
  (nz (1 : Int32)).bind fun z9 =>
  some (z9, r8)
set_option maxHeartbeats 4000000 in
set_option maxRecDepth 100000 in
theorem tX8_makeDay_208 {κ : KT} {p : Int32 × Mem} (O : OkK κ mX8_makeDay) (hf : κ.2.2.2.2.2.2.2.2.2.2.2.2.2 = (some (.int p.1), p.2))  {x0 : Nat} {x1 : Int32} {x4 : Int32} {s0 : Int32} {s1 : Nat} {M : Mem} (h : fX8_makeDay_208  x0 x1 x4 s0 s1 M = some p) : G κ mX8_makeDay 0 0 208 [(0, .ref x0), (1, .int x1), (4, .int x4)] [.int s0, .ref s1] M := by
  unfold fX8_makeDay_208 at h
  refine g_iconst (v := 2) (pc' := 209) O dX8_makeDay_208 (by decide) rfl ?_
  replace h := ob h; obtain ⟨u1, eu1, h⟩ := h
  replace h := ob h; obtain ⟨r2, er2, h⟩ := h
  refine g_callV (y := yX8_sayDigits) (ν := mX8_sayDigits) (n := 2) (As := [.int s0, .int (2 : Int32)]) (b := s1) (st := []) (M2 := r2) (r1 := none) (pc' := 212) O dX8_makeDay_209 tw_935 tw_58 tw_934 tw_36 tw_932 hyX8_sayDigits rfl rfl eu1 (okX8_sayDigits er2) (Nat.le_of_ble_eq_true rfl) ⟨Nat.le_of_ble_eq_true rfl, Nat.le_of_ble_eq_true rfl⟩ ⟨Nat.le_of_ble_eq_true rfl, Nat.le_of_ble_eq_true rfl⟩ rfl ?_
  show G κ mX8_makeDay 0 0 212 [(0, .ref x0), (1, .int x1), (4, .int x4)] [] r2
  refine g_aload_n (pc' := 213) 0 O dX8_makeDay_212 rfl rfl rfl ?_
  refine g_aload_n (pc' := 214) 0 O dX8_makeDay_213 rfl rfl rfl ?_
  replace h := ob h; obtain ⟨v3, ev3, h⟩ := h
  refine g_getF (C := RX8) (T := TX8) (N := 29) (ci := 5) (k := 9) (pc' := 217) O dX8_makeDay_214 rfl inX8 (by decide) tw_725 (gN_F ev3) rfl ?_
  refine g_iload_n (pc' := 218) 1 O dX8_makeDay_217 rfl rfl rfl ?_
  replace h := ob h; obtain ⟨v4, ev4, h⟩ := h
  refine g_iald (pc' := 219) O dX8_makeDay_218 ev4 rfl ?_
  replace h := ob h; obtain ⟨u5, eu5, h⟩ := h
  replace h := ob h; obtain ⟨r6, er6, h⟩ := h
  refine g_callV (y := yX8_say) (ν := mX8_say) (n := 1) (As := [.int v4]) (b := x0) (st := []) (M2 := r6) (r1 := none) (pc' := 222) O dX8_makeDay_219 tw_939 tw_58 tw_938 tw_37 tw_936 hyX8_say rfl rfl eu5 (okX8_say er6) (Nat.le_of_ble_eq_true rfl) ⟨Nat.le_of_ble_eq_true rfl, Nat.le_of_ble_eq_true rfl⟩ ⟨Nat.le_of_ble_eq_true rfl, Nat.le_of_ble_eq_true rfl⟩ rfl ?_
  show G κ mX8_makeDay 0 0 222 [(0, .ref x0), (1, .int x1), (4, .int x4)] [] r6
  refine g_aload_n (pc' := 223) 0 O dX8_makeDay_222 rfl rfl rfl ?_
  refine g_iload (pc' := 225) 2 O dX8_makeDay_223 rfl rfl ?_
  refine g_iconst (v := 4) (pc' := 226) O dX8_makeDay_225 (by decide) rfl ?_
  replace h := ob h; obtain ⟨u7, eu7, h⟩ := h
  replace h := ob h; obtain ⟨r8, er8, h⟩ := h
  refine g_callV (y := yX8_sayDigits) (ν := mX8_sayDigits) (n := 2) (As := [.int x4, .int (4 : Int32)]) (b := x0) (st := []) (M2 := r8) (r1 := none) (pc' := 229) O dX8_makeDay_226 tw_935 tw_58 tw_934 tw_36 tw_932 hyX8_sayDigits rfl rfl eu7 (okX8_sayDigits er8) (Nat.le_of_ble_eq_true rfl) ⟨Nat.le_of_ble_eq_true rfl, Nat.le_of_ble_eq_true rfl⟩ ⟨Nat.le_of_ble_eq_true rfl, Nat.le_of_ble_eq_true rfl⟩ rfl ?_
  show G κ mX8_makeDay 0 0 229 [(0, .ref x0), (1, .int x1), (4, .int x4)] [] r8
  refine g_iconst (v := 1) (pc' := 230) O dX8_makeDay_229 (by decide) rfl ?_
  replace h := ob h; obtain ⟨z9, ez9, h⟩ := h
  obtain ⟨hz9, ez9b⟩ := nz_spec ez9
  rw [ez9b] at h
  cases h
  exact g_ireturn O dX8_makeDay_230 rfl (nz_nar hz9) hf (by decide) (by decide)
def fX8_makeDay_177  (x0 : Nat) (x1 : Int32) (x4 : Int32) (x5 : Int32) (x6 : Int32) (s0 : Int32) (s1 : Nat) (M : Mem) : Option (Int32 × Mem) :=
  (ck M 5 s1).bind fun u1 =>
  (fX8_sayDigits s1 s0 (2 : Int32) M).bind fun r2 =>
  (gN r2 5 x0 9).bind fun v3 =>
  (aI r2 v3 x1).bind fun v4 =>
  (ck r2 5 x0).bind fun u5 =>
  (fX8_say x0 v4 r2).bind fun r6 =>
  (gN r6 5 x0 8).bind fun v7 =>
  (aI r6 v7 x1).bind fun v8 =>
  if v8 = 0 then (fX8_makeDay_208 x0 x1 x4 x5 x0 r6)
  else (fX8_makeDay_208 x0 x1 x4 x6 x0 r6)
set_option maxHeartbeats 4000000 in
set_option maxRecDepth 100000 in
theorem tX8_makeDay_177 {κ : KT} {p : Int32 × Mem} (O : OkK κ mX8_makeDay) (hf : κ.2.2.2.2.2.2.2.2.2.2.2.2.2 = (some (.int p.1), p.2))  {x0 : Nat} {x1 : Int32} {x4 : Int32} {x5 : Int32} {x6 : Int32} {s0 : Int32} {s1 : Nat} {M : Mem} (h : fX8_makeDay_177  x0 x1 x4 x5 x6 s0 s1 M = some p) : G κ mX8_makeDay 0 0 177 [(0, .ref x0), (1, .int x1), (4, .int x4), (5, .int x5), (6, .int x6)] [.int s0, .ref s1] M := by
  unfold fX8_makeDay_177 at h
  refine g_iconst (v := 2) (pc' := 178) O dX8_makeDay_177 (by decide) rfl ?_
  replace h := ob h; obtain ⟨u1, eu1, h⟩ := h
  replace h := ob h; obtain ⟨r2, er2, h⟩ := h
  refine g_callV (y := yX8_sayDigits) (ν := mX8_sayDigits) (n := 2) (As := [.int s0, .int (2 : Int32)]) (b := s1) (st := []) (M2 := r2) (r1 := none) (pc' := 181) O dX8_makeDay_178 tw_935 tw_58 tw_934 tw_36 tw_932 hyX8_sayDigits rfl rfl eu1 (okX8_sayDigits er2) (Nat.le_of_ble_eq_true rfl) ⟨Nat.le_of_ble_eq_true rfl, Nat.le_of_ble_eq_true rfl⟩ ⟨Nat.le_of_ble_eq_true rfl, Nat.le_of_ble_eq_true rfl⟩ rfl ?_
  show G κ mX8_makeDay 0 0 181 [(0, .ref x0), (1, .int x1), (4, .int x4), (5, .int x5), (6, .int x6)] [] r2
  refine g_aload_n (pc' := 182) 0 O dX8_makeDay_181 rfl rfl rfl ?_
  refine g_aload_n (pc' := 183) 0 O dX8_makeDay_182 rfl rfl rfl ?_
  replace h := ob h; obtain ⟨v3, ev3, h⟩ := h
  refine g_getF (C := RX8) (T := TX8) (N := 29) (ci := 5) (k := 9) (pc' := 186) O dX8_makeDay_183 rfl inX8 (by decide) tw_725 (gN_F ev3) rfl ?_
  refine g_iload_n (pc' := 187) 1 O dX8_makeDay_186 rfl rfl rfl ?_
  replace h := ob h; obtain ⟨v4, ev4, h⟩ := h
  refine g_iald (pc' := 188) O dX8_makeDay_187 ev4 rfl ?_
  replace h := ob h; obtain ⟨u5, eu5, h⟩ := h
  replace h := ob h; obtain ⟨r6, er6, h⟩ := h
  refine g_callV (y := yX8_say) (ν := mX8_say) (n := 1) (As := [.int v4]) (b := x0) (st := []) (M2 := r6) (r1 := none) (pc' := 191) O dX8_makeDay_188 tw_939 tw_58 tw_938 tw_37 tw_936 hyX8_say rfl rfl eu5 (okX8_say er6) (Nat.le_of_ble_eq_true rfl) ⟨Nat.le_of_ble_eq_true rfl, Nat.le_of_ble_eq_true rfl⟩ ⟨Nat.le_of_ble_eq_true rfl, Nat.le_of_ble_eq_true rfl⟩ rfl ?_
  show G κ mX8_makeDay 0 0 191 [(0, .ref x0), (1, .int x1), (4, .int x4), (5, .int x5), (6, .int x6)] [] r6
  refine g_aload_n (pc' := 192) 0 O dX8_makeDay_191 rfl rfl rfl ?_
  refine g_aload_n (pc' := 193) 0 O dX8_makeDay_192 rfl rfl rfl ?_
  replace h := ob h; obtain ⟨v7, ev7, h⟩ := h
  refine g_getF (C := RX8) (T := TX8) (N := 29) (ci := 5) (k := 8) (pc' := 196) O dX8_makeDay_193 rfl inX8 (by decide) tw_724 (gN_F ev7) rfl ?_
  refine g_iload_n (pc' := 197) 1 O dX8_makeDay_196 rfl rfl rfl ?_
  replace h := ob h; obtain ⟨v8, ev8, h⟩ := h
  refine g_iald (pc' := 198) O dX8_makeDay_197 ev8 rfl ?_
  refine g_if_ne (tgt := 206) (pc' := 201) O dX8_makeDay_198 (by decide) rfl (fun hc => ?_) (fun hc => ?_)
  · replace h := ine hc h
    refine g_iload (pc' := 208) 4 O dX8_makeDay_206 rfl rfl ?_
    refine g_sub (lv' := [(0, .ref x0), (1, .int x1), (4, .int x4)]) [0, 1, 2] rfl ?_
    exact tX8_makeDay_208 O hf h
  · replace h := ip hc h
    refine g_iload (pc' := 203) 3 O dX8_makeDay_201 rfl rfl ?_
    refine g_goto (pc' := 208) O dX8_makeDay_203 (by decide) ?_
    refine g_sub (lv' := [(0, .ref x0), (1, .int x1), (4, .int x4)]) [0, 1, 2] rfl ?_
    exact tX8_makeDay_208 O hf h
def fX8_makeDay_92  (x0 : Nat) (x1 : Int32) (x2 : Int64) (x4 : Int32) (x5 : Int32) (M : Mem) : Option (Int32 × Mem) :=
  (fX8_dayNumber (1 : Int32) x5 x4 M).bind fun r1 =>
  (gN r1.2 5 x0 8).bind fun v2 =>
  (aI r1.2 v2 x1).bind fun v3 =>
  if v3 = (2 : Int32) then ((ck r1.2 5 x0).bind fun u6 =>
  (fX8_sayDigits x0 x4 (4 : Int32) r1.2).bind fun r7 =>
  (gN r7 5 x0 9).bind fun v8 =>
  (aI r7 v8 x1).bind fun v9 =>
  (ck r7 5 x0).bind fun u10 =>
  (fX8_say x0 v9 r7).bind fun r11 =>
  (ck r11 5 x0).bind fun u12 =>
  (fX8_sayDigits x0 x5 (2 : Int32) r11).bind fun r13 =>
  (gN r13 5 x0 9).bind fun v14 =>
  (aI r13 v14 x1).bind fun v15 =>
  (ck r13 5 x0).bind fun u16 =>
  (fX8_say x0 v15 r13).bind fun r17 =>
  (ck r17 5 x0).bind fun u18 =>
  (fX8_sayDigits x0 (((x2 - r1.1).toInt32) + (1 : Int32)) (2 : Int32) r17).bind fun r19 =>
  (nz (1 : Int32)).bind fun z20 =>
  some (z20, r19))
  else ((gN r1.2 5 x0 8).bind fun v4 =>
  (aI r1.2 v4 x1).bind fun v5 =>
  if v5 = 0 then (fX8_makeDay_177 x0 x1 x4 x5 (((x2 - r1.1).toInt32) + (1 : Int32)) (((x2 - r1.1).toInt32) + (1 : Int32)) x0 r1.2)
  else (fX8_makeDay_177 x0 x1 x4 x5 (((x2 - r1.1).toInt32) + (1 : Int32)) x5 x0 r1.2))
set_option maxHeartbeats 4000000 in
set_option maxRecDepth 100000 in
theorem tX8_makeDay_92 {κ : KT} {p : Int32 × Mem} (O : OkK κ mX8_makeDay) (hf : κ.2.2.2.2.2.2.2.2.2.2.2.2.2 = (some (.int p.1), p.2))  {x0 : Nat} {x1 : Int32} {x2 : Int64} {x4 : Int32} {x5 : Int32} {M : Mem} (h : fX8_makeDay_92  x0 x1 x2 x4 x5 M = some p) : G κ mX8_makeDay 0 0 92 [(0, .ref x0), (1, .int x1), (2, .long x2), (4, .int x4), (5, .int x5)] [] M := by
  unfold fX8_makeDay_92 at h
  refine g_lload_n (pc' := 93) 2 O dX8_makeDay_92 rfl rfl rfl ?_
  refine g_iconst (v := 1) (pc' := 94) O dX8_makeDay_93 (by decide) rfl ?_
  refine g_iload (pc' := 96) 4 O dX8_makeDay_94 rfl rfl ?_
  refine g_iload (pc' := 98) 3 O dX8_makeDay_96 rfl rfl ?_
  replace h := ob h; obtain ⟨r1, er1, h⟩ := h
  refine g_callS (y := yX8_dayNumber) (ν := mX8_dayNumber) (n := 3) (As := [.int (1 : Int32), .int x5, .int x4]) (b := 0) (st := [.long x2]) (M2 := r1.2) (r1 := (some (.long r1.1))) (pc' := 101) O dX8_makeDay_98 tw_902 tw_58 tw_901 tw_900 hyX8_dayNumber rfl (okX8_dayNumber er1) (Nat.le_of_ble_eq_true rfl) ⟨Nat.le_of_ble_eq_true rfl, Nat.le_of_ble_eq_true rfl⟩ ⟨Nat.le_of_ble_eq_true rfl, Nat.le_of_ble_eq_true rfl⟩ rfl ?_
  show G κ mX8_makeDay 0 0 101 [(0, .ref x0), (1, .int x1), (2, .long x2), (4, .int x4), (5, .int x5)] [.long r1.1, .long x2] r1.2
  refine g_lsub (pc' := 102) O dX8_makeDay_101 rfl ?_
  refine g_l2i (pc' := 103) O dX8_makeDay_102 rfl ?_
  refine g_iconst (v := 1) (pc' := 104) O dX8_makeDay_103 (by decide) rfl ?_
  refine g_iadd (pc' := 105) O dX8_makeDay_104 rfl ?_
  refine g_istore (lv' := [(6, .int (((x2 - r1.1).toInt32) + (1 : Int32))), (0, .ref x0), (1, .int x1), (2, .long x2), (4, .int x4), (5, .int x5)]) (pc' := 107) O dX8_makeDay_105 (by decide) rfl rfl ?_
  refine g_aload_n (pc' := 108) 1 O dX8_makeDay_107 rfl rfl rfl ?_
  replace h := ob h; obtain ⟨v2, ev2, h⟩ := h
  refine g_getF (C := RX8) (T := TX8) (N := 29) (ci := 5) (k := 8) (pc' := 111) O dX8_makeDay_108 rfl inX8 (by decide) tw_724 (gN_F ev2) rfl ?_
  refine g_iload_n (pc' := 112) 2 O dX8_makeDay_111 rfl rfl rfl ?_
  replace h := ob h; obtain ⟨v3, ev3, h⟩ := h
  refine g_iald (pc' := 113) O dX8_makeDay_112 ev3 rfl ?_
  refine g_iconst (v := 2) (pc' := 114) O dX8_makeDay_113 (by decide) rfl ?_
  refine g_icmp_ne (tgt := 160) (pc' := 117) O dX8_makeDay_114 (by decide) rfl (fun hc => ?_) (fun hc => ?_)
  · replace h := ine hc h
    refine g_aload_n (pc' := 161) 1 O dX8_makeDay_160 rfl rfl rfl ?_
    refine g_aload_n (pc' := 162) 1 O dX8_makeDay_161 rfl rfl rfl ?_
    replace h := ob h; obtain ⟨v4, ev4, h⟩ := h
    refine g_getF (C := RX8) (T := TX8) (N := 29) (ci := 5) (k := 8) (pc' := 165) O dX8_makeDay_162 rfl inX8 (by decide) tw_724 (gN_F ev4) rfl ?_
    refine g_iload_n (pc' := 166) 2 O dX8_makeDay_165 rfl rfl rfl ?_
    replace h := ob h; obtain ⟨v5, ev5, h⟩ := h
    refine g_iald (pc' := 167) O dX8_makeDay_166 ev5 rfl ?_
    refine g_if_ne (tgt := 175) (pc' := 170) O dX8_makeDay_167 (by decide) rfl (fun hc => ?_) (fun hc => ?_)
    · replace h := ine hc h
      refine g_iload (pc' := 177) 5 O dX8_makeDay_175 rfl rfl ?_
      refine g_sub (lv' := [(0, .ref x0), (1, .int x1), (4, .int x4), (5, .int x5), (6, .int (((x2 - r1.1).toInt32) + (1 : Int32)))]) [1, 2, 4, 5, 0] rfl ?_
      exact tX8_makeDay_177 O hf h
    · replace h := ip hc h
      refine g_iload (pc' := 172) 0 O dX8_makeDay_170 rfl rfl ?_
      refine g_goto (pc' := 177) O dX8_makeDay_172 (by decide) ?_
      refine g_sub (lv' := [(0, .ref x0), (1, .int x1), (4, .int x4), (5, .int x5), (6, .int (((x2 - r1.1).toInt32) + (1 : Int32)))]) [1, 2, 4, 5, 0] rfl ?_
      exact tX8_makeDay_177 O hf h
  · replace h := ip hc h
    refine g_aload_n (pc' := 118) 1 O dX8_makeDay_117 rfl rfl rfl ?_
    refine g_iload (pc' := 120) 4 O dX8_makeDay_118 rfl rfl ?_
    refine g_iconst (v := 4) (pc' := 121) O dX8_makeDay_120 (by decide) rfl ?_
    replace h := ob h; obtain ⟨u6, eu6, h⟩ := h
    replace h := ob h; obtain ⟨r7, er7, h⟩ := h
    refine g_callV (y := yX8_sayDigits) (ν := mX8_sayDigits) (n := 2) (As := [.int x4, .int (4 : Int32)]) (b := x0) (st := []) (M2 := r7) (r1 := none) (pc' := 124) O dX8_makeDay_121 tw_935 tw_58 tw_934 tw_36 tw_932 hyX8_sayDigits rfl rfl eu6 (okX8_sayDigits er7) (Nat.le_of_ble_eq_true rfl) ⟨Nat.le_of_ble_eq_true rfl, Nat.le_of_ble_eq_true rfl⟩ ⟨Nat.le_of_ble_eq_true rfl, Nat.le_of_ble_eq_true rfl⟩ rfl ?_
    show G κ mX8_makeDay 0 0 124 [(6, .int (((x2 - r1.1).toInt32) + (1 : Int32))), (0, .ref x0), (1, .int x1), (2, .long x2), (4, .int x4), (5, .int x5)] [] r7
    refine g_aload_n (pc' := 125) 1 O dX8_makeDay_124 rfl rfl rfl ?_
    refine g_aload_n (pc' := 126) 1 O dX8_makeDay_125 rfl rfl rfl ?_
    replace h := ob h; obtain ⟨v8, ev8, h⟩ := h
    refine g_getF (C := RX8) (T := TX8) (N := 29) (ci := 5) (k := 9) (pc' := 129) O dX8_makeDay_126 rfl inX8 (by decide) tw_725 (gN_F ev8) rfl ?_
    refine g_iload_n (pc' := 130) 2 O dX8_makeDay_129 rfl rfl rfl ?_
    replace h := ob h; obtain ⟨v9, ev9, h⟩ := h
    refine g_iald (pc' := 131) O dX8_makeDay_130 ev9 rfl ?_
    replace h := ob h; obtain ⟨u10, eu10, h⟩ := h
    replace h := ob h; obtain ⟨r11, er11, h⟩ := h
    refine g_callV (y := yX8_say) (ν := mX8_say) (n := 1) (As := [.int v9]) (b := x0) (st := []) (M2 := r11) (r1 := none) (pc' := 134) O dX8_makeDay_131 tw_939 tw_58 tw_938 tw_37 tw_936 hyX8_say rfl rfl eu10 (okX8_say er11) (Nat.le_of_ble_eq_true rfl) ⟨Nat.le_of_ble_eq_true rfl, Nat.le_of_ble_eq_true rfl⟩ ⟨Nat.le_of_ble_eq_true rfl, Nat.le_of_ble_eq_true rfl⟩ rfl ?_
    show G κ mX8_makeDay 0 0 134 [(6, .int (((x2 - r1.1).toInt32) + (1 : Int32))), (0, .ref x0), (1, .int x1), (2, .long x2), (4, .int x4), (5, .int x5)] [] r11
    refine g_aload_n (pc' := 135) 1 O dX8_makeDay_134 rfl rfl rfl ?_
    refine g_iload (pc' := 137) 5 O dX8_makeDay_135 rfl rfl ?_
    refine g_iconst (v := 2) (pc' := 138) O dX8_makeDay_137 (by decide) rfl ?_
    replace h := ob h; obtain ⟨u12, eu12, h⟩ := h
    replace h := ob h; obtain ⟨r13, er13, h⟩ := h
    refine g_callV (y := yX8_sayDigits) (ν := mX8_sayDigits) (n := 2) (As := [.int x5, .int (2 : Int32)]) (b := x0) (st := []) (M2 := r13) (r1 := none) (pc' := 141) O dX8_makeDay_138 tw_935 tw_58 tw_934 tw_36 tw_932 hyX8_sayDigits rfl rfl eu12 (okX8_sayDigits er13) (Nat.le_of_ble_eq_true rfl) ⟨Nat.le_of_ble_eq_true rfl, Nat.le_of_ble_eq_true rfl⟩ ⟨Nat.le_of_ble_eq_true rfl, Nat.le_of_ble_eq_true rfl⟩ rfl ?_
    show G κ mX8_makeDay 0 0 141 [(6, .int (((x2 - r1.1).toInt32) + (1 : Int32))), (0, .ref x0), (1, .int x1), (2, .long x2), (4, .int x4), (5, .int x5)] [] r13
    refine g_aload_n (pc' := 142) 1 O dX8_makeDay_141 rfl rfl rfl ?_
    refine g_aload_n (pc' := 143) 1 O dX8_makeDay_142 rfl rfl rfl ?_
    replace h := ob h; obtain ⟨v14, ev14, h⟩ := h
    refine g_getF (C := RX8) (T := TX8) (N := 29) (ci := 5) (k := 9) (pc' := 146) O dX8_makeDay_143 rfl inX8 (by decide) tw_725 (gN_F ev14) rfl ?_
    refine g_iload_n (pc' := 147) 2 O dX8_makeDay_146 rfl rfl rfl ?_
    replace h := ob h; obtain ⟨v15, ev15, h⟩ := h
    refine g_iald (pc' := 148) O dX8_makeDay_147 ev15 rfl ?_
    replace h := ob h; obtain ⟨u16, eu16, h⟩ := h
    replace h := ob h; obtain ⟨r17, er17, h⟩ := h
    refine g_callV (y := yX8_say) (ν := mX8_say) (n := 1) (As := [.int v15]) (b := x0) (st := []) (M2 := r17) (r1 := none) (pc' := 151) O dX8_makeDay_148 tw_939 tw_58 tw_938 tw_37 tw_936 hyX8_say rfl rfl eu16 (okX8_say er17) (Nat.le_of_ble_eq_true rfl) ⟨Nat.le_of_ble_eq_true rfl, Nat.le_of_ble_eq_true rfl⟩ ⟨Nat.le_of_ble_eq_true rfl, Nat.le_of_ble_eq_true rfl⟩ rfl ?_
    show G κ mX8_makeDay 0 0 151 [(6, .int (((x2 - r1.1).toInt32) + (1 : Int32))), (0, .ref x0), (1, .int x1), (2, .long x2), (4, .int x4), (5, .int x5)] [] r17
    refine g_aload_n (pc' := 152) 1 O dX8_makeDay_151 rfl rfl rfl ?_
    refine g_iload (pc' := 154) 0 O dX8_makeDay_152 rfl rfl ?_
    refine g_iconst (v := 2) (pc' := 155) O dX8_makeDay_154 (by decide) rfl ?_
    replace h := ob h; obtain ⟨u18, eu18, h⟩ := h
    replace h := ob h; obtain ⟨r19, er19, h⟩ := h
    refine g_callV (y := yX8_sayDigits) (ν := mX8_sayDigits) (n := 2) (As := [.int (((x2 - r1.1).toInt32) + (1 : Int32)), .int (2 : Int32)]) (b := x0) (st := []) (M2 := r19) (r1 := none) (pc' := 158) O dX8_makeDay_155 tw_935 tw_58 tw_934 tw_36 tw_932 hyX8_sayDigits rfl rfl eu18 (okX8_sayDigits er19) (Nat.le_of_ble_eq_true rfl) ⟨Nat.le_of_ble_eq_true rfl, Nat.le_of_ble_eq_true rfl⟩ ⟨Nat.le_of_ble_eq_true rfl, Nat.le_of_ble_eq_true rfl⟩ rfl ?_
    show G κ mX8_makeDay 0 0 158 [(6, .int (((x2 - r1.1).toInt32) + (1 : Int32))), (0, .ref x0), (1, .int x1), (2, .long x2), (4, .int x4), (5, .int x5)] [] r19
    refine g_iconst (v := 1) (pc' := 159) O dX8_makeDay_158 (by decide) rfl ?_
    replace h := ob h; obtain ⟨z20, ez20, h⟩ := h
    obtain ⟨hz20, ez20b⟩ := nz_spec ez20
    rw [ez20b] at h
    cases h
    exact g_ireturn O dX8_makeDay_159 rfl (nz_nar hz20) hf (by decide) (by decide)
def fX8_makeDay_64  : Nat → Nat → Int32 → Int64 → Int32 → Int32 → Mem → Option (Int32 × Mem)
  | 0, _, _, _, _, _, _ => none
  | n + 1, x0, x1, x2, x4, x5, M =>
    if (12 : Int32) ≤ x5 then (fX8_makeDay_92 x0 x1 x2 x4 x5 M)
    else ((fX8_dayNumber (1 : Int32) (x5 + (1 : Int32)) x4 M).bind fun r1 =>
    if 0 < (lg_cmp r1.1 x2) then (fX8_makeDay_92 x0 x1 x2 x4 x5 r1.2)
    else (fX8_makeDay_64 n x0 x1 x2 x4 (x5 + (1 : Int32)) r1.2))
set_option maxHeartbeats 4000000 in
set_option maxRecDepth 100000 in
theorem tX8_makeDay_64 {κ : KT} {p : Int32 × Mem} (O : OkK κ mX8_makeDay) (hf : κ.2.2.2.2.2.2.2.2.2.2.2.2.2 = (some (.int p.1), p.2))  : ∀ (n : Nat) (x0 : Nat) (x1 : Int32) (x2 : Int64) (x4 : Int32) (x5 : Int32) (M : Mem), fX8_makeDay_64  n x0 x1 x2 x4 x5 M = some p → G κ mX8_makeDay 0 0 64 [(0, .ref x0), (1, .int x1), (2, .long x2), (4, .int x4), (5, .int x5)] [] M := by
  intro n
  induction n with
  | zero => intro x0 x1 x2 x4 x5 M h; cases h
  | succ n ih =>
    intro x0 x1 x2 x4 x5 M h
    rw [fX8_makeDay_64] at h
    refine g_iload (pc' := 66) 4 O dX8_makeDay_64 rfl rfl ?_
    refine g_bipush (v := 12) (pc' := 68) O dX8_makeDay_66 (by decide) rfl ?_
    refine g_icmp_ge (tgt := 92) (pc' := 71) O dX8_makeDay_68 (by decide) rfl (fun hc => ?_) (fun hc => ?_)
    · replace h := ip hc h
      exact tX8_makeDay_92 O hf h
    · replace h := ine hc h
      refine g_iconst (v := 1) (pc' := 72) O dX8_makeDay_71 (by decide) rfl ?_
      refine g_iload (pc' := 74) 4 O dX8_makeDay_72 rfl rfl ?_
      refine g_iconst (v := 1) (pc' := 75) O dX8_makeDay_74 (by decide) rfl ?_
      refine g_iadd (pc' := 76) O dX8_makeDay_75 rfl ?_
      refine g_iload (pc' := 78) 3 O dX8_makeDay_76 rfl rfl ?_
      replace h := ob h; obtain ⟨r1, er1, h⟩ := h
      refine g_callS (y := yX8_dayNumber) (ν := mX8_dayNumber) (n := 3) (As := [.int (1 : Int32), .int (x5 + (1 : Int32)), .int x4]) (b := 0) (st := []) (M2 := r1.2) (r1 := (some (.long r1.1))) (pc' := 81) O dX8_makeDay_78 tw_902 tw_58 tw_901 tw_900 hyX8_dayNumber rfl (okX8_dayNumber er1) (Nat.le_of_ble_eq_true rfl) ⟨Nat.le_of_ble_eq_true rfl, Nat.le_of_ble_eq_true rfl⟩ ⟨Nat.le_of_ble_eq_true rfl, Nat.le_of_ble_eq_true rfl⟩ rfl ?_
      show G κ mX8_makeDay 0 0 81 [(0, .ref x0), (1, .int x1), (2, .long x2), (4, .int x4), (5, .int x5)] [.long r1.1] r1.2
      refine g_lload_n (pc' := 82) 2 O dX8_makeDay_81 rfl rfl rfl ?_
      refine g_lcmp (pc' := 83) O dX8_makeDay_82 rfl ?_
      refine g_if_gt (tgt := 92) (pc' := 86) O dX8_makeDay_83 (by decide) rfl (fun hc => ?_) (fun hc => ?_)
      · replace h := ip hc h
        exact tX8_makeDay_92 O hf h
      · replace h := ine hc h
        refine g_iinc (q := 4) (v := x5 + (1 : Int32)) (lv' := [(5, .int (x5 + (1 : Int32))), (0, .ref x0), (1, .int x1), (2, .long x2), (4, .int x4)]) (pc' := 89) O dX8_makeDay_86 rfl rfl (by decide) rfl rfl ?_
        refine g_goto (pc' := 64) O dX8_makeDay_89 (by decide) ?_
        refine g_sub (lv' := [(0, .ref x0), (1, .int x1), (2, .long x2), (4, .int x4), (5, .int (x5 + (1 : Int32)))]) [1, 2, 3, 4, 0] rfl ?_
        exact ih x0 x1 x2 x4 (x5 + (1 : Int32)) r1.2 h
def fX8_makeDay_61  (x0 : Nat) (x1 : Int32) (x2 : Int64) (x4 : Int32) (M : Mem) : Option (Int32 × Mem) :=
  fX8_makeDay_64 FU x0 x1 x2 x4 (1 : Int32) M
set_option maxHeartbeats 4000000 in
set_option maxRecDepth 100000 in
theorem tX8_makeDay_61 {κ : KT} {p : Int32 × Mem} (O : OkK κ mX8_makeDay) (hf : κ.2.2.2.2.2.2.2.2.2.2.2.2.2 = (some (.int p.1), p.2))  {x0 : Nat} {x1 : Int32} {x2 : Int64} {x4 : Int32} {M : Mem} (h : fX8_makeDay_61  x0 x1 x2 x4 M = some p) : G κ mX8_makeDay 0 0 61 [(0, .ref x0), (1, .int x1), (2, .long x2), (4, .int x4)] [] M := by
  unfold fX8_makeDay_61 at h
  refine g_iconst (v := 1) (pc' := 62) O dX8_makeDay_61 (by decide) rfl ?_
  refine g_istore (lv' := [(5, .int (1 : Int32)), (0, .ref x0), (1, .int x1), (2, .long x2), (4, .int x4)]) (pc' := 64) O dX8_makeDay_62 (by decide) rfl rfl ?_
  refine g_sub (lv' := [(0, .ref x0), (1, .int x1), (2, .long x2), (4, .int x4), (5, .int (1 : Int32))]) [1, 2, 3, 4, 0] rfl ?_
  exact tX8_makeDay_64 O hf FU x0 x1 x2 x4 (1 : Int32) M h
def fX8_makeDay_33  : Nat → Nat → Int32 → Int64 → Int32 → Mem → Option (Int32 × Mem)
  | 0, _, _, _, _, _ => none
  | n + 1, x0, x1, x2, x4, M =>
    if (9999 : Int32) ≤ x4 then (fX8_makeDay_61 x0 x1 x2 x4 M)
    else ((fX8_dayNumber (1 : Int32) (1 : Int32) (x4 + (1 : Int32)) M).bind fun r1 =>
    if 0 < (lg_cmp r1.1 x2) then (fX8_makeDay_61 x0 x1 x2 x4 r1.2)
    else (fX8_makeDay_33 n x0 x1 x2 (x4 + (1 : Int32)) r1.2))
set_option maxHeartbeats 4000000 in
set_option maxRecDepth 100000 in
theorem tX8_makeDay_33 {κ : KT} {p : Int32 × Mem} (O : OkK κ mX8_makeDay) (hf : κ.2.2.2.2.2.2.2.2.2.2.2.2.2 = (some (.int p.1), p.2))  : ∀ (n : Nat) (x0 : Nat) (x1 : Int32) (x2 : Int64) (x4 : Int32) (M : Mem), fX8_makeDay_33  n x0 x1 x2 x4 M = some p → G κ mX8_makeDay 0 0 33 [(0, .ref x0), (1, .int x1), (2, .long x2), (4, .int x4)] [] M := by
  intro n
  induction n with
  | zero => intro x0 x1 x2 x4 M h; cases h
  | succ n ih =>
    intro x0 x1 x2 x4 M h
    rw [fX8_makeDay_33] at h
    refine g_iload (pc' := 35) 3 O dX8_makeDay_33 rfl rfl ?_
    refine g_sipush (v := 9999) (pc' := 38) O dX8_makeDay_35 (by decide) rfl ?_
    refine g_icmp_ge (tgt := 61) (pc' := 41) O dX8_makeDay_38 (by decide) rfl (fun hc => ?_) (fun hc => ?_)
    · replace h := ip hc h
      exact tX8_makeDay_61 O hf h
    · replace h := ine hc h
      refine g_iconst (v := 1) (pc' := 42) O dX8_makeDay_41 (by decide) rfl ?_
      refine g_iconst (v := 1) (pc' := 43) O dX8_makeDay_42 (by decide) rfl ?_
      refine g_iload (pc' := 45) 3 O dX8_makeDay_43 rfl rfl ?_
      refine g_iconst (v := 1) (pc' := 46) O dX8_makeDay_45 (by decide) rfl ?_
      refine g_iadd (pc' := 47) O dX8_makeDay_46 rfl ?_
      replace h := ob h; obtain ⟨r1, er1, h⟩ := h
      refine g_callS (y := yX8_dayNumber) (ν := mX8_dayNumber) (n := 3) (As := [.int (1 : Int32), .int (1 : Int32), .int (x4 + (1 : Int32))]) (b := 0) (st := []) (M2 := r1.2) (r1 := (some (.long r1.1))) (pc' := 50) O dX8_makeDay_47 tw_902 tw_58 tw_901 tw_900 hyX8_dayNumber rfl (okX8_dayNumber er1) (Nat.le_of_ble_eq_true rfl) ⟨Nat.le_of_ble_eq_true rfl, Nat.le_of_ble_eq_true rfl⟩ ⟨Nat.le_of_ble_eq_true rfl, Nat.le_of_ble_eq_true rfl⟩ rfl ?_
      show G κ mX8_makeDay 0 0 50 [(0, .ref x0), (1, .int x1), (2, .long x2), (4, .int x4)] [.long r1.1] r1.2
      refine g_lload_n (pc' := 51) 2 O dX8_makeDay_50 rfl rfl rfl ?_
      refine g_lcmp (pc' := 52) O dX8_makeDay_51 rfl ?_
      refine g_if_gt (tgt := 61) (pc' := 55) O dX8_makeDay_52 (by decide) rfl (fun hc => ?_) (fun hc => ?_)
      · replace h := ip hc h
        exact tX8_makeDay_61 O hf h
      · replace h := ine hc h
        refine g_iinc (q := 3) (v := x4 + (1 : Int32)) (lv' := [(4, .int (x4 + (1 : Int32))), (0, .ref x0), (1, .int x1), (2, .long x2)]) (pc' := 58) O dX8_makeDay_55 rfl rfl (by decide) rfl rfl ?_
        refine g_goto (pc' := 33) O dX8_makeDay_58 (by decide) ?_
        refine g_sub (lv' := [(0, .ref x0), (1, .int x1), (2, .long x2), (4, .int (x4 + (1 : Int32)))]) [1, 2, 3, 0] rfl ?_
        exact ih x0 x1 x2 (x4 + (1 : Int32)) r1.2 h
def fX8_makeDay_21  (M : Mem) : Option (Int32 × Mem) :=
  (nz (0 : Int32)).bind fun z1 =>
  some (z1, M)
set_option maxHeartbeats 4000000 in
set_option maxRecDepth 100000 in
theorem tX8_makeDay_21 {κ : KT} {p : Int32 × Mem} (O : OkK κ mX8_makeDay) (hf : κ.2.2.2.2.2.2.2.2.2.2.2.2.2 = (some (.int p.1), p.2))  {M : Mem} (h : fX8_makeDay_21  M = some p) : G κ mX8_makeDay 0 0 21 [] [] M := by
  unfold fX8_makeDay_21 at h
  refine g_iconst (v := 0) (pc' := 22) O dX8_makeDay_21 (by decide) rfl ?_
  replace h := ob h; obtain ⟨z1, ez1, h⟩ := h
  obtain ⟨hz1, ez1b⟩ := nz_spec ez1
  rw [ez1b] at h
  cases h
  exact g_ireturn O dX8_makeDay_22 rfl (nz_nar hz1) hf (by decide) (by decide)
def fX8_makeDay  (this : Nat) (p0 : Int32) (p1 : Int64) (M : Mem) : Option (Int32 × Mem) :=
  if (lg_cmp p1 (0 : Int64)) < 0 then (fX8_makeDay_21 M)
  else ((fX8_dayNumber (31 : Int32) (12 : Int32) (9999 : Int32) M).bind fun r1 =>
  if (lg_cmp p1 r1.1) ≤ 0 then (fX8_makeDay_33 FU this p0 p1 (((p1 / (366 : Int64)).toInt32) + (1 : Int32)) r1.2)
  else (fX8_makeDay_21 r1.2))
set_option maxHeartbeats 4000000 in
set_option maxRecDepth 100000 in
theorem okX8_makeDay {l : Launch} {p : Int32 × Mem} {this : Nat} {p0 : Int32} {p1 : Int64} {M : Mem} (h : fX8_makeDay this p0 p1 M = some p) : Cn l yX8_makeDay mX8_makeDay [.ref this, .int p0, .long p1] M (some (.int p.1)) p.2 := by
  refine Cn.of [(0, .ref this), (1, .int p0), (2, .long p1)] (by decide) rfl rfl (Nat.le_of_ble_eq_true rfl) rfl (fun κ _ hf O => ?_)
  unfold fX8_makeDay at h
  refine g_lload_n (pc' := 1) 2 O dX8_makeDay_0 rfl rfl rfl ?_
  refine g_lconst (v := 0) (pc' := 2) O dX8_makeDay_1 (by decide) rfl ?_
  refine g_lcmp (pc' := 3) O dX8_makeDay_2 rfl ?_
  refine g_if_lt (tgt := 21) (pc' := 6) O dX8_makeDay_3 (by decide) rfl (fun hc => ?_) (fun hc => ?_)
  · replace h := ip hc h
    refine g_sub (lv' := []) [] rfl ?_
    exact tX8_makeDay_21 O hf h
  · replace h := ine hc h
    refine g_lload_n (pc' := 7) 2 O dX8_makeDay_6 rfl rfl rfl ?_
    refine g_bipush (v := 31) (pc' := 9) O dX8_makeDay_7 (by decide) rfl ?_
    refine g_bipush (v := 12) (pc' := 11) O dX8_makeDay_9 (by decide) rfl ?_
    refine g_sipush (v := 9999) (pc' := 14) O dX8_makeDay_11 (by decide) rfl ?_
    replace h := ob h; obtain ⟨r1, er1, h⟩ := h
    refine g_callS (y := yX8_dayNumber) (ν := mX8_dayNumber) (n := 3) (As := [.int (31 : Int32), .int (12 : Int32), .int (9999 : Int32)]) (b := 0) (st := [.long p1]) (M2 := r1.2) (r1 := (some (.long r1.1))) (pc' := 17) O dX8_makeDay_14 tw_902 tw_58 tw_901 tw_900 hyX8_dayNumber rfl (okX8_dayNumber er1) (Nat.le_of_ble_eq_true rfl) ⟨Nat.le_of_ble_eq_true rfl, Nat.le_of_ble_eq_true rfl⟩ ⟨Nat.le_of_ble_eq_true rfl, Nat.le_of_ble_eq_true rfl⟩ rfl ?_
    show G κ mX8_makeDay 0 0 17 [(0, .ref this), (1, .int p0), (2, .long p1)] [.long r1.1, .long p1] r1.2
    refine g_lcmp (pc' := 18) O dX8_makeDay_17 rfl ?_
    refine g_if_le (tgt := 23) (pc' := 21) O dX8_makeDay_18 (by decide) rfl (fun hc => ?_) (fun hc => ?_)
    · replace h := ip hc h
      refine g_lload_n (pc' := 24) 2 O dX8_makeDay_23 rfl rfl rfl ?_
      refine g_ldc2 (v := 366) (pc' := 27) O dX8_makeDay_24 tw_931 rfl ?_
      refine g_ldiv (pc' := 28) O dX8_makeDay_27 (by decide) rfl ?_
      refine g_l2i (pc' := 29) O dX8_makeDay_28 rfl ?_
      refine g_iconst (v := 1) (pc' := 30) O dX8_makeDay_29 (by decide) rfl ?_
      refine g_iadd (pc' := 31) O dX8_makeDay_30 rfl ?_
      refine g_istore (lv' := [(4, .int (((p1 / (366 : Int64)).toInt32) + (1 : Int32))), (0, .ref this), (1, .int p0), (2, .long p1)]) (pc' := 33) O dX8_makeDay_31 (by decide) rfl rfl ?_
      refine g_sub (lv' := [(0, .ref this), (1, .int p0), (2, .long p1), (4, .int (((p1 / (366 : Int64)).toInt32) + (1 : Int32)))]) [1, 2, 3, 0] rfl ?_
      exact tX8_makeDay_33 O hf FU this p0 p1 (((p1 / (366 : Int64)).toInt32) + (1 : Int32)) r1.2 h
    · replace h := ine hc h
      refine g_sub (lv' := []) [] rfl ?_
      exact tX8_makeDay_21 O hf h
