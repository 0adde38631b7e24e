abbrev mX8_someDay : MD := (cX8_someDay, 17, RX8, (some .int), { frames := 3, cells := 0, slots := 0, locals := 68 }, "someDay")
theorem hyX8_someDay : yX8_someDay.cls ≠ "java/lang/invoke/MethodHandle" ∧ yX8_someDay.cls ≠ "java/lang/invoke/VarHandle" ∧ (parseMethodDescriptor yX8_someDay.desc).map (fun d => d.parameters.length) = some 4 := by decide +kernel
def fX8_someDay_394 (k261 : Nat → Int32 → Int32 → Int32 → Int32 → Int32 → Int32 → Int32 → Int32 → Int32 → Int32 → Mem → Option (Int32 × Mem)) (k281 : Nat → Int32 → Int32 → Int32 → Int32 → Int32 → Int32 → Int32 → Int32 → Int32 → Int32 → Int32 → Mem → Option (Int32 × Mem)) (x0 : Nat) (x2 : Int32) (x3 : Int32) (x4 : Int32) (x5 : Int32) (x7 : Int32) (x8 : Int32) (x11 : Int32) (x12 : Int32) (x13 : Int32) (x14 : Int32) (x15 : Int32) (M : Mem) : Option (Int32 × Mem) :=
  k281 x0 x2 x3 x4 x5 x7 x8 x11 x12 x13 x14 (x15 + (1 : Int32)) M
set_option maxHeartbeats 4000000 in
set_option maxRecDepth 100000 in
theorem tX8_someDay_394 {κ : KT} {p : Int32 × Mem} (O : OkK κ mX8_someDay) (hf : κ.2.2.2.2.2.2.2.2.2.2.2.2.2 = (some (.int p.1), p.2)) {k261 : Nat → Int32 → Int32 → Int32 → Int32 → Int32 → Int32 → Int32 → Int32 → Int32 → Int32 → Mem → Option (Int32 × Mem)} (hk261 : ∀ (x0 : Nat) (x2 : Int32) (x3 : Int32) (x4 : Int32) (x5 : Int32) (x7 : Int32) (x8 : Int32) (x11 : Int32) (x12 : Int32) (x13 : Int32) (x14 : Int32) (M : Mem), k261 x0 x2 x3 x4 x5 x7 x8 x11 x12 x13 x14 M = some p → G κ mX8_someDay 0 0 261 [(0, .ref x0), (2, .int x2), (3, .int x3), (4, .int x4), (5, .int x5), (7, .int x7), (8, .int x8), (11, .int x11), (12, .int x12), (13, .int x13), (14, .int x14)] [] M) {k281 : Nat → Int32 → Int32 → Int32 → Int32 → Int32 → Int32 → Int32 → Int32 → Int32 → Int32 → Int32 → Mem → Option (Int32 × Mem)} (hk281 : ∀ (x0 : Nat) (x2 : Int32) (x3 : Int32) (x4 : Int32) (x5 : Int32) (x7 : Int32) (x8 : Int32) (x11 : Int32) (x12 : Int32) (x13 : Int32) (x14 : Int32) (x15 : Int32) (M : Mem), k281 x0 x2 x3 x4 x5 x7 x8 x11 x12 x13 x14 x15 M = some p → G κ mX8_someDay 0 0 281 [(0, .ref x0), (2, .int x2), (3, .int x3), (4, .int x4), (5, .int x5), (7, .int x7), (8, .int x8), (11, .int x11), (12, .int x12), (13, .int x13), (14, .int x14), (15, .int x15)] [] M) {x0 : Nat} {x2 : Int32} {x3 : Int32} {x4 : Int32} {x5 : Int32} {x7 : Int32} {x8 : Int32} {x11 : Int32} {x12 : Int32} {x13 : Int32} {x14 : Int32} {x15 : Int32} {M : Mem} (h : fX8_someDay_394 k261 k281 x0 x2 x3 x4 x5 x7 x8 x11 x12 x13 x14 x15 M = some p) : G κ mX8_someDay 0 0 394 [(0, .ref x0), (2, .int x2), (3, .int x3), (4, .int x4), (5, .int x5), (7, .int x7), (8, .int x8), (11, .int x11), (12, .int x12), (13, .int x13), (14, .int x14), (15, .int x15)] [] M := by
  unfold fX8_someDay_394 at h
  refine g_iinc (q := 11) (v := x15 + (1 : Int32)) (lv' := [(15, .int (x15 + (1 : Int32))), (0, .ref x0), (2, .int x2), (3, .int x3), (4, .int x4), (5, .int x5), (7, .int x7), (8, .int x8), (11, .int x11), (12, .int x12), (13, .int x13), (14, .int x14)]) (pc' := 397) O dX8_someDay_394 rfl rfl (by decide) rfl rfl ?_
  refine g_goto (pc' := 281) O dX8_someDay_397 (by decide) ?_
  refine g_sub (lv' := [(0, .ref x0), (2, .int x2), (3, .int x3), (4, .int x4), (5, .int x5), (7, .int x7), (8, .int x8), (11, .int x11), (12, .int x12), (13, .int x13), (14, .int x14), (15, .int (x15 + (1 : Int32)))]) [1, 2, 3, 4, 5, 6, 7, 8, 9, 10, 11, 0] rfl ?_
  exact hk281 x0 x2 x3 x4 x5 x7 x8 x11 x12 x13 x14 (x15 + (1 : Int32)) M h
def fX8_someDay_331 (k261 : Nat → Int32 → Int32 → Int32 → Int32 → Int32 → Int32 → Int32 → Int32 → Int32 → Int32 → Mem → Option (Int32 × Mem)) (k281 : Nat → Int32 → Int32 → Int32 → Int32 → Int32 → Int32 → Int32 → Int32 → Int32 → Int32 → Int32 → Mem → Option (Int32 × Mem)) (x0 : Nat) (x2 : Int32) (x3 : Int32) (x4 : Int32) (x5 : Int32) (x7 : Int32) (x8 : Int32) (x11 : Int32) (x12 : Int32) (x13 : Int32) (x14 : Int32) (x15 : Int32) (s0 : Int32) (M : Mem) : Option (Int32 × Mem) :=
  if s0 = 0 then (fX8_someDay_394 k261 k281 x0 x2 x3 x4 x5 x7 x8 x11 x12 x13 x14 x15 M)
  else ((ck M 5 x0).bind fun u1 =>
  (fX8_begins x0 x14 x3 x8 x4 M).bind fun r2 =>
  if r2.1 = 0 then (fX8_someDay_394 k261 k281 x0 x2 x3 x4 x5 x7 x8 x11 x12 x13 x14 x15 r2.2)
  else ((ck r2.2 5 x0).bind fun u3 =>
  (fX8_begins x0 x15 x2 x7 x4 r2.2).bind fun r4 =>
  if r4.1 = 0 then (fX8_someDay_394 k261 k281 x0 x2 x3 x4 x5 x7 x8 x11 x12 x13 x14 x15 r4.2)
  else (if x4 = x5 then ((fX8_dayNumber x15 x14 s0 r4.2).bind fun r5 =>
  (pF r5.2 5 x0 24 (.long r5.1)).bind fun M6 =>
  some ((2 : Int32), M6))
  else (fX8_someDay_394 k261 k281 x0 x2 x3 x4 x5 x7 x8 x11 x12 (1 : Int32) x14 x15 r4.2))))
set_option maxHeartbeats 4000000 in
set_option maxRecDepth 100000 in
theorem tX8_someDay_331 {κ : KT} {p : Int32 × Mem} (O : OkK κ mX8_someDay) (hf : κ.2.2.2.2.2.2.2.2.2.2.2.2.2 = (some (.int p.1), p.2)) {k261 : Nat → Int32 → Int32 → Int32 → Int32 → Int32 → Int32 → Int32 → Int32 → Int32 → Int32 → Mem → Option (Int32 × Mem)} (hk261 : ∀ (x0 : Nat) (x2 : Int32) (x3 : Int32) (x4 : Int32) (x5 : Int32) (x7 : Int32) (x8 : Int32) (x11 : Int32) (x12 : Int32) (x13 : Int32) (x14 : Int32) (M : Mem), k261 x0 x2 x3 x4 x5 x7 x8 x11 x12 x13 x14 M = some p → G κ mX8_someDay 0 0 261 [(0, .ref x0), (2, .int x2), (3, .int x3), (4, .int x4), (5, .int x5), (7, .int x7), (8, .int x8), (11, .int x11), (12, .int x12), (13, .int x13), (14, .int x14)] [] M) {k281 : Nat → Int32 → Int32 → Int32 → Int32 → Int32 → Int32 → Int32 → Int32 → Int32 → Int32 → Int32 → Mem → Option (Int32 × Mem)} (hk281 : ∀ (x0 : Nat) (x2 : Int32) (x3 : Int32) (x4 : Int32) (x5 : Int32) (x7 : Int32) (x8 : Int32) (x11 : Int32) (x12 : Int32) (x13 : Int32) (x14 : Int32) (x15 : Int32) (M : Mem), k281 x0 x2 x3 x4 x5 x7 x8 x11 x12 x13 x14 x15 M = some p → G κ mX8_someDay 0 0 281 [(0, .ref x0), (2, .int x2), (3, .int x3), (4, .int x4), (5, .int x5), (7, .int x7), (8, .int x8), (11, .int x11), (12, .int x12), (13, .int x13), (14, .int x14), (15, .int x15)] [] M) {x0 : Nat} {x2 : Int32} {x3 : Int32} {x4 : Int32} {x5 : Int32} {x7 : Int32} {x8 : Int32} {x11 : Int32} {x12 : Int32} {x13 : Int32} {x14 : Int32} {x15 : Int32} {s0 : Int32} {M : Mem} (h : fX8_someDay_331 k261 k281 x0 x2 x3 x4 x5 x7 x8 x11 x12 x13 x14 x15 s0 M = some p) : G κ mX8_someDay 0 0 331 [(0, .ref x0), (2, .int x2), (3, .int x3), (4, .int x4), (5, .int x5), (7, .int x7), (8, .int x8), (11, .int x11), (12, .int x12), (13, .int x13), (14, .int x14), (15, .int x15)] [.int s0] M := by
  unfold fX8_someDay_331 at h
  refine g_istore (lv' := [(16, .int s0), (0, .ref x0), (2, .int x2), (3, .int x3), (4, .int x4), (5, .int x5), (7, .int x7), (8, .int x8), (11, .int x11), (12, .int x12), (13, .int x13), (14, .int x14), (15, .int x15)]) (pc' := 333) O dX8_someDay_331 (by decide) rfl rfl ?_
  refine g_iload (pc' := 335) 0 O dX8_someDay_333 rfl rfl ?_
  refine g_if_eq (tgt := 394) (pc' := 338) O dX8_someDay_335 (by decide) rfl (fun hc => ?_) (fun hc => ?_)
  · replace h := ip hc h
    refine g_sub (lv' := [(0, .ref x0), (2, .int x2), (3, .int x3), (4, .int x4), (5, .int x5), (7, .int x7), (8, .int x8), (11, .int x11), (12, .int x12), (13, .int x13), (14, .int x14), (15, .int x15)]) [1, 2, 3, 4, 5, 6, 7, 8, 9, 10, 11, 12] rfl ?_
    exact tX8_someDay_394 O hf hk261 hk281 h
  · replace h := ine hc h
    refine g_aload_n (pc' := 339) 1 O dX8_someDay_338 rfl rfl rfl ?_
    refine g_iload (pc' := 341) 11 O dX8_someDay_339 rfl rfl ?_
    refine g_iload_n (pc' := 342) 3 O dX8_someDay_341 rfl rfl rfl ?_
    refine g_iload (pc' := 344) 7 O dX8_someDay_342 rfl rfl ?_
    refine g_iload (pc' := 346) 4 O dX8_someDay_344 rfl rfl ?_
    replace h := ob h; obtain ⟨u1, eu1, h⟩ := h
    replace h := ob h; obtain ⟨r2, er2, h⟩ := h
    refine g_callV (y := yX8_begins) (ν := mX8_begins) (n := 4) (As := [.int x14, .int x3, .int x8, .int x4]) (b := x0) (st := []) (M2 := r2.2) (r1 := (some (.int r2.1))) (pc' := 349) O dX8_someDay_346 tw_893 tw_58 tw_892 tw_33 tw_890 hyX8_begins rfl rfl eu1 (okX8_begins er2) (Nat.le_of_ble_eq_true rfl) ⟨Nat.le_of_ble_eq_true rfl, Nat.le_of_ble_eq_true rfl⟩ ⟨Nat.le_of_ble_eq_true rfl, Nat.le_of_ble_eq_true rfl⟩ rfl ?_
    show G κ mX8_someDay 0 0 349 [(16, .int s0), (0, .ref x0), (2, .int x2), (3, .int x3), (4, .int x4), (5, .int x5), (7, .int x7), (8, .int x8), (11, .int x11), (12, .int x12), (13, .int x13), (14, .int x14), (15, .int x15)] [.int r2.1] r2.2
    refine g_if_eq (tgt := 394) (pc' := 352) O dX8_someDay_349 (by decide) rfl (fun hc => ?_) (fun hc => ?_)
    · replace h := ip hc h
      refine g_sub (lv' := [(0, .ref x0), (2, .int x2), (3, .int x3), (4, .int x4), (5, .int x5), (7, .int x7), (8, .int x8), (11, .int x11), (12, .int x12), (13, .int x13), (14, .int x14), (15, .int x15)]) [1, 2, 3, 4, 5, 6, 7, 8, 9, 10, 11, 12] rfl ?_
      exact tX8_someDay_394 O hf hk261 hk281 h
    · replace h := ine hc h
      refine g_aload_n (pc' := 353) 1 O dX8_someDay_352 rfl rfl rfl ?_
      refine g_iload (pc' := 355) 12 O dX8_someDay_353 rfl rfl ?_
      refine g_iload_n (pc' := 356) 2 O dX8_someDay_355 rfl rfl rfl ?_
      refine g_iload (pc' := 358) 6 O dX8_someDay_356 rfl rfl ?_
      refine g_iload (pc' := 360) 4 O dX8_someDay_358 rfl rfl ?_
      replace h := ob h; obtain ⟨u3, eu3, h⟩ := h
      replace h := ob h; obtain ⟨r4, er4, h⟩ := h
      refine g_callV (y := yX8_begins) (ν := mX8_begins) (n := 4) (As := [.int x15, .int x2, .int x7, .int x4]) (b := x0) (st := []) (M2 := r4.2) (r1 := (some (.int r4.1))) (pc' := 363) O dX8_someDay_360 tw_893 tw_58 tw_892 tw_33 tw_890 hyX8_begins rfl rfl eu3 (okX8_begins er4) (Nat.le_of_ble_eq_true rfl) ⟨Nat.le_of_ble_eq_true rfl, Nat.le_of_ble_eq_true rfl⟩ ⟨Nat.le_of_ble_eq_true rfl, Nat.le_of_ble_eq_true rfl⟩ rfl ?_
      show G κ mX8_someDay 0 0 363 [(16, .int s0), (0, .ref x0), (2, .int x2), (3, .int x3), (4, .int x4), (5, .int x5), (7, .int x7), (8, .int x8), (11, .int x11), (12, .int x12), (13, .int x13), (14, .int x14), (15, .int x15)] [.int r4.1] r4.2
      refine g_if_ne (tgt := 369) (pc' := 366) O dX8_someDay_363 (by decide) rfl (fun hc => ?_) (fun hc => ?_)
      · replace h := ine hc h
        refine g_iload (pc' := 371) 4 O dX8_someDay_369 rfl rfl ?_
        refine g_iload (pc' := 373) 5 O dX8_someDay_371 rfl rfl ?_
        refine g_icmp_ne (tgt := 391) (pc' := 376) O dX8_someDay_373 (by decide) rfl (fun hc => ?_) (fun hc => ?_)
        · replace h := ine hc h
          refine g_iconst (v := 1) (pc' := 392) O dX8_someDay_391 (by decide) rfl ?_
          refine g_istore (lv' := [(13, .int (1 : Int32)), (16, .int s0), (0, .ref x0), (2, .int x2), (3, .int x3), (4, .int x4), (5, .int x5), (7, .int x7), (8, .int x8), (11, .int x11), (12, .int x12), (14, .int x14), (15, .int x15)]) (pc' := 394) O dX8_someDay_392 (by decide) rfl rfl ?_
          refine g_sub (lv' := [(0, .ref x0), (2, .int x2), (3, .int x3), (4, .int x4), (5, .int x5), (7, .int x7), (8, .int x8), (11, .int x11), (12, .int x12), (13, .int (1 : Int32)), (14, .int x14), (15, .int x15)]) [2, 3, 4, 5, 6, 7, 8, 9, 10, 0, 11, 12] rfl ?_
          exact tX8_someDay_394 O hf hk261 hk281 h
        · replace h := ip hc h
          refine g_aload_n (pc' := 377) 1 O dX8_someDay_376 rfl rfl rfl ?_
          refine g_iload (pc' := 379) 12 O dX8_someDay_377 rfl rfl ?_
          refine g_iload (pc' := 381) 11 O dX8_someDay_379 rfl rfl ?_
          refine g_iload (pc' := 383) 0 O dX8_someDay_381 rfl rfl ?_
          replace h := ob h; obtain ⟨r5, er5, h⟩ := h
          refine g_callS (y := yX8_dayNumber) (ν := mX8_dayNumber) (n := 3) (As := [.int x15, .int x14, .int s0]) (b := 0) (st := [.ref x0]) (M2 := r5.2) (r1 := (some (.long r5.1))) (pc' := 386) O dX8_someDay_383 tw_902 tw_58 tw_901 tw_900 hyX8_dayNumber rfl (okX8_dayNumber er5) (Nat.le_of_ble_eq_true rfl) ⟨Nat.le_of_ble_eq_true rfl, Nat.le_of_ble_eq_true rfl⟩ ⟨Nat.le_of_ble_eq_true rfl, Nat.le_of_ble_eq_true rfl⟩ rfl ?_
          show G κ mX8_someDay 0 0 386 [(16, .int s0), (0, .ref x0), (2, .int x2), (3, .int x3), (4, .int x4), (5, .int x5), (7, .int x7), (8, .int x8), (11, .int x11), (12, .int x12), (13, .int x13), (14, .int x14), (15, .int x15)] [.long r5.1, .ref x0] r5.2
          replace h := ob h; obtain ⟨M6, eM6, h⟩ := h
          refine g_putF (C := RX8) (T := TX8) (N := 29) (ci := 5) (k := 24) (pc' := 389) O dX8_someDay_386 rfl inX8 (by decide) tw_740 tyX8 tyX8_ok nmX8 rfl rfl rfl rfl eM6 rfl ?_
          refine g_iconst (v := 2) (pc' := 390) O dX8_someDay_389 (by decide) rfl ?_
          cases h
          exact g_ireturn O dX8_someDay_390 rfl rfl hf (by decide) (by decide)
      · replace h := ip hc h
        refine g_goto (pc' := 394) O dX8_someDay_366 (by decide) ?_
        refine g_sub (lv' := [(0, .ref x0), (2, .int x2), (3, .int x3), (4, .int x4), (5, .int x5), (7, .int x7), (8, .int x8), (11, .int x11), (12, .int x12), (13, .int x13), (14, .int x14), (15, .int x15)]) [1, 2, 3, 4, 5, 6, 7, 8, 9, 10, 11, 12] rfl ?_
        exact tX8_someDay_394 O hf hk261 hk281 h
def fX8_someDay_295 (k261 : Nat → Int32 → Int32 → Int32 → Int32 → Int32 → Int32 → Int32 → Int32 → Int32 → Int32 → Mem → Option (Int32 × Mem)) (k281 : Nat → Int32 → Int32 → Int32 → Int32 → Int32 → Int32 → Int32 → Int32 → Int32 → Int32 → Int32 → Mem → Option (Int32 × Mem)) (x0 : Nat) (x2 : Int32) (x3 : Int32) (x4 : Int32) (x5 : Int32) (x7 : Int32) (x8 : Int32) (x11 : Int32) (x12 : Int32) (x13 : Int32) (x14 : Int32) (x15 : Int32) (s0 : Int32) (s1 : Int32) (M : Mem) : Option (Int32 × Mem) :=
  if s0 < s1 then (k261 x0 x2 x3 x4 x5 x7 x8 x11 x12 x13 (x14 + (1 : Int32)) M)
  else ((fX8_daysOf x14 (1 : Int32) M).bind fun r1 =>
  if r1.1 < x15 then ((fX8_daysOf x14 (4 : Int32) r1.2).bind fun r2 =>
  if r2.1 < x15 then (fX8_someDay_331 k261 k281 x0 x2 x3 x4 x5 x7 x8 x11 x12 x13 x14 x15 (0 : Int32) r2.2)
  else (fX8_someDay_331 k261 k281 x0 x2 x3 x4 x5 x7 x8 x11 x12 x13 x14 x15 x12 r2.2))
  else (fX8_someDay_331 k261 k281 x0 x2 x3 x4 x5 x7 x8 x11 x12 x13 x14 x15 x11 r1.2))
set_option maxHeartbeats 4000000 in
set_option maxRecDepth 100000 in
theorem tX8_someDay_295 {κ : KT} {p : Int32 × Mem} (O : OkK κ mX8_someDay) (hf : κ.2.2.2.2.2.2.2.2.2.2.2.2.2 = (some (.int p.1), p.2)) {k261 : Nat → Int32 → Int32 → Int32 → Int32 → Int32 → Int32 → Int32 → Int32 → Int32 → Int32 → Mem → Option (Int32 × Mem)} (hk261 : ∀ (x0 : Nat) (x2 : Int32) (x3 : Int32) (x4 : Int32) (x5 : Int32) (x7 : Int32) (x8 : Int32) (x11 : Int32) (x12 : Int32) (x13 : Int32) (x14 : Int32) (M : Mem), k261 x0 x2 x3 x4 x5 x7 x8 x11 x12 x13 x14 M = some p → G κ mX8_someDay 0 0 261 [(0, .ref x0), (2, .int x2), (3, .int x3), (4, .int x4), (5, .int x5), (7, .int x7), (8, .int x8), (11, .int x11), (12, .int x12), (13, .int x13), (14, .int x14)] [] M) {k281 : Nat → Int32 → Int32 → Int32 → Int32 → Int32 → Int32 → Int32 → Int32 → Int32 → Int32 → Int32 → Mem → Option (Int32 × Mem)} (hk281 : ∀ (x0 : Nat) (x2 : Int32) (x3 : Int32) (x4 : Int32) (x5 : Int32) (x7 : Int32) (x8 : Int32) (x11 : Int32) (x12 : Int32) (x13 : Int32) (x14 : Int32) (x15 : Int32) (M : Mem), k281 x0 x2 x3 x4 x5 x7 x8 x11 x12 x13 x14 x15 M = some p → G κ mX8_someDay 0 0 281 [(0, .ref x0), (2, .int x2), (3, .int x3), (4, .int x4), (5, .int x5), (7, .int x7), (8, .int x8), (11, .int x11), (12, .int x12), (13, .int x13), (14, .int x14), (15, .int x15)] [] M) {x0 : Nat} {x2 : Int32} {x3 : Int32} {x4 : Int32} {x5 : Int32} {x7 : Int32} {x8 : Int32} {x11 : Int32} {x12 : Int32} {x13 : Int32} {x14 : Int32} {x15 : Int32} {s0 : Int32} {s1 : Int32} {M : Mem} (h : fX8_someDay_295 k261 k281 x0 x2 x3 x4 x5 x7 x8 x11 x12 x13 x14 x15 s0 s1 M = some p) : G κ mX8_someDay 0 0 295 [(0, .ref x0), (2, .int x2), (3, .int x3), (4, .int x4), (5, .int x5), (7, .int x7), (8, .int x8), (11, .int x11), (12, .int x12), (13, .int x13), (14, .int x14), (15, .int x15)] [.int s0, .int s1] M := by
  unfold fX8_someDay_295 at h
  refine g_icmp_gt (tgt := 400) (pc' := 298) O dX8_someDay_295 (by decide) rfl (fun hc => ?_) (fun hc => ?_)
  · replace h := ip hc h
    refine g_iinc (q := 10) (v := x14 + (1 : Int32)) (lv' := [(14, .int (x14 + (1 : Int32))), (0, .ref x0), (2, .int x2), (3, .int x3), (4, .int x4), (5, .int x5), (7, .int x7), (8, .int x8), (11, .int x11), (12, .int x12), (13, .int x13), (15, .int x15)]) (pc' := 403) O dX8_someDay_400 rfl rfl (by decide) rfl rfl ?_
    refine g_goto (pc' := 261) O dX8_someDay_403 (by decide) ?_
    refine g_sub (lv' := [(0, .ref x0), (2, .int x2), (3, .int x3), (4, .int x4), (5, .int x5), (7, .int x7), (8, .int x8), (11, .int x11), (12, .int x12), (13, .int x13), (14, .int (x14 + (1 : Int32)))]) [1, 2, 3, 4, 5, 6, 7, 8, 9, 10, 0] rfl ?_
    exact hk261 x0 x2 x3 x4 x5 x7 x8 x11 x12 x13 (x14 + (1 : Int32)) M h
  · replace h := ine hc h
    refine g_iload (pc' := 300) 11 O dX8_someDay_298 rfl rfl ?_
    refine g_iload (pc' := 302) 10 O dX8_someDay_300 rfl rfl ?_
    refine g_iconst (v := 1) (pc' := 303) O dX8_someDay_302 (by decide) rfl ?_
    replace h := ob h; obtain ⟨r1, er1, h⟩ := h
    refine g_callS (y := yX8_daysOf) (ν := mX8_daysOf) (n := 2) (As := [.int x14, .int (1 : Int32)]) (b := 0) (st := [.int x15]) (M2 := r1.2) (r1 := (some (.int r1.1))) (pc' := 306) O dX8_someDay_303 tw_899 tw_58 tw_898 tw_897 hyX8_daysOf rfl (okX8_daysOf er1) (Nat.le_of_ble_eq_true rfl) ⟨Nat.le_of_ble_eq_true rfl, Nat.le_of_ble_eq_true rfl⟩ ⟨Nat.le_of_ble_eq_true rfl, Nat.le_of_ble_eq_true rfl⟩ rfl ?_
    show G κ mX8_someDay 0 0 306 [(0, .ref x0), (2, .int x2), (3, .int x3), (4, .int x4), (5, .int x5), (7, .int x7), (8, .int x8), (11, .int x11), (12, .int x12), (13, .int x13), (14, .int x14), (15, .int x15)] [.int r1.1, .int x15] r1.2
    refine g_icmp_gt (tgt := 314) (pc' := 309) O dX8_someDay_306 (by decide) rfl (fun hc => ?_) (fun hc => ?_)
    · replace h := ip hc h
      refine g_iload (pc' := 316) 11 O dX8_someDay_314 rfl rfl ?_
      refine g_iload (pc' := 318) 10 O dX8_someDay_316 rfl rfl ?_
      refine g_iconst (v := 4) (pc' := 319) O dX8_someDay_318 (by decide) rfl ?_
      replace h := ob h; obtain ⟨r2, er2, h⟩ := h
      refine g_callS (y := yX8_daysOf) (ν := mX8_daysOf) (n := 2) (As := [.int x14, .int (4 : Int32)]) (b := 0) (st := [.int x15]) (M2 := r2.2) (r1 := (some (.int r2.1))) (pc' := 322) O dX8_someDay_319 tw_899 tw_58 tw_898 tw_897 hyX8_daysOf rfl (okX8_daysOf er2) (Nat.le_of_ble_eq_true rfl) ⟨Nat.le_of_ble_eq_true rfl, Nat.le_of_ble_eq_true rfl⟩ ⟨Nat.le_of_ble_eq_true rfl, Nat.le_of_ble_eq_true rfl⟩ rfl ?_
      show G κ mX8_someDay 0 0 322 [(0, .ref x0), (2, .int x2), (3, .int x3), (4, .int x4), (5, .int x5), (7, .int x7), (8, .int x8), (11, .int x11), (12, .int x12), (13, .int x13), (14, .int x14), (15, .int x15)] [.int r2.1, .int x15] r2.2
      refine g_icmp_gt (tgt := 330) (pc' := 325) O dX8_someDay_322 (by decide) rfl (fun hc => ?_) (fun hc => ?_)
      · replace h := ip hc h
        refine g_iconst (v := 0) (pc' := 331) O dX8_someDay_330 (by decide) rfl ?_
        exact tX8_someDay_331 O hf hk261 hk281 h
      · replace h := ine hc h
        refine g_iload (pc' := 327) 8 O dX8_someDay_325 rfl rfl ?_
        refine g_goto (pc' := 331) O dX8_someDay_327 (by decide) ?_
        exact tX8_someDay_331 O hf hk261 hk281 h
    · replace h := ine hc h
      refine g_iload (pc' := 311) 7 O dX8_someDay_309 rfl rfl ?_
      refine g_goto (pc' := 331) O dX8_someDay_311 (by decide) ?_
      exact tX8_someDay_331 O hf hk261 hk281 h
def fX8_someDay_281 (k261 : Nat → Int32 → Int32 → Int32 → Int32 → Int32 → Int32 → Int32 → Int32 → Int32 → Int32 → Mem → Option (Int32 × Mem)) : Nat → Nat → Int32 → Int32 → Int32 → Int32 → Int32 → Int32 → Int32 → Int32 → Int32 → Int32 → Int32 → Mem → Option (Int32 × Mem)
  | 0, _, _, _, _, _, _, _, _, _, _, _, _, _ => none
  | n + 1, x0, x2, x3, x4, x5, x7, x8, x11, x12, x13, x14, x15, M =>
    if x2 = (1 : Int32) then (fX8_someDay_295 k261 (fX8_someDay_281 k261 n) x0 x2 x3 x4 x5 x7 x8 x11 x12 x13 x14 x15 (9 : Int32) x15 M)
    else (fX8_someDay_295 k261 (fX8_someDay_281 k261 n) x0 x2 x3 x4 x5 x7 x8 x11 x12 x13 x14 x15 (31 : Int32) x15 M)
set_option maxHeartbeats 4000000 in
set_option maxRecDepth 100000 in
theorem tX8_someDay_281 {κ : KT} {p : Int32 × Mem} (O : OkK κ mX8_someDay) (hf : κ.2.2.2.2.2.2.2.2.2.2.2.2.2 = (some (.int p.1), p.2)) {k261 : Nat → Int32 → Int32 → Int32 → Int32 → Int32 → Int32 → Int32 → Int32 → Int32 → Int32 → Mem → Option (Int32 × Mem)} (hk261 : ∀ (x0 : Nat) (x2 : Int32) (x3 : Int32) (x4 : Int32) (x5 : Int32) (x7 : Int32) (x8 : Int32) (x11 : Int32) (x12 : Int32) (x13 : Int32) (x14 : Int32) (M : Mem), k261 x0 x2 x3 x4 x5 x7 x8 x11 x12 x13 x14 M = some p → G κ mX8_someDay 0 0 261 [(0, .ref x0), (2, .int x2), (3, .int x3), (4, .int x4), (5, .int x5), (7, .int x7), (8, .int x8), (11, .int x11), (12, .int x12), (13, .int x13), (14, .int x14)] [] M) : ∀ (n : Nat) (x0 : Nat) (x2 : Int32) (x3 : Int32) (x4 : Int32) (x5 : Int32) (x7 : Int32) (x8 : Int32) (x11 : Int32) (x12 : Int32) (x13 : Int32) (x14 : Int32) (x15 : Int32) (M : Mem), fX8_someDay_281 k261 n x0 x2 x3 x4 x5 x7 x8 x11 x12 x13 x14 x15 M = some p → G κ mX8_someDay 0 0 281 [(0, .ref x0), (2, .int x2), (3, .int x3), (4, .int x4), (5, .int x5), (7, .int x7), (8, .int x8), (11, .int x11), (12, .int x12), (13, .int x13), (14, .int x14), (15, .int x15)] [] M := by
  intro n
  induction n with
  | zero => intro x0 x2 x3 x4 x5 x7 x8 x11 x12 x13 x14 x15 M h; cases h
  | succ n ih =>
    intro x0 x2 x3 x4 x5 x7 x8 x11 x12 x13 x14 x15 M h
    rw [fX8_someDay_281] at h
    refine g_iload (pc' := 283) 11 O dX8_someDay_281 rfl rfl ?_
    refine g_iload_n (pc' := 284) 1 O dX8_someDay_283 rfl rfl rfl ?_
    refine g_iconst (v := 1) (pc' := 285) O dX8_someDay_284 (by decide) rfl ?_
    refine g_icmp_ne (tgt := 293) (pc' := 288) O dX8_someDay_285 (by decide) rfl (fun hc => ?_) (fun hc => ?_)
    · replace h := ine hc h
      refine g_bipush (v := 31) (pc' := 295) O dX8_someDay_293 (by decide) rfl ?_
      exact tX8_someDay_295 O hf hk261 ih h
    · replace h := ip hc h
      refine g_bipush (v := 9) (pc' := 290) O dX8_someDay_288 (by decide) rfl ?_
      refine g_goto (pc' := 295) O dX8_someDay_290 (by decide) ?_
      exact tX8_someDay_295 O hf hk261 ih h
def fX8_someDay_275 (k261 : Nat → Int32 → Int32 → Int32 → Int32 → Int32 → Int32 → Int32 → Int32 → Int32 → Int32 → Mem → Option (Int32 × Mem)) (x0 : Nat) (x2 : Int32) (x3 : Int32) (x4 : Int32) (x5 : Int32) (x7 : Int32) (x8 : Int32) (x11 : Int32) (x12 : Int32) (x13 : Int32) (x14 : Int32) (s0 : Int32) (s1 : Int32) (M : Mem) : Option (Int32 × Mem) :=
  if s0 < s1 then (some (x13, M))
  else (fX8_someDay_281 k261 FU x0 x2 x3 x4 x5 x7 x8 x11 x12 x13 x14 (1 : Int32) M)
set_option maxHeartbeats 4000000 in
set_option maxRecDepth 100000 in
theorem tX8_someDay_275 {κ : KT} {p : Int32 × Mem} (O : OkK κ mX8_someDay) (hf : κ.2.2.2.2.2.2.2.2.2.2.2.2.2 = (some (.int p.1), p.2)) {k261 : Nat → Int32 → Int32 → Int32 → Int32 → Int32 → Int32 → Int32 → Int32 → Int32 → Int32 → Mem → Option (Int32 × Mem)} (hk261 : ∀ (x0 : Nat) (x2 : Int32) (x3 : Int32) (x4 : Int32) (x5 : Int32) (x7 : Int32) (x8 : Int32) (x11 : Int32) (x12 : Int32) (x13 : Int32) (x14 : Int32) (M : Mem), k261 x0 x2 x3 x4 x5 x7 x8 x11 x12 x13 x14 M = some p → G κ mX8_someDay 0 0 261 [(0, .ref x0), (2, .int x2), (3, .int x3), (4, .int x4), (5, .int x5), (7, .int x7), (8, .int x8), (11, .int x11), (12, .int x12), (13, .int x13), (14, .int x14)] [] M) {x0 : Nat} {x2 : Int32} {x3 : Int32} {x4 : Int32} {x5 : Int32} {x7 : Int32} {x8 : Int32} {x11 : Int32} {x12 : Int32} {x13 : Int32} {x14 : Int32} {s0 : Int32} {s1 : Int32} {M : Mem} (h : fX8_someDay_275 k261 x0 x2 x3 x4 x5 x7 x8 x11 x12 x13 x14 s0 s1 M = some p) : G κ mX8_someDay 0 0 275 [(0, .ref x0), (2, .int x2), (3, .int x3), (4, .int x4), (5, .int x5), (7, .int x7), (8, .int x8), (11, .int x11), (12, .int x12), (13, .int x13), (14, .int x14)] [.int s0, .int s1] M := by
  unfold fX8_someDay_275 at h
  refine g_icmp_gt (tgt := 406) (pc' := 278) O dX8_someDay_275 (by decide) rfl (fun hc => ?_) (fun hc => ?_)
  · replace h := ip hc h
    refine g_iload (pc' := 408) 9 O dX8_someDay_406 rfl rfl ?_
    cases h
    exact g_ireturn O dX8_someDay_408 rfl rfl hf (by decide) (by decide)
  · replace h := ine hc h
    refine g_iconst (v := 1) (pc' := 279) O dX8_someDay_278 (by decide) rfl ?_
    refine g_istore (lv' := [(15, .int (1 : Int32)), (0, .ref x0), (2, .int x2), (3, .int x3), (4, .int x4), (5, .int x5), (7, .int x7), (8, .int x8), (11, .int x11), (12, .int x12), (13, .int x13), (14, .int x14)]) (pc' := 281) O dX8_someDay_279 (by decide) rfl rfl ?_
    refine g_sub (lv' := [(0, .ref x0), (2, .int x2), (3, .int x3), (4, .int x4), (5, .int x5), (7, .int x7), (8, .int x8), (11, .int x11), (12, .int x12), (13, .int x13), (14, .int x14), (15, .int (1 : Int32))]) [1, 2, 3, 4, 5, 6, 7, 8, 9, 10, 11, 0] rfl ?_
    exact tX8_someDay_281 O hf hk261 FU x0 x2 x3 x4 x5 x7 x8 x11 x12 x13 x14 (1 : Int32) M h
def fX8_someDay_261  : Nat → Nat → Int32 → Int32 → Int32 → Int32 → Int32 → Int32 → Int32 → Int32 → Int32 → Int32 → Mem → Option (Int32 × Mem)
  | 0, _, _, _, _, _, _, _, _, _, _, _, _ => none
  | n + 1, x0, x2, x3, x4, x5, x7, x8, x11, x12, x13, x14, M =>
    if x3 = (1 : Int32) then (fX8_someDay_275 (fX8_someDay_261 n) x0 x2 x3 x4 x5 x7 x8 x11 x12 x13 x14 (9 : Int32) x14 M)
    else (fX8_someDay_275 (fX8_someDay_261 n) x0 x2 x3 x4 x5 x7 x8 x11 x12 x13 x14 (12 : Int32) x14 M)
set_option maxHeartbeats 4000000 in
set_option maxRecDepth 100000 in
theorem tX8_someDay_261 {κ : KT} {p : Int32 × Mem} (O : OkK κ mX8_someDay) (hf : κ.2.2.2.2.2.2.2.2.2.2.2.2.2 = (some (.int p.1), p.2))  : ∀ (n : Nat) (x0 : Nat) (x2 : Int32) (x3 : Int32) (x4 : Int32) (x5 : Int32) (x7 : Int32) (x8 : Int32) (x11 : Int32) (x12 : Int32) (x13 : Int32) (x14 : Int32) (M : Mem), fX8_someDay_261  n x0 x2 x3 x4 x5 x7 x8 x11 x12 x13 x14 M = some p → G κ mX8_someDay 0 0 261 [(0, .ref x0), (2, .int x2), (3, .int x3), (4, .int x4), (5, .int x5), (7, .int x7), (8, .int x8), (11, .int x11), (12, .int x12), (13, .int x13), (14, .int x14)] [] M := by
  intro n
  induction n with
  | zero => intro x0 x2 x3 x4 x5 x7 x8 x11 x12 x13 x14 M h; cases h
  | succ n ih =>
    intro x0 x2 x3 x4 x5 x7 x8 x11 x12 x13 x14 M h
    rw [fX8_someDay_261] at h
    refine g_iload (pc' := 263) 10 O dX8_someDay_261 rfl rfl ?_
    refine g_iload_n (pc' := 264) 2 O dX8_someDay_263 rfl rfl rfl ?_
    refine g_iconst (v := 1) (pc' := 265) O dX8_someDay_264 (by decide) rfl ?_
    refine g_icmp_ne (tgt := 273) (pc' := 268) O dX8_someDay_265 (by decide) rfl (fun hc => ?_) (fun hc => ?_)
    · replace h := ine hc h
      refine g_bipush (v := 12) (pc' := 275) O dX8_someDay_273 (by decide) rfl ?_
      exact tX8_someDay_275 O hf ih h
    · replace h := ip hc h
      refine g_bipush (v := 9) (pc' := 270) O dX8_someDay_268 (by decide) rfl ?_
      refine g_goto (pc' := 275) O dX8_someDay_270 (by decide) ?_
      exact tX8_someDay_275 O hf ih h
def fX8_someDay_249 (k191 : Nat → Int32 → Int32 → Int32 → Int32 → Int32 → Int32 → Int32 → Int32 → Int32 → Int32 → Mem → Option (Int32 × Mem)) (x0 : Nat) (x2 : Int32) (x3 : Int32) (x4 : Int32) (x5 : Int32) (x6 : Int32) (x7 : Int32) (x8 : Int32) (x11 : Int32) (x12 : Int32) (x13 : Int32) (M : Mem) : Option (Int32 × Mem) :=
  k191 x0 x2 x3 x4 x5 x6 x7 x8 x11 x12 (x13 + (1 : Int32)) M
set_option maxHeartbeats 4000000 in
set_option maxRecDepth 100000 in
theorem tX8_someDay_249 {κ : KT} {p : Int32 × Mem} (O : OkK κ mX8_someDay) (hf : κ.2.2.2.2.2.2.2.2.2.2.2.2.2 = (some (.int p.1), p.2)) {k191 : Nat → Int32 → Int32 → Int32 → Int32 → Int32 → Int32 → Int32 → Int32 → Int32 → Int32 → Mem → Option (Int32 × Mem)} (hk191 : ∀ (x0 : Nat) (x2 : Int32) (x3 : Int32) (x4 : Int32) (x5 : Int32) (x6 : Int32) (x7 : Int32) (x8 : Int32) (x11 : Int32) (x12 : Int32) (x13 : Int32) (M : Mem), k191 x0 x2 x3 x4 x5 x6 x7 x8 x11 x12 x13 M = some p → G κ mX8_someDay 0 0 191 [(0, .ref x0), (2, .int x2), (3, .int x3), (4, .int x4), (5, .int x5), (6, .int x6), (7, .int x7), (8, .int x8), (11, .int x11), (12, .int x12), (13, .int x13)] [] M) {x0 : Nat} {x2 : Int32} {x3 : Int32} {x4 : Int32} {x5 : Int32} {x6 : Int32} {x7 : Int32} {x8 : Int32} {x11 : Int32} {x12 : Int32} {x13 : Int32} {M : Mem} (h : fX8_someDay_249 k191 x0 x2 x3 x4 x5 x6 x7 x8 x11 x12 x13 M = some p) : G κ mX8_someDay 0 0 249 [(0, .ref x0), (2, .int x2), (3, .int x3), (4, .int x4), (5, .int x5), (6, .int x6), (7, .int x7), (8, .int x8), (11, .int x11), (12, .int x12), (13, .int x13)] [] M := by
  unfold fX8_someDay_249 at h
  refine g_iinc (q := 10) (v := x13 + (1 : Int32)) (lv' := [(13, .int (x13 + (1 : Int32))), (0, .ref x0), (2, .int x2), (3, .int x3), (4, .int x4), (5, .int x5), (6, .int x6), (7, .int x7), (8, .int x8), (11, .int x11), (12, .int x12)]) (pc' := 252) O dX8_someDay_249 rfl rfl (by decide) rfl rfl ?_
  refine g_goto (pc' := 191) O dX8_someDay_252 (by decide) ?_
  refine g_sub (lv' := [(0, .ref x0), (2, .int x2), (3, .int x3), (4, .int x4), (5, .int x5), (6, .int x6), (7, .int x7), (8, .int x8), (11, .int x11), (12, .int x12), (13, .int (x13 + (1 : Int32)))]) [1, 2, 3, 4, 5, 6, 7, 8, 9, 10, 0] rfl ?_
  exact hk191 x0 x2 x3 x4 x5 x6 x7 x8 x11 x12 (x13 + (1 : Int32)) M h
def fX8_someDay_247 (k191 : Nat → Int32 → Int32 → Int32 → Int32 → Int32 → Int32 → Int32 → Int32 → Int32 → Int32 → Mem → Option (Int32 × Mem)) (x0 : Nat) (x2 : Int32) (x3 : Int32) (x4 : Int32) (x5 : Int32) (x6 : Int32) (x7 : Int32) (x8 : Int32) (x11 : Int32) (x13 : Int32) (s0 : Int32) (M : Mem) : Option (Int32 × Mem) :=
  fX8_someDay_249 k191 x0 x2 x3 x4 x5 x6 x7 x8 x11 s0 x13 M
set_option maxHeartbeats 4000000 in
set_option maxRecDepth 100000 in
theorem tX8_someDay_247 {κ : KT} {p : Int32 × Mem} (O : OkK κ mX8_someDay) (hf : κ.2.2.2.2.2.2.2.2.2.2.2.2.2 = (some (.int p.1), p.2)) {k191 : Nat → Int32 → Int32 → Int32 → Int32 → Int32 → Int32 → Int32 → Int32 → Int32 → Int32 → Mem → Option (Int32 × Mem)} (hk191 : ∀ (x0 : Nat) (x2 : Int32) (x3 : Int32) (x4 : Int32) (x5 : Int32) (x6 : Int32) (x7 : Int32) (x8 : Int32) (x11 : Int32) (x12 : Int32) (x13 : Int32) (M : Mem), k191 x0 x2 x3 x4 x5 x6 x7 x8 x11 x12 x13 M = some p → G κ mX8_someDay 0 0 191 [(0, .ref x0), (2, .int x2), (3, .int x3), (4, .int x4), (5, .int x5), (6, .int x6), (7, .int x7), (8, .int x8), (11, .int x11), (12, .int x12), (13, .int x13)] [] M) {x0 : Nat} {x2 : Int32} {x3 : Int32} {x4 : Int32} {x5 : Int32} {x6 : Int32} {x7 : Int32} {x8 : Int32} {x11 : Int32} {x13 : Int32} {s0 : Int32} {M : Mem} (h : fX8_someDay_247 k191 x0 x2 x3 x4 x5 x6 x7 x8 x11 x13 s0 M = some p) : G κ mX8_someDay 0 0 247 [(0, .ref x0), (2, .int x2), (3, .int x3), (4, .int x4), (5, .int x5), (6, .int x6), (7, .int x7), (8, .int x8), (11, .int x11), (13, .int x13)] [.int s0] M := by
  unfold fX8_someDay_247 at h
  refine g_istore (lv' := [(12, .int s0), (0, .ref x0), (2, .int x2), (3, .int x3), (4, .int x4), (5, .int x5), (6, .int x6), (7, .int x7), (8, .int x8), (11, .int x11), (13, .int x13)]) (pc' := 249) O dX8_someDay_247 (by decide) rfl rfl ?_
  refine g_sub (lv' := [(0, .ref x0), (2, .int x2), (3, .int x3), (4, .int x4), (5, .int x5), (6, .int x6), (7, .int x7), (8, .int x8), (11, .int x11), (12, .int s0), (13, .int x13)]) [1, 2, 3, 4, 5, 6, 7, 8, 9, 0, 10] rfl ?_
  exact tX8_someDay_249 O hf hk191 h
def fX8_someDay_245 (k191 : Nat → Int32 → Int32 → Int32 → Int32 → Int32 → Int32 → Int32 → Int32 → Int32 → Int32 → Mem → Option (Int32 × Mem)) (x0 : Nat) (x2 : Int32) (x3 : Int32) (x4 : Int32) (x5 : Int32) (x6 : Int32) (x7 : Int32) (x8 : Int32) (x11 : Int32) (x12 : Int32) (x13 : Int32) (M : Mem) : Option (Int32 × Mem) :=
  fX8_someDay_247 k191 x0 x2 x3 x4 x5 x6 x7 x8 x11 x13 x12 M
set_option maxHeartbeats 4000000 in
set_option maxRecDepth 100000 in
theorem tX8_someDay_245 {κ : KT} {p : Int32 × Mem} (O : OkK κ mX8_someDay) (hf : κ.2.2.2.2.2.2.2.2.2.2.2.2.2 = (some (.int p.1), p.2)) {k191 : Nat → Int32 → Int32 → Int32 → Int32 → Int32 → Int32 → Int32 → Int32 → Int32 → Int32 → Mem → Option (Int32 × Mem)} (hk191 : ∀ (x0 : Nat) (x2 : Int32) (x3 : Int32) (x4 : Int32) (x5 : Int32) (x6 : Int32) (x7 : Int32) (x8 : Int32) (x11 : Int32) (x12 : Int32) (x13 : Int32) (M : Mem), k191 x0 x2 x3 x4 x5 x6 x7 x8 x11 x12 x13 M = some p → G κ mX8_someDay 0 0 191 [(0, .ref x0), (2, .int x2), (3, .int x3), (4, .int x4), (5, .int x5), (6, .int x6), (7, .int x7), (8, .int x8), (11, .int x11), (12, .int x12), (13, .int x13)] [] M) {x0 : Nat} {x2 : Int32} {x3 : Int32} {x4 : Int32} {x5 : Int32} {x6 : Int32} {x7 : Int32} {x8 : Int32} {x11 : Int32} {x12 : Int32} {x13 : Int32} {M : Mem} (h : fX8_someDay_245 k191 x0 x2 x3 x4 x5 x6 x7 x8 x11 x12 x13 M = some p) : G κ mX8_someDay 0 0 245 [(0, .ref x0), (2, .int x2), (3, .int x3), (4, .int x4), (5, .int x5), (6, .int x6), (7, .int x7), (8, .int x8), (11, .int x11), (12, .int x12), (13, .int x13)] [] M := by
  unfold fX8_someDay_245 at h
  refine g_iload (pc' := 247) 9 O dX8_someDay_245 rfl rfl ?_
  refine g_sub (lv' := [(0, .ref x0), (2, .int x2), (3, .int x3), (4, .int x4), (5, .int x5), (6, .int x6), (7, .int x7), (8, .int x8), (11, .int x11), (13, .int x13)]) [0, 1, 2, 3, 4, 5, 6, 7, 8, 10] rfl ?_
  exact tX8_someDay_247 O hf hk191 h
def fX8_someDay_225 (k191 : Nat → Int32 → Int32 → Int32 → Int32 → Int32 → Int32 → Int32 → Int32 → Int32 → Int32 → Mem → Option (Int32 × Mem)) (x0 : Nat) (x2 : Int32) (x3 : Int32) (x4 : Int32) (x5 : Int32) (x6 : Int32) (x7 : Int32) (x8 : Int32) (x12 : Int32) (x13 : Int32) (s0 : Int32) (M : Mem) : Option (Int32 × Mem) :=
  if x12 = 0 then ((fX8_isLeap x13 M).bind fun r1 =>
  if r1.1 = 0 then (fX8_someDay_245 k191 x0 x2 x3 x4 x5 x6 x7 x8 s0 x12 x13 r1.2)
  else (fX8_someDay_247 k191 x0 x2 x3 x4 x5 x6 x7 x8 s0 x13 x13 r1.2))
  else (fX8_someDay_245 k191 x0 x2 x3 x4 x5 x6 x7 x8 s0 x12 x13 M)
set_option maxHeartbeats 4000000 in
set_option maxRecDepth 100000 in
theorem tX8_someDay_225 {κ : KT} {p : Int32 × Mem} (O : OkK κ mX8_someDay) (hf : κ.2.2.2.2.2.2.2.2.2.2.2.2.2 = (some (.int p.1), p.2)) {k191 : Nat → Int32 → Int32 → Int32 → Int32 → Int32 → Int32 → Int32 → Int32 → Int32 → Int32 → Mem → Option (Int32 × Mem)} (hk191 : ∀ (x0 : Nat) (x2 : Int32) (x3 : Int32) (x4 : Int32) (x5 : Int32) (x6 : Int32) (x7 : Int32) (x8 : Int32) (x11 : Int32) (x12 : Int32) (x13 : Int32) (M : Mem), k191 x0 x2 x3 x4 x5 x6 x7 x8 x11 x12 x13 M = some p → G κ mX8_someDay 0 0 191 [(0, .ref x0), (2, .int x2), (3, .int x3), (4, .int x4), (5, .int x5), (6, .int x6), (7, .int x7), (8, .int x8), (11, .int x11), (12, .int x12), (13, .int x13)] [] M) {x0 : Nat} {x2 : Int32} {x3 : Int32} {x4 : Int32} {x5 : Int32} {x6 : Int32} {x7 : Int32} {x8 : Int32} {x12 : Int32} {x13 : Int32} {s0 : Int32} {M : Mem} (h : fX8_someDay_225 k191 x0 x2 x3 x4 x5 x6 x7 x8 x12 x13 s0 M = some p) : G κ mX8_someDay 0 0 225 [(0, .ref x0), (2, .int x2), (3, .int x3), (4, .int x4), (5, .int x5), (6, .int x6), (7, .int x7), (8, .int x8), (12, .int x12), (13, .int x13)] [.int s0] M := by
  unfold fX8_someDay_225 at h
  refine g_istore (lv' := [(11, .int s0), (0, .ref x0), (2, .int x2), (3, .int x3), (4, .int x4), (5, .int x5), (6, .int x6), (7, .int x7), (8, .int x8), (12, .int x12), (13, .int x13)]) (pc' := 227) O dX8_someDay_225 (by decide) rfl rfl ?_
  refine g_iload (pc' := 229) 9 O dX8_someDay_227 rfl rfl ?_
  refine g_if_ne (tgt := 245) (pc' := 232) O dX8_someDay_229 (by decide) rfl (fun hc => ?_) (fun hc => ?_)
  · replace h := ine hc h
    refine g_sub (lv' := [(0, .ref x0), (2, .int x2), (3, .int x3), (4, .int x4), (5, .int x5), (6, .int x6), (7, .int x7), (8, .int x8), (11, .int s0), (12, .int x12), (13, .int x13)]) [1, 2, 3, 4, 5, 6, 7, 8, 0, 9, 10] rfl ?_
    exact tX8_someDay_245 O hf hk191 h
  · replace h := ip hc h
    refine g_iload (pc' := 234) 10 O dX8_someDay_232 rfl rfl ?_
    replace h := ob h; obtain ⟨r1, er1, h⟩ := h
    refine g_callS (y := yX8_isLeap) (ν := mX8_isLeap) (n := 1) (As := [.int x13]) (b := 0) (st := []) (M2 := r1.2) (r1 := (some (.int r1.1))) (pc' := 237) O dX8_someDay_234 tw_896 tw_58 tw_895 tw_894 hyX8_isLeap rfl (okX8_isLeap er1) (Nat.le_of_ble_eq_true rfl) ⟨Nat.le_of_ble_eq_true rfl, Nat.le_of_ble_eq_true rfl⟩ ⟨Nat.le_of_ble_eq_true rfl, Nat.le_of_ble_eq_true rfl⟩ rfl ?_
    show G κ mX8_someDay 0 0 237 [(11, .int s0), (0, .ref x0), (2, .int x2), (3, .int x3), (4, .int x4), (5, .int x5), (6, .int x6), (7, .int x7), (8, .int x8), (12, .int x12), (13, .int x13)] [.int r1.1] r1.2
    refine g_if_eq (tgt := 245) (pc' := 240) O dX8_someDay_237 (by decide) rfl (fun hc => ?_) (fun hc => ?_)
    · replace h := ip hc h
      refine g_sub (lv' := [(0, .ref x0), (2, .int x2), (3, .int x3), (4, .int x4), (5, .int x5), (6, .int x6), (7, .int x7), (8, .int x8), (11, .int s0), (12, .int x12), (13, .int x13)]) [1, 2, 3, 4, 5, 6, 7, 8, 0, 9, 10] rfl ?_
      exact tX8_someDay_245 O hf hk191 h
    · replace h := ine hc h
      refine g_iload (pc' := 242) 10 O dX8_someDay_240 rfl rfl ?_
      refine g_goto (pc' := 247) O dX8_someDay_242 (by decide) ?_
      refine g_sub (lv' := [(0, .ref x0), (2, .int x2), (3, .int x3), (4, .int x4), (5, .int x5), (6, .int x6), (7, .int x7), (8, .int x8), (11, .int s0), (13, .int x13)]) [1, 2, 3, 4, 5, 6, 7, 8, 0, 10] rfl ?_
      exact tX8_someDay_247 O hf hk191 h
def fX8_someDay_191  : Nat → Nat → Int32 → Int32 → Int32 → Int32 → Int32 → Int32 → Int32 → Int32 → Int32 → Int32 → Mem → Option (Int32 × Mem)
  | 0, _, _, _, _, _, _, _, _, _, _, _, _ => none
  | n + 1, x0, x2, x3, x4, x5, x6, x7, x8, x11, x12, x13, M =>
    if (9999 : Int32) < x13 then (fX8_someDay_261 FU x0 x2 x3 x4 x5 x7 x8 x11 x12 (0 : Int32) (1 : Int32) M)
    else ((ck M 5 x0).bind fun u1 =>
    (fX8_begins x0 x13 (4 : Int32) x6 x4 M).bind fun r2 =>
    if r2.1 = 0 then (fX8_someDay_249 (fX8_someDay_191 n) x0 x2 x3 x4 x5 x6 x7 x8 x11 x12 x13 r2.2)
    else (if x11 = 0 then (fX8_someDay_225 (fX8_someDay_191 n) x0 x2 x3 x4 x5 x6 x7 x8 x12 x13 x13 r2.2)
    else (fX8_someDay_225 (fX8_someDay_191 n) x0 x2 x3 x4 x5 x6 x7 x8 x12 x13 x11 r2.2)))
set_option maxHeartbeats 4000000 in
set_option maxRecDepth 100000 in
theorem tX8_someDay_191 {κ : KT} {p : Int32 × Mem} (O : OkK κ mX8_someDay) (hf : κ.2.2.2.2.2.2.2.2.2.2.2.2.2 = (some (.int p.1), p.2))  : ∀ (n : Nat) (x0 : Nat) (x2 : Int32) (x3 : Int32) (x4 : Int32) (x5 : Int32) (x6 : Int32) (x7 : Int32) (x8 : Int32) (x11 : Int32) (x12 : Int32) (x13 : Int32) (M : Mem), fX8_someDay_191  n x0 x2 x3 x4 x5 x6 x7 x8 x11 x12 x13 M = some p → G κ mX8_someDay 0 0 191 [(0, .ref x0), (2, .int x2), (3, .int x3), (4, .int x4), (5, .int x5), (6, .int x6), (7, .int x7), (8, .int x8), (11, .int x11), (12, .int x12), (13, .int x13)] [] M := by
  intro n
  induction n with
  | zero => intro x0 x2 x3 x4 x5 x6 x7 x8 x11 x12 x13 M h; cases h
  | succ n ih =>
    intro x0 x2 x3 x4 x5 x6 x7 x8 x11 x12 x13 M h
    rw [fX8_someDay_191] at h
    refine g_iload (pc' := 193) 10 O dX8_someDay_191 rfl rfl ?_
    refine g_sipush (v := 9999) (pc' := 196) O dX8_someDay_193 (by decide) rfl ?_
    refine g_icmp_gt (tgt := 255) (pc' := 199) O dX8_someDay_196 (by decide) rfl (fun hc => ?_) (fun hc => ?_)
    · replace h := ip hc h
      refine g_iconst (v := 0) (pc' := 256) O dX8_someDay_255 (by decide) rfl ?_
      refine g_istore (lv' := [(13, .int (0 : Int32)), (0, .ref x0), (2, .int x2), (3, .int x3), (4, .int x4), (5, .int x5), (6, .int x6), (7, .int x7), (8, .int x8), (11, .int x11), (12, .int x12)]) (pc' := 258) O dX8_someDay_256 (by decide) rfl rfl ?_
      refine g_iconst (v := 1) (pc' := 259) O dX8_someDay_258 (by decide) rfl ?_
      refine g_istore (lv' := [(14, .int (1 : Int32)), (13, .int (0 : Int32)), (0, .ref x0), (2, .int x2), (3, .int x3), (4, .int x4), (5, .int x5), (6, .int x6), (7, .int x7), (8, .int x8), (11, .int x11), (12, .int x12)]) (pc' := 261) O dX8_someDay_259 (by decide) rfl rfl ?_
      refine g_sub (lv' := [(0, .ref x0), (2, .int x2), (3, .int x3), (4, .int x4), (5, .int x5), (7, .int x7), (8, .int x8), (11, .int x11), (12, .int x12), (13, .int (0 : Int32)), (14, .int (1 : Int32))]) [2, 3, 4, 5, 6, 8, 9, 10, 11, 1, 0] rfl ?_
      exact tX8_someDay_261 O hf FU x0 x2 x3 x4 x5 x7 x8 x11 x12 (0 : Int32) (1 : Int32) M h
    · replace h := ine hc h
      refine g_aload_n (pc' := 200) 0 O dX8_someDay_199 rfl rfl rfl ?_
      refine g_iload (pc' := 202) 10 O dX8_someDay_200 rfl rfl ?_
      refine g_iconst (v := 4) (pc' := 203) O dX8_someDay_202 (by decide) rfl ?_
      refine g_iload (pc' := 205) 5 O dX8_someDay_203 rfl rfl ?_
      refine g_iload (pc' := 207) 3 O dX8_someDay_205 rfl rfl ?_
      replace h := ob h; obtain ⟨u1, eu1, h⟩ := h
      replace h := ob h; obtain ⟨r2, er2, h⟩ := h
      refine g_callV (y := yX8_begins) (ν := mX8_begins) (n := 4) (As := [.int x13, .int (4 : Int32), .int x6, .int x4]) (b := x0) (st := []) (M2 := r2.2) (r1 := (some (.int r2.1))) (pc' := 210) O dX8_someDay_207 tw_893 tw_58 tw_892 tw_33 tw_890 hyX8_begins rfl rfl eu1 (okX8_begins er2) (Nat.le_of_ble_eq_true rfl) ⟨Nat.le_of_ble_eq_true rfl, Nat.le_of_ble_eq_true rfl⟩ ⟨Nat.le_of_ble_eq_true rfl, Nat.le_of_ble_eq_true rfl⟩ rfl ?_
      show G κ mX8_someDay 0 0 210 [(0, .ref x0), (2, .int x2), (3, .int x3), (4, .int x4), (5, .int x5), (6, .int x6), (7, .int x7), (8, .int x8), (11, .int x11), (12, .int x12), (13, .int x13)] [.int r2.1] r2.2
      refine g_if_eq (tgt := 249) (pc' := 213) O dX8_someDay_210 (by decide) rfl (fun hc => ?_) (fun hc => ?_)
      · replace h := ip hc h
        exact tX8_someDay_249 O hf ih h
      · replace h := ine hc h
        refine g_iload (pc' := 215) 8 O dX8_someDay_213 rfl rfl ?_
        refine g_if_ne (tgt := 223) (pc' := 218) O dX8_someDay_215 (by decide) rfl (fun hc => ?_) (fun hc => ?_)
        · replace h := ine hc h
          refine g_iload (pc' := 225) 8 O dX8_someDay_223 rfl rfl ?_
          refine g_sub (lv' := [(0, .ref x0), (2, .int x2), (3, .int x3), (4, .int x4), (5, .int x5), (6, .int x6), (7, .int x7), (8, .int x8), (12, .int x12), (13, .int x13)]) [0, 1, 2, 3, 4, 5, 6, 7, 9, 10] rfl ?_
          exact tX8_someDay_225 O hf ih h
        · replace h := ip hc h
          refine g_iload (pc' := 220) 10 O dX8_someDay_218 rfl rfl ?_
          refine g_goto (pc' := 225) O dX8_someDay_220 (by decide) ?_
          refine g_sub (lv' := [(0, .ref x0), (2, .int x2), (3, .int x3), (4, .int x4), (5, .int x5), (6, .int x6), (7, .int x7), (8, .int x8), (12, .int x12), (13, .int x13)]) [0, 1, 2, 3, 4, 5, 6, 7, 9, 10] rfl ?_
          exact tX8_someDay_225 O hf ih h
def fX8_someDay_180  (M : Mem) : Option (Int32 × Mem) :=
  some ((0 : Int32), M)
set_option maxHeartbeats 4000000 in
set_option maxRecDepth 100000 in
theorem tX8_someDay_180 {κ : KT} {p : Int32 × Mem} (O : OkK κ mX8_someDay) (hf : κ.2.2.2.2.2.2.2.2.2.2.2.2.2 = (some (.int p.1), p.2))  {M : Mem} (h : fX8_someDay_180  M = some p) : G κ mX8_someDay 0 0 180 [] [] M := by
  unfold fX8_someDay_180 at h
  refine g_iconst (v := 0) (pc' := 181) O dX8_someDay_180 (by decide) rfl ?_
  cases h
  exact g_ireturn O dX8_someDay_181 rfl rfl hf (by decide) (by decide)
def fX8_someDay_147  (x0 : Nat) (x1 : Int32) (x2 : Int32) (x3 : Int32) (x4 : Int32) (x5 : Int32) (x6 : Int32) (x7 : Int32) (x8 : Int32) (x9 : Int32) (s0 : Int32) (M : Mem) : Option (Int32 × Mem) :=
  if x5 < x4 then (fX8_someDay_180 M)
  else ((ck M 5 x0).bind fun u1 =>
  (fX8_isSign x0 x1 x9 x4 M).bind fun r2 =>
  if r2.1 = 0 then (fX8_someDay_180 r2.2)
  else ((ck r2.2 5 x0).bind fun u3 =>
  (fX8_isSign x0 x1 s0 x4 r2.2).bind fun r4 =>
  if r4.1 = 0 then (fX8_someDay_180 r4.2)
  else (fX8_someDay_191 FU x0 x2 x3 x4 x5 x6 x7 x8 (0 : Int32) (0 : Int32) (1 : Int32) r4.2)))
set_option maxHeartbeats 4000000 in
set_option maxRecDepth 100000 in
theorem tX8_someDay_147 {κ : KT} {p : Int32 × Mem} (O : OkK κ mX8_someDay) (hf : κ.2.2.2.2.2.2.2.2.2.2.2.2.2 = (some (.int p.1), p.2))  {x0 : Nat} {x1 : Int32} {x2 : Int32} {x3 : Int32} {x4 : Int32} {x5 : Int32} {x6 : Int32} {x7 : Int32} {x8 : Int32} {x9 : Int32} {s0 : Int32} {M : Mem} (h : fX8_someDay_147  x0 x1 x2 x3 x4 x5 x6 x7 x8 x9 s0 M = some p) : G κ mX8_someDay 0 0 147 [(0, .ref x0), (1, .int x1), (2, .int x2), (3, .int x3), (4, .int x4), (5, .int x5), (6, .int x6), (7, .int x7), (8, .int x8), (9, .int x9)] [.int s0] M := by
  unfold fX8_someDay_147 at h
  refine g_istore (lv' := [(10, .int s0), (0, .ref x0), (1, .int x1), (2, .int x2), (3, .int x3), (4, .int x4), (5, .int x5), (6, .int x6), (7, .int x7), (8, .int x8), (9, .int x9)]) (pc' := 149) O dX8_someDay_147 (by decide) rfl rfl ?_
  refine g_iload (pc' := 151) 5 O dX8_someDay_149 rfl rfl ?_
  refine g_iload (pc' := 153) 6 O dX8_someDay_151 rfl rfl ?_
  refine g_icmp_gt (tgt := 180) (pc' := 156) O dX8_someDay_153 (by decide) rfl (fun hc => ?_) (fun hc => ?_)
  · replace h := ip hc h
    refine g_sub (lv' := []) [] rfl ?_
    exact tX8_someDay_180 O hf h
  · replace h := ine hc h
    refine g_aload_n (pc' := 157) 1 O dX8_someDay_156 rfl rfl rfl ?_
    refine g_iload_n (pc' := 158) 2 O dX8_someDay_157 rfl rfl rfl ?_
    refine g_iload (pc' := 160) 10 O dX8_someDay_158 rfl rfl ?_
    refine g_iload (pc' := 162) 5 O dX8_someDay_160 rfl rfl ?_
    replace h := ob h; obtain ⟨u1, eu1, h⟩ := h
    replace h := ob h; obtain ⟨r2, er2, h⟩ := h
    refine g_callV (y := yX8_isSign) (ν := mX8_isSign) (n := 3) (As := [.int x1, .int x9, .int x4]) (b := x0) (st := []) (M2 := r2.2) (r1 := (some (.int r2.1))) (pc' := 165) O dX8_someDay_162 tw_889 tw_58 tw_888 tw_32 tw_886 hyX8_isSign rfl rfl eu1 (okX8_isSign er2) (Nat.le_of_ble_eq_true rfl) ⟨Nat.le_of_ble_eq_true rfl, Nat.le_of_ble_eq_true rfl⟩ ⟨Nat.le_of_ble_eq_true rfl, Nat.le_of_ble_eq_true rfl⟩ rfl ?_
    show G κ mX8_someDay 0 0 165 [(10, .int s0), (0, .ref x0), (1, .int x1), (2, .int x2), (3, .int x3), (4, .int x4), (5, .int x5), (6, .int x6), (7, .int x7), (8, .int x8), (9, .int x9)] [.int r2.1] r2.2
    refine g_if_eq (tgt := 180) (pc' := 168) O dX8_someDay_165 (by decide) rfl (fun hc => ?_) (fun hc => ?_)
    · replace h := ip hc h
      refine g_sub (lv' := []) [] rfl ?_
      exact tX8_someDay_180 O hf h
    · replace h := ine hc h
      refine g_aload_n (pc' := 169) 1 O dX8_someDay_168 rfl rfl rfl ?_
      refine g_iload_n (pc' := 170) 2 O dX8_someDay_169 rfl rfl rfl ?_
      refine g_iload (pc' := 172) 0 O dX8_someDay_170 rfl rfl ?_
      refine g_iload (pc' := 174) 5 O dX8_someDay_172 rfl rfl ?_
      replace h := ob h; obtain ⟨u3, eu3, h⟩ := h
      replace h := ob h; obtain ⟨r4, er4, h⟩ := h
      refine g_callV (y := yX8_isSign) (ν := mX8_isSign) (n := 3) (As := [.int x1, .int s0, .int x4]) (b := x0) (st := []) (M2 := r4.2) (r1 := (some (.int r4.1))) (pc' := 177) O dX8_someDay_174 tw_889 tw_58 tw_888 tw_32 tw_886 hyX8_isSign rfl rfl eu3 (okX8_isSign er4) (Nat.le_of_ble_eq_true rfl) ⟨Nat.le_of_ble_eq_true rfl, Nat.le_of_ble_eq_true rfl⟩ ⟨Nat.le_of_ble_eq_true rfl, Nat.le_of_ble_eq_true rfl⟩ rfl ?_
      show G κ mX8_someDay 0 0 177 [(10, .int s0), (0, .ref x0), (1, .int x1), (2, .int x2), (3, .int x3), (4, .int x4), (5, .int x5), (6, .int x6), (7, .int x7), (8, .int x8), (9, .int x9)] [.int r4.1] r4.2
      refine g_if_ne (tgt := 182) (pc' := 180) O dX8_someDay_177 (by decide) rfl (fun hc => ?_) (fun hc => ?_)
      · replace h := ine hc h
        refine g_iconst (v := 0) (pc' := 183) O dX8_someDay_182 (by decide) rfl ?_
        refine g_istore (lv' := [(11, .int (0 : Int32)), (10, .int s0), (0, .ref x0), (1, .int x1), (2, .int x2), (3, .int x3), (4, .int x4), (5, .int x5), (6, .int x6), (7, .int x7), (8, .int x8), (9, .int x9)]) (pc' := 185) O dX8_someDay_183 (by decide) rfl rfl ?_
        refine g_iconst (v := 0) (pc' := 186) O dX8_someDay_185 (by decide) rfl ?_
        refine g_istore (lv' := [(12, .int (0 : Int32)), (11, .int (0 : Int32)), (10, .int s0), (0, .ref x0), (1, .int x1), (2, .int x2), (3, .int x3), (4, .int x4), (5, .int x5), (6, .int x6), (7, .int x7), (8, .int x8), (9, .int x9)]) (pc' := 188) O dX8_someDay_186 (by decide) rfl rfl ?_
        refine g_iconst (v := 1) (pc' := 189) O dX8_someDay_188 (by decide) rfl ?_
        refine g_istore (lv' := [(13, .int (1 : Int32)), (12, .int (0 : Int32)), (11, .int (0 : Int32)), (10, .int s0), (0, .ref x0), (1, .int x1), (2, .int x2), (3, .int x3), (4, .int x4), (5, .int x5), (6, .int x6), (7, .int x7), (8, .int x8), (9, .int x9)]) (pc' := 191) O dX8_someDay_189 (by decide) rfl rfl ?_
        refine g_sub (lv' := [(0, .ref x0), (2, .int x2), (3, .int x3), (4, .int x4), (5, .int x5), (6, .int x6), (7, .int x7), (8, .int x8), (11, .int (0 : Int32)), (12, .int (0 : Int32)), (13, .int (1 : Int32))]) [4, 6, 7, 8, 9, 10, 11, 12, 2, 1, 0] rfl ?_
        exact tX8_someDay_191 O hf FU x0 x2 x3 x4 x5 x6 x7 x8 (0 : Int32) (0 : Int32) (1 : Int32) r4.2 h
      · replace h := ip hc h
        refine g_sub (lv' := []) [] rfl ?_
        exact tX8_someDay_180 O hf h
def fX8_someDay_124  (x0 : Nat) (x1 : Int32) (x2 : Int32) (x3 : Int32) (x4 : Int32) (x5 : Int32) (x6 : Int32) (x7 : Int32) (x8 : Int32) (s0 : Int32) (M : Mem) : Option (Int32 × Mem) :=
  (gN M 5 x0 8).bind fun v1 =>
  (aI M v1 x1).bind fun v2 =>
  if v2 = (2 : Int32) then (fX8_someDay_147 x0 x1 x2 x3 x4 x5 x6 x7 x8 s0 (x3 + (5 : Int32)) M)
  else (fX8_someDay_147 x0 x1 x2 x3 x4 x5 x6 x7 x8 s0 ((x2 + x3) + (1 : Int32)) M)
set_option maxHeartbeats 4000000 in
set_option maxRecDepth 100000 in
theorem tX8_someDay_124 {κ : KT} {p : Int32 × Mem} (O : OkK κ mX8_someDay) (hf : κ.2.2.2.2.2.2.2.2.2.2.2.2.2 = (some (.int p.1), p.2))  {x0 : Nat} {x1 : Int32} {x2 : Int32} {x3 : Int32} {x4 : Int32} {x5 : Int32} {x6 : Int32} {x7 : Int32} {x8 : Int32} {s0 : Int32} {M : Mem} (h : fX8_someDay_124  x0 x1 x2 x3 x4 x5 x6 x7 x8 s0 M = some p) : G κ mX8_someDay 0 0 124 [(0, .ref x0), (1, .int x1), (2, .int x2), (3, .int x3), (4, .int x4), (5, .int x5), (6, .int x6), (7, .int x7), (8, .int x8)] [.int s0] M := by
  unfold fX8_someDay_124 at h
  refine g_istore (lv' := [(9, .int s0), (0, .ref x0), (1, .int x1), (2, .int x2), (3, .int x3), (4, .int x4), (5, .int x5), (6, .int x6), (7, .int x7), (8, .int x8)]) (pc' := 126) O dX8_someDay_124 (by decide) rfl rfl ?_
  refine g_aload_n (pc' := 127) 1 O dX8_someDay_126 rfl rfl rfl ?_
  replace h := ob h; obtain ⟨v1, ev1, h⟩ := h
  refine g_getF (C := RX8) (T := TX8) (N := 29) (ci := 5) (k := 8) (pc' := 130) O dX8_someDay_127 rfl inX8 (by decide) tw_724 (gN_F ev1) rfl ?_
  refine g_iload_n (pc' := 131) 2 O dX8_someDay_130 rfl rfl rfl ?_
  replace h := ob h; obtain ⟨v2, ev2, h⟩ := h
  refine g_iald (pc' := 132) O dX8_someDay_131 ev2 rfl ?_
  refine g_iconst (v := 2) (pc' := 133) O dX8_someDay_132 (by decide) rfl ?_
  refine g_icmp_ne (tgt := 142) (pc' := 136) O dX8_someDay_133 (by decide) rfl (fun hc => ?_) (fun hc => ?_)
  · replace h := ine hc h
    refine g_iload_n (pc' := 143) 3 O dX8_someDay_142 rfl rfl rfl ?_
    refine g_iload_n (pc' := 144) 4 O dX8_someDay_143 rfl rfl rfl ?_
    refine g_iadd (pc' := 145) O dX8_someDay_144 rfl ?_
    refine g_iconst (v := 1) (pc' := 146) O dX8_someDay_145 (by decide) rfl ?_
    refine g_iadd (pc' := 147) O dX8_someDay_146 rfl ?_
    refine g_sub (lv' := [(0, .ref x0), (1, .int x1), (2, .int x2), (3, .int x3), (4, .int x4), (5, .int x5), (6, .int x6), (7, .int x7), (8, .int x8), (9, .int s0)]) [1, 2, 3, 4, 5, 6, 7, 8, 9, 0] rfl ?_
    exact tX8_someDay_147 O hf h
  · replace h := ip hc h
    refine g_iload_n (pc' := 137) 4 O dX8_someDay_136 rfl rfl rfl ?_
    refine g_iconst (v := 5) (pc' := 138) O dX8_someDay_137 (by decide) rfl ?_
    refine g_iadd (pc' := 139) O dX8_someDay_138 rfl ?_
    refine g_goto (pc' := 147) O dX8_someDay_139 (by decide) ?_
    refine g_sub (lv' := [(0, .ref x0), (1, .int x1), (2, .int x2), (3, .int x3), (4, .int x4), (5, .int x5), (6, .int x6), (7, .int x7), (8, .int x8), (9, .int s0)]) [1, 2, 3, 4, 5, 6, 7, 8, 9, 0] rfl ?_
    exact tX8_someDay_147 O hf h
def fX8_someDay_94  (x0 : Nat) (x1 : Int32) (x2 : Int32) (x3 : Int32) (x4 : Int32) (x5 : Int32) (x6 : Int32) (x7 : Int32) (s0 : Int32) (M : Mem) : Option (Int32 × Mem) :=
  (gN M 5 x0 8).bind fun v1 =>
  (aI M v1 x1).bind fun v2 =>
  if v2 = (2 : Int32) then (fX8_someDay_124 x0 x1 x2 x3 x4 x5 x6 x7 s0 (4 : Int32) M)
  else ((gN M 5 x0 8).bind fun v3 =>
  (aI M v3 x1).bind fun v4 =>
  if v4 = 0 then (fX8_someDay_124 x0 x1 x2 x3 x4 x5 x6 x7 s0 x2 M)
  else (fX8_someDay_124 x0 x1 x2 x3 x4 x5 x6 x7 s0 x3 M))
set_option maxHeartbeats 4000000 in
set_option maxRecDepth 100000 in
theorem tX8_someDay_94 {κ : KT} {p : Int32 × Mem} (O : OkK κ mX8_someDay) (hf : κ.2.2.2.2.2.2.2.2.2.2.2.2.2 = (some (.int p.1), p.2))  {x0 : Nat} {x1 : Int32} {x2 : Int32} {x3 : Int32} {x4 : Int32} {x5 : Int32} {x6 : Int32} {x7 : Int32} {s0 : Int32} {M : Mem} (h : fX8_someDay_94  x0 x1 x2 x3 x4 x5 x6 x7 s0 M = some p) : G κ mX8_someDay 0 0 94 [(0, .ref x0), (1, .int x1), (2, .int x2), (3, .int x3), (4, .int x4), (5, .int x5), (6, .int x6), (7, .int x7)] [.int s0] M := by
  unfold fX8_someDay_94 at h
  refine g_istore (lv' := [(8, .int s0), (0, .ref x0), (1, .int x1), (2, .int x2), (3, .int x3), (4, .int x4), (5, .int x5), (6, .int x6), (7, .int x7)]) (pc' := 96) O dX8_someDay_94 (by decide) rfl rfl ?_
  refine g_aload_n (pc' := 97) 1 O dX8_someDay_96 rfl rfl rfl ?_
  replace h := ob h; obtain ⟨v1, ev1, h⟩ := h
  refine g_getF (C := RX8) (T := TX8) (N := 29) (ci := 5) (k := 8) (pc' := 100) O dX8_someDay_97 rfl inX8 (by decide) tw_724 (gN_F ev1) rfl ?_
  refine g_iload_n (pc' := 101) 2 O dX8_someDay_100 rfl rfl rfl ?_
  replace h := ob h; obtain ⟨v2, ev2, h⟩ := h
  refine g_iald (pc' := 102) O dX8_someDay_101 ev2 rfl ?_
  refine g_iconst (v := 2) (pc' := 103) O dX8_someDay_102 (by decide) rfl ?_
  refine g_icmp_ne (tgt := 110) (pc' := 106) O dX8_someDay_103 (by decide) rfl (fun hc => ?_) (fun hc => ?_)
  · replace h := ine hc h
    refine g_aload_n (pc' := 111) 1 O dX8_someDay_110 rfl rfl rfl ?_
    replace h := ob h; obtain ⟨v3, ev3, h⟩ := h
    refine g_getF (C := RX8) (T := TX8) (N := 29) (ci := 5) (k := 8) (pc' := 114) O dX8_someDay_111 rfl inX8 (by decide) tw_724 (gN_F ev3) rfl ?_
    refine g_iload_n (pc' := 115) 2 O dX8_someDay_114 rfl rfl rfl ?_
    replace h := ob h; obtain ⟨v4, ev4, h⟩ := h
    refine g_iald (pc' := 116) O dX8_someDay_115 ev4 rfl ?_
    refine g_if_ne (tgt := 123) (pc' := 119) O dX8_someDay_116 (by decide) rfl (fun hc => ?_) (fun hc => ?_)
    · replace h := ine hc h
      refine g_iload_n (pc' := 124) 4 O dX8_someDay_123 rfl rfl rfl ?_
      refine g_sub (lv' := [(0, .ref x0), (1, .int x1), (2, .int x2), (3, .int x3), (4, .int x4), (5, .int x5), (6, .int x6), (7, .int x7), (8, .int s0)]) [1, 2, 3, 4, 5, 6, 7, 8, 0] rfl ?_
      exact tX8_someDay_124 O hf h
    · replace h := ip hc h
      refine g_iload_n (pc' := 120) 3 O dX8_someDay_119 rfl rfl rfl ?_
      refine g_goto (pc' := 124) O dX8_someDay_120 (by decide) ?_
      refine g_sub (lv' := [(0, .ref x0), (1, .int x1), (2, .int x2), (3, .int x3), (4, .int x4), (5, .int x5), (6, .int x6), (7, .int x7), (8, .int s0)]) [1, 2, 3, 4, 5, 6, 7, 8, 0] rfl ?_
      exact tX8_someDay_124 O hf h
  · replace h := ip hc h
    refine g_iconst (v := 4) (pc' := 107) O dX8_someDay_106 (by decide) rfl ?_
    refine g_goto (pc' := 124) O dX8_someDay_107 (by decide) ?_
    refine g_sub (lv' := [(0, .ref x0), (1, .int x1), (2, .int x2), (3, .int x3), (4, .int x4), (5, .int x5), (6, .int x6), (7, .int x7), (8, .int s0)]) [1, 2, 3, 4, 5, 6, 7, 8, 0] rfl ?_
    exact tX8_someDay_124 O hf h
def fX8_someDay_62  (x0 : Nat) (x1 : Int32) (x2 : Int32) (x3 : Int32) (x4 : Int32) (x5 : Int32) (x6 : Int32) (s0 : Int32) (M : Mem) : Option (Int32 × Mem) :=
  (gN M 5 x0 8).bind fun v1 =>
  (aI M v1 x1).bind fun v2 =>
  if v2 = 0 then (fX8_someDay_94 x0 x1 x2 x3 x4 x5 x6 s0 (x2 + (1 : Int32)) M)
  else ((gN M 5 x0 8).bind fun v3 =>
  (aI M v3 x1).bind fun v4 =>
  if v4 = (1 : Int32) then (fX8_someDay_94 x0 x1 x2 x3 x4 x5 x6 s0 (0 : Int32) M)
  else (fX8_someDay_94 x0 x1 x2 x3 x4 x5 x6 s0 (5 : Int32) M))
set_option maxHeartbeats 4000000 in
set_option maxRecDepth 100000 in
theorem tX8_someDay_62 {κ : KT} {p : Int32 × Mem} (O : OkK κ mX8_someDay) (hf : κ.2.2.2.2.2.2.2.2.2.2.2.2.2 = (some (.int p.1), p.2))  {x0 : Nat} {x1 : Int32} {x2 : Int32} {x3 : Int32} {x4 : Int32} {x5 : Int32} {x6 : Int32} {s0 : Int32} {M : Mem} (h : fX8_someDay_62  x0 x1 x2 x3 x4 x5 x6 s0 M = some p) : G κ mX8_someDay 0 0 62 [(0, .ref x0), (1, .int x1), (2, .int x2), (3, .int x3), (4, .int x4), (5, .int x5), (6, .int x6)] [.int s0] M := by
  unfold fX8_someDay_62 at h
  refine g_istore (lv' := [(7, .int s0), (0, .ref x0), (1, .int x1), (2, .int x2), (3, .int x3), (4, .int x4), (5, .int x5), (6, .int x6)]) (pc' := 64) O dX8_someDay_62 (by decide) rfl rfl ?_
  refine g_aload_n (pc' := 65) 1 O dX8_someDay_64 rfl rfl rfl ?_
  replace h := ob h; obtain ⟨v1, ev1, h⟩ := h
  refine g_getF (C := RX8) (T := TX8) (N := 29) (ci := 5) (k := 8) (pc' := 68) O dX8_someDay_65 rfl inX8 (by decide) tw_724 (gN_F ev1) rfl ?_
  refine g_iload_n (pc' := 69) 2 O dX8_someDay_68 rfl rfl rfl ?_
  replace h := ob h; obtain ⟨v2, ev2, h⟩ := h
  refine g_iald (pc' := 70) O dX8_someDay_69 ev2 rfl ?_
  refine g_if_ne (tgt := 79) (pc' := 73) O dX8_someDay_70 (by decide) rfl (fun hc => ?_) (fun hc => ?_)
  · replace h := ine hc h
    refine g_aload_n (pc' := 80) 1 O dX8_someDay_79 rfl rfl rfl ?_
    replace h := ob h; obtain ⟨v3, ev3, h⟩ := h
    refine g_getF (C := RX8) (T := TX8) (N := 29) (ci := 5) (k := 8) (pc' := 83) O dX8_someDay_80 rfl inX8 (by decide) tw_724 (gN_F ev3) rfl ?_
    refine g_iload_n (pc' := 84) 2 O dX8_someDay_83 rfl rfl rfl ?_
    replace h := ob h; obtain ⟨v4, ev4, h⟩ := h
    refine g_iald (pc' := 85) O dX8_someDay_84 ev4 rfl ?_
    refine g_iconst (v := 1) (pc' := 86) O dX8_someDay_85 (by decide) rfl ?_
    refine g_icmp_ne (tgt := 93) (pc' := 89) O dX8_someDay_86 (by decide) rfl (fun hc => ?_) (fun hc => ?_)
    · replace h := ine hc h
      refine g_iconst (v := 5) (pc' := 94) O dX8_someDay_93 (by decide) rfl ?_
      refine g_sub (lv' := [(0, .ref x0), (1, .int x1), (2, .int x2), (3, .int x3), (4, .int x4), (5, .int x5), (6, .int x6), (7, .int s0)]) [1, 2, 3, 4, 5, 6, 7, 0] rfl ?_
      exact tX8_someDay_94 O hf h
    · replace h := ip hc h
      refine g_iconst (v := 0) (pc' := 90) O dX8_someDay_89 (by decide) rfl ?_
      refine g_goto (pc' := 94) O dX8_someDay_90 (by decide) ?_
      refine g_sub (lv' := [(0, .ref x0), (1, .int x1), (2, .int x2), (3, .int x3), (4, .int x4), (5, .int x5), (6, .int x6), (7, .int s0)]) [1, 2, 3, 4, 5, 6, 7, 0] rfl ?_
      exact tX8_someDay_94 O hf h
  · replace h := ip hc h
    refine g_iload_n (pc' := 74) 3 O dX8_someDay_73 rfl rfl rfl ?_
    refine g_iconst (v := 1) (pc' := 75) O dX8_someDay_74 (by decide) rfl ?_
    refine g_iadd (pc' := 76) O dX8_someDay_75 rfl ?_
    refine g_goto (pc' := 94) O dX8_someDay_76 (by decide) ?_
    refine g_sub (lv' := [(0, .ref x0), (1, .int x1), (2, .int x2), (3, .int x3), (4, .int x4), (5, .int x5), (6, .int x6), (7, .int s0)]) [1, 2, 3, 4, 5, 6, 7, 0] rfl ?_
    exact tX8_someDay_94 O hf h
def fX8_someDay_27  (x0 : Nat) (x1 : Int32) (x2 : Int32) (x3 : Int32) (x4 : Int32) (x5 : Int32) (s0 : Int32) (M : Mem) : Option (Int32 × Mem) :=
  (gN M 5 x0 8).bind fun v1 =>
  (aI M v1 x1).bind fun v2 =>
  if v2 = 0 then (fX8_someDay_62 x0 x1 x2 x3 x4 x5 s0 (0 : Int32) M)
  else ((gN M 5 x0 8).bind fun v3 =>
  (aI M v3 x1).bind fun v4 =>
  if v4 = (1 : Int32) then (fX8_someDay_62 x0 x1 x2 x3 x4 x5 s0 (x3 + (1 : Int32)) M)
  else (fX8_someDay_62 x0 x1 x2 x3 x4 x5 s0 (x3 + (6 : Int32)) M))
set_option maxHeartbeats 4000000 in
set_option maxRecDepth 100000 in
theorem tX8_someDay_27 {κ : KT} {p : Int32 × Mem} (O : OkK κ mX8_someDay) (hf : κ.2.2.2.2.2.2.2.2.2.2.2.2.2 = (some (.int p.1), p.2))  {x0 : Nat} {x1 : Int32} {x2 : Int32} {x3 : Int32} {x4 : Int32} {x5 : Int32} {s0 : Int32} {M : Mem} (h : fX8_someDay_27  x0 x1 x2 x3 x4 x5 s0 M = some p) : G κ mX8_someDay 0 0 27 [(0, .ref x0), (1, .int x1), (2, .int x2), (3, .int x3), (4, .int x4), (5, .int x5)] [.int s0] M := by
  unfold fX8_someDay_27 at h
  refine g_istore (lv' := [(6, .int s0), (0, .ref x0), (1, .int x1), (2, .int x2), (3, .int x3), (4, .int x4), (5, .int x5)]) (pc' := 29) O dX8_someDay_27 (by decide) rfl rfl ?_
  refine g_aload_n (pc' := 30) 1 O dX8_someDay_29 rfl rfl rfl ?_
  replace h := ob h; obtain ⟨v1, ev1, h⟩ := h
  refine g_getF (C := RX8) (T := TX8) (N := 29) (ci := 5) (k := 8) (pc' := 33) O dX8_someDay_30 rfl inX8 (by decide) tw_724 (gN_F ev1) rfl ?_
  refine g_iload_n (pc' := 34) 2 O dX8_someDay_33 rfl rfl rfl ?_
  replace h := ob h; obtain ⟨v2, ev2, h⟩ := h
  refine g_iald (pc' := 35) O dX8_someDay_34 ev2 rfl ?_
  refine g_if_ne (tgt := 42) (pc' := 38) O dX8_someDay_35 (by decide) rfl (fun hc => ?_) (fun hc => ?_)
  · replace h := ine hc h
    refine g_aload_n (pc' := 43) 1 O dX8_someDay_42 rfl rfl rfl ?_
    replace h := ob h; obtain ⟨v3, ev3, h⟩ := h
    refine g_getF (C := RX8) (T := TX8) (N := 29) (ci := 5) (k := 8) (pc' := 46) O dX8_someDay_43 rfl inX8 (by decide) tw_724 (gN_F ev3) rfl ?_
    refine g_iload_n (pc' := 47) 2 O dX8_someDay_46 rfl rfl rfl ?_
    replace h := ob h; obtain ⟨v4, ev4, h⟩ := h
    refine g_iald (pc' := 48) O dX8_someDay_47 ev4 rfl ?_
    refine g_iconst (v := 1) (pc' := 49) O dX8_someDay_48 (by decide) rfl ?_
    refine g_icmp_ne (tgt := 58) (pc' := 52) O dX8_someDay_49 (by decide) rfl (fun hc => ?_) (fun hc => ?_)
    · replace h := ine hc h
      refine g_iload_n (pc' := 59) 4 O dX8_someDay_58 rfl rfl rfl ?_
      refine g_bipush (v := 6) (pc' := 61) O dX8_someDay_59 (by decide) rfl ?_
      refine g_iadd (pc' := 62) O dX8_someDay_61 rfl ?_
      refine g_sub (lv' := [(0, .ref x0), (1, .int x1), (2, .int x2), (3, .int x3), (4, .int x4), (5, .int x5), (6, .int s0)]) [1, 2, 3, 4, 5, 6, 0] rfl ?_
      exact tX8_someDay_62 O hf h
    · replace h := ip hc h
      refine g_iload_n (pc' := 53) 4 O dX8_someDay_52 rfl rfl rfl ?_
      refine g_iconst (v := 1) (pc' := 54) O dX8_someDay_53 (by decide) rfl ?_
      refine g_iadd (pc' := 55) O dX8_someDay_54 rfl ?_
      refine g_goto (pc' := 62) O dX8_someDay_55 (by decide) ?_
      refine g_sub (lv' := [(0, .ref x0), (1, .int x1), (2, .int x2), (3, .int x3), (4, .int x4), (5, .int x5), (6, .int s0)]) [1, 2, 3, 4, 5, 6, 0] rfl ?_
      exact tX8_someDay_62 O hf h
  · replace h := ip hc h
    refine g_iconst (v := 0) (pc' := 39) O dX8_someDay_38 (by decide) rfl ?_
    refine g_goto (pc' := 62) O dX8_someDay_39 (by decide) ?_
    refine g_sub (lv' := [(0, .ref x0), (1, .int x1), (2, .int x2), (3, .int x3), (4, .int x4), (5, .int x5), (6, .int s0)]) [1, 2, 3, 4, 5, 6, 0] rfl ?_
    exact tX8_someDay_62 O hf h
def fX8_someDay  (this : Nat) (p0 : Int32) (p1 : Int32) (p2 : Int32) (p3 : Int32) (M : Mem) : Option (Int32 × Mem) :=
  (gN M 5 this 8).bind fun v1 =>
  (aI M v1 p0).bind fun v2 =>
  if v2 = (2 : Int32) then (fX8_someDay_27 this p0 p1 p2 p3 ((p1 + p2) + (6 : Int32)) (0 : Int32) M)
  else (fX8_someDay_27 this p0 p1 p2 p3 ((p1 + p2) + (6 : Int32)) ((p1 + p2) + (2 : Int32)) M)
set_option maxHeartbeats 4000000 in
set_option maxRecDepth 100000 in
theorem okX8_someDay {l : Launch} {p : Int32 × Mem} {this : Nat} {p0 : Int32} {p1 : Int32} {p2 : Int32} {p3 : Int32} {M : Mem} (h : fX8_someDay this p0 p1 p2 p3 M = some p) : Cn l yX8_someDay mX8_someDay [.ref this, .int p0, .int p1, .int p2, .int p3] M (some (.int p.1)) p.2 := by
  refine Cn.of [(0, .ref this), (1, .int p0), (2, .int p1), (3, .int p2), (4, .int p3)] (by decide) rfl rfl (Nat.le_of_ble_eq_true rfl) rfl (fun κ _ hf O => ?_)
  unfold fX8_someDay at h
  refine g_iload_n (pc' := 1) 2 O dX8_someDay_0 rfl rfl rfl ?_
  refine g_iload_n (pc' := 2) 3 O dX8_someDay_1 rfl rfl rfl ?_
  refine g_iadd (pc' := 3) O dX8_someDay_2 rfl ?_
  refine g_bipush (v := 6) (pc' := 5) O dX8_someDay_3 (by decide) rfl ?_
  refine g_iadd (pc' := 6) O dX8_someDay_5 rfl ?_
  refine g_istore (lv' := [(5, .int ((p1 + p2) + (6 : Int32))), (0, .ref this), (1, .int p0), (2, .int p1), (3, .int p2), (4, .int p3)]) (pc' := 8) O dX8_someDay_6 (by decide) rfl rfl ?_
  refine g_aload_n (pc' := 9) 1 O dX8_someDay_8 rfl rfl rfl ?_
  replace h := ob h; obtain ⟨v1, ev1, h⟩ := h
  refine g_getF (C := RX8) (T := TX8) (N := 29) (ci := 5) (k := 8) (pc' := 12) O dX8_someDay_9 rfl inX8 (by decide) tw_724 (gN_F ev1) rfl ?_
  refine g_iload_n (pc' := 13) 2 O dX8_someDay_12 rfl rfl rfl ?_
  replace h := ob h; obtain ⟨v2, ev2, h⟩ := h
  refine g_iald (pc' := 14) O dX8_someDay_13 ev2 rfl ?_
  refine g_iconst (v := 2) (pc' := 15) O dX8_someDay_14 (by decide) rfl ?_
  refine g_icmp_ne (tgt := 22) (pc' := 18) O dX8_someDay_15 (by decide) rfl (fun hc => ?_) (fun hc => ?_)
  · replace h := ine hc h
    refine g_iload_n (pc' := 23) 3 O dX8_someDay_22 rfl rfl rfl ?_
    refine g_iload_n (pc' := 24) 4 O dX8_someDay_23 rfl rfl rfl ?_
    refine g_iadd (pc' := 25) O dX8_someDay_24 rfl ?_
    refine g_iconst (v := 2) (pc' := 26) O dX8_someDay_25 (by decide) rfl ?_
    refine g_iadd (pc' := 27) O dX8_someDay_26 rfl ?_
    refine g_sub (lv' := [(0, .ref this), (1, .int p0), (2, .int p1), (3, .int p2), (4, .int p3), (5, .int ((p1 + p2) + (6 : Int32)))]) [1, 2, 3, 4, 5, 0] rfl ?_
    exact tX8_someDay_27 O hf h
  · replace h := ip hc h
    refine g_iconst (v := 0) (pc' := 19) O dX8_someDay_18 (by decide) rfl ?_
    refine g_goto (pc' := 27) O dX8_someDay_19 (by decide) ?_
    refine g_sub (lv' := [(0, .ref this), (1, .int p0), (2, .int p1), (3, .int p2), (4, .int p3), (5, .int ((p1 + p2) + (6 : Int32)))]) [1, 2, 3, 4, 5, 0] rfl ?_
    exact tX8_someDay_27 O hf h
abbrev mX8_held : MD := (cX8_held, 8, RX8, (some .int), { frames := 4, cells := 0, slots := 0, locals := 105 }, "held")
theorem hyX8_held : yX8_held.cls ≠ "java/lang/invoke/MethodHandle" ∧ yX8_held.cls ≠ "java/lang/invoke/VarHandle" ∧ (parseMethodDescriptor yX8_held.desc).map (fun d => d.parameters.length) = some 3 := by decide +kernel
def fX8_held_68 (k19 : Nat → Int32 → Int32 → Int32 → Int32 → Mem → Option (Int32 × Mem)) (k28 : Nat → Int32 → Int32 → Int32 → Int32 → Int32 → Mem → Option (Int32 × Mem)) (x0 : Nat) (x1 : Int32) (x3 : Int32) (x5 : Int32) (x6 : Int32) (s0 : Int32) (M : Mem) : Option (Int32 × Mem) :=
  k28 x0 x1 x3 s0 x5 (x6 + (1 : Int32)) M
set_option maxHeartbeats 4000000 in
set_option maxRecDepth 100000 in
theorem tX8_held_68 {κ : KT} {p : Int32 × Mem} (O : OkK κ mX8_held) (hf : κ.2.2.2.2.2.2.2.2.2.2.2.2.2 = (some (.int p.1), p.2)) {k19 : Nat → Int32 → Int32 → Int32 → Int32 → Mem → Option (Int32 × Mem)} (hk19 : ∀ (x0 : Nat) (x1 : Int32) (x3 : Int32) (x4 : Int32) (x5 : Int32) (M : Mem), k19 x0 x1 x3 x4 x5 M = some p → G κ mX8_held 0 0 19 [(0, .ref x0), (1, .int x1), (3, .int x3), (4, .int x4), (5, .int x5)] [] M) {k28 : Nat → Int32 → Int32 → Int32 → Int32 → Int32 → Mem → Option (Int32 × Mem)} (hk28 : ∀ (x0 : Nat) (x1 : Int32) (x3 : Int32) (x4 : Int32) (x5 : Int32) (x6 : Int32) (M : Mem), k28 x0 x1 x3 x4 x5 x6 M = some p → G κ mX8_held 0 0 28 [(0, .ref x0), (1, .int x1), (3, .int x3), (4, .int x4), (5, .int x5), (6, .int x6)] [] M) {x0 : Nat} {x1 : Int32} {x3 : Int32} {x5 : Int32} {x6 : Int32} {s0 : Int32} {M : Mem} (h : fX8_held_68 k19 k28 x0 x1 x3 x5 x6 s0 M = some p) : G κ mX8_held 0 0 68 [(0, .ref x0), (1, .int x1), (3, .int x3), (5, .int x5), (6, .int x6)] [.int s0] M := by
  unfold fX8_held_68 at h
  refine g_istore (lv' := [(4, .int s0), (0, .ref x0), (1, .int x1), (3, .int x3), (5, .int x5), (6, .int x6)]) (pc' := 70) O dX8_held_68 (by decide) rfl rfl ?_
  refine g_iinc (q := 5) (v := x6 + (1 : Int32)) (lv' := [(6, .int (x6 + (1 : Int32))), (4, .int s0), (0, .ref x0), (1, .int x1), (3, .int x3), (5, .int x5)]) (pc' := 73) O dX8_held_70 rfl rfl (by decide) rfl rfl ?_
  refine g_goto (pc' := 28) O dX8_held_73 (by decide) ?_
  refine g_sub (lv' := [(0, .ref x0), (1, .int x1), (3, .int x3), (4, .int s0), (5, .int x5), (6, .int (x6 + (1 : Int32)))]) [2, 3, 4, 1, 5, 0] rfl ?_
  exact hk28 x0 x1 x3 s0 x5 (x6 + (1 : Int32)) M h
def fX8_held_28 (k19 : Nat → Int32 → Int32 → Int32 → Int32 → Mem → Option (Int32 × Mem)) : Nat → Nat → Int32 → Int32 → Int32 → Int32 → Int32 → Mem → Option (Int32 × Mem)
  | 0, _, _, _, _, _, _, _ => none
  | n + 1, x0, x1, x3, x4, x5, x6, M =>
    if (2 : Int32) < x6 then (k19 x0 x1 x3 x4 (x5 + (1 : Int32)) M)
    else ((ck M 5 x0).bind fun u1 =>
    (fX8_someDay x0 x1 x5 x6 x3 M).bind fun r2 =>
    if r2.1 = (2 : Int32) then (some ((2 : Int32), r2.2))
    else (if r2.1 ≤ x4 then (fX8_held_68 k19 (fX8_held_28 k19 n) x0 x1 x3 x5 x6 x4 r2.2)
    else (fX8_held_68 k19 (fX8_held_28 k19 n) x0 x1 x3 x5 x6 r2.1 r2.2)))
set_option maxHeartbeats 4000000 in
set_option maxRecDepth 100000 in
theorem tX8_held_28 {κ : KT} {p : Int32 × Mem} (O : OkK κ mX8_held) (hf : κ.2.2.2.2.2.2.2.2.2.2.2.2.2 = (some (.int p.1), p.2)) {k19 : Nat → Int32 → Int32 → Int32 → Int32 → Mem → Option (Int32 × Mem)} (hk19 : ∀ (x0 : Nat) (x1 : Int32) (x3 : Int32) (x4 : Int32) (x5 : Int32) (M : Mem), k19 x0 x1 x3 x4 x5 M = some p → G κ mX8_held 0 0 19 [(0, .ref x0), (1, .int x1), (3, .int x3), (4, .int x4), (5, .int x5)] [] M) : ∀ (n : Nat) (x0 : Nat) (x1 : Int32) (x3 : Int32) (x4 : Int32) (x5 : Int32) (x6 : Int32) (M : Mem), fX8_held_28 k19 n x0 x1 x3 x4 x5 x6 M = some p → G κ mX8_held 0 0 28 [(0, .ref x0), (1, .int x1), (3, .int x3), (4, .int x4), (5, .int x5), (6, .int x6)] [] M := by
  intro n
  induction n with
  | zero => intro x0 x1 x3 x4 x5 x6 M h; cases h
  | succ n ih =>
    intro x0 x1 x3 x4 x5 x6 M h
    rw [fX8_held_28] at h
    refine g_iload (pc' := 30) 5 O dX8_held_28 rfl rfl ?_
    refine g_iconst (v := 2) (pc' := 31) O dX8_held_30 (by decide) rfl ?_
    refine g_icmp_gt (tgt := 76) (pc' := 34) O dX8_held_31 (by decide) rfl (fun hc => ?_) (fun hc => ?_)
    · replace h := ip hc h
      refine g_iinc (q := 4) (v := x5 + (1 : Int32)) (lv' := [(5, .int (x5 + (1 : Int32))), (0, .ref x0), (1, .int x1), (3, .int x3), (4, .int x4), (6, .int x6)]) (pc' := 79) O dX8_held_76 rfl rfl (by decide) rfl rfl ?_
      refine g_goto (pc' := 19) O dX8_held_79 (by decide) ?_
      refine g_sub (lv' := [(0, .ref x0), (1, .int x1), (3, .int x3), (4, .int x4), (5, .int (x5 + (1 : Int32)))]) [1, 2, 3, 4, 0] rfl ?_
      exact hk19 x0 x1 x3 x4 (x5 + (1 : Int32)) M h
    · replace h := ine hc h
      refine g_aload_n (pc' := 35) 0 O dX8_held_34 rfl rfl rfl ?_
      refine g_iload_n (pc' := 36) 1 O dX8_held_35 rfl rfl rfl ?_
      refine g_iload (pc' := 38) 4 O dX8_held_36 rfl rfl ?_
      refine g_iload (pc' := 40) 5 O dX8_held_38 rfl rfl ?_
      refine g_iload_n (pc' := 41) 2 O dX8_held_40 rfl rfl rfl ?_
      replace h := ob h; obtain ⟨u1, eu1, h⟩ := h
      replace h := ob h; obtain ⟨r2, er2, h⟩ := h
      refine g_callV (y := yX8_someDay) (ν := mX8_someDay) (n := 4) (As := [.int x1, .int x5, .int x6, .int x3]) (b := x0) (st := []) (M2 := r2.2) (r1 := (some (.int r2.1))) (pc' := 44) O dX8_held_41 tw_885 tw_58 tw_884 tw_31 tw_882 hyX8_someDay rfl rfl eu1 (okX8_someDay er2) (Nat.le_of_ble_eq_true rfl) ⟨Nat.le_of_ble_eq_true rfl, Nat.le_of_ble_eq_true rfl⟩ ⟨Nat.le_of_ble_eq_true rfl, Nat.le_of_ble_eq_true rfl⟩ rfl ?_
      show G κ mX8_held 0 0 44 [(0, .ref x0), (1, .int x1), (3, .int x3), (4, .int x4), (5, .int x5), (6, .int x6)] [.int r2.1] r2.2
      refine g_istore (lv' := [(7, .int r2.1), (0, .ref x0), (1, .int x1), (3, .int x3), (4, .int x4), (5, .int x5), (6, .int x6)]) (pc' := 46) O dX8_held_44 (by decide) rfl rfl ?_
      refine g_iload (pc' := 48) 0 O dX8_held_46 rfl rfl ?_
      refine g_iconst (v := 2) (pc' := 49) O dX8_held_48 (by decide) rfl ?_
      refine g_icmp_ne (tgt := 54) (pc' := 52) O dX8_held_49 (by decide) rfl (fun hc => ?_) (fun hc => ?_)
      · replace h := ine hc h
        refine g_iload (pc' := 56) 0 O dX8_held_54 rfl rfl ?_
        refine g_iload (pc' := 58) 4 O dX8_held_56 rfl rfl ?_
        refine g_icmp_le (tgt := 66) (pc' := 61) O dX8_held_58 (by decide) rfl (fun hc => ?_) (fun hc => ?_)
        · replace h := ip hc h
          refine g_iload (pc' := 68) 4 O dX8_held_66 rfl rfl ?_
          refine g_sub (lv' := [(0, .ref x0), (1, .int x1), (3, .int x3), (5, .int x5), (6, .int x6)]) [1, 2, 3, 5, 6] rfl ?_
          exact tX8_held_68 O hf hk19 ih h
        · replace h := ine hc h
          refine g_iload (pc' := 63) 0 O dX8_held_61 rfl rfl ?_
          refine g_goto (pc' := 68) O dX8_held_63 (by decide) ?_
          refine g_sub (lv' := [(0, .ref x0), (1, .int x1), (3, .int x3), (5, .int x5), (6, .int x6)]) [1, 2, 3, 5, 6] rfl ?_
          exact tX8_held_68 O hf hk19 ih h
      · replace h := ip hc h
        refine g_iconst (v := 2) (pc' := 53) O dX8_held_52 (by decide) rfl ?_
        cases h
        exact g_ireturn O dX8_held_53 rfl rfl hf (by decide) (by decide)
def fX8_held_19  : Nat → Nat → Int32 → Int32 → Int32 → Int32 → Mem → Option (Int32 × Mem)
  | 0, _, _, _, _, _, _ => none
  | n + 1, x0, x1, x3, x4, x5, M =>
    if (2 : Int32) < x5 then (some (x4, M))
    else (fX8_held_28 (fX8_held_19 n) FU x0 x1 x3 x4 x5 (1 : Int32) M)
set_option maxHeartbeats 4000000 in
set_option maxRecDepth 100000 in
theorem tX8_held_19 {κ : KT} {p : Int32 × Mem} (O : OkK κ mX8_held) (hf : κ.2.2.2.2.2.2.2.2.2.2.2.2.2 = (some (.int p.1), p.2))  : ∀ (n : Nat) (x0 : Nat) (x1 : Int32) (x3 : Int32) (x4 : Int32) (x5 : Int32) (M : Mem), fX8_held_19  n x0 x1 x3 x4 x5 M = some p → G κ mX8_held 0 0 19 [(0, .ref x0), (1, .int x1), (3, .int x3), (4, .int x4), (5, .int x5)] [] M := by
  intro n
  induction n with
  | zero => intro x0 x1 x3 x4 x5 M h; cases h
  | succ n ih =>
    intro x0 x1 x3 x4 x5 M h
    rw [fX8_held_19] at h
    refine g_iload (pc' := 21) 4 O dX8_held_19 rfl rfl ?_
    refine g_iconst (v := 2) (pc' := 22) O dX8_held_21 (by decide) rfl ?_
    refine g_icmp_gt (tgt := 82) (pc' := 25) O dX8_held_22 (by decide) rfl (fun hc => ?_) (fun hc => ?_)
    · replace h := ip hc h
      refine g_iload (pc' := 84) 3 O dX8_held_82 rfl rfl ?_
      cases h
      exact g_ireturn O dX8_held_84 rfl rfl hf (by decide) (by decide)
    · replace h := ine hc h
      refine g_iconst (v := 1) (pc' := 26) O dX8_held_25 (by decide) rfl ?_
      refine g_istore (lv' := [(6, .int (1 : Int32)), (0, .ref x0), (1, .int x1), (3, .int x3), (4, .int x4), (5, .int x5)]) (pc' := 28) O dX8_held_26 (by decide) rfl rfl ?_
      refine g_sub (lv' := [(0, .ref x0), (1, .int x1), (3, .int x3), (4, .int x4), (5, .int x5), (6, .int (1 : Int32))]) [1, 2, 3, 4, 5, 0] rfl ?_
      exact tX8_held_28 O hf ih FU x0 x1 x3 x4 x5 (1 : Int32) M h
def fX8_held  (this : Nat) (p0 : Int32) (p1 : Int32) (p2 : Int32) (M : Mem) : Option (Int32 × Mem) :=
  if (2 : Int32) ≤ p1 then (fX8_held_19 FU this p0 p2 (0 : Int32) (1 : Int32) M)
  else ((ck M 5 this).bind fun u1 =>
  (fX8_amount this p0 p1 p2 M).bind fun r2 =>
  some (r2.1, r2.2))
set_option maxHeartbeats 4000000 in
set_option maxRecDepth 100000 in
theorem okX8_held {l : Launch} {p : Int32 × Mem} {this : Nat} {p0 : Int32} {p1 : Int32} {p2 : Int32} {M : Mem} (h : fX8_held this p0 p1 p2 M = some p) : Cn l yX8_held mX8_held [.ref this, .int p0, .int p1, .int p2] M (some (.int p.1)) p.2 := by
  refine Cn.of [(0, .ref this), (1, .int p0), (2, .int p1), (3, .int p2)] (by decide) rfl rfl (Nat.le_of_ble_eq_true rfl) rfl (fun κ _ hf O => ?_)
  unfold fX8_held at h
  refine g_iload_n (pc' := 1) 2 O dX8_held_0 rfl rfl rfl ?_
  refine g_iconst (v := 2) (pc' := 2) O dX8_held_1 (by decide) rfl ?_
  refine g_icmp_ge (tgt := 13) (pc' := 5) O dX8_held_2 (by decide) rfl (fun hc => ?_) (fun hc => ?_)
  · replace h := ip hc h
    refine g_iconst (v := 0) (pc' := 14) O dX8_held_13 (by decide) rfl ?_
    refine g_istore (lv' := [(4, .int (0 : Int32)), (0, .ref this), (1, .int p0), (2, .int p1), (3, .int p2)]) (pc' := 16) O dX8_held_14 (by decide) rfl rfl ?_
    refine g_iconst (v := 1) (pc' := 17) O dX8_held_16 (by decide) rfl ?_
    refine g_istore (lv' := [(5, .int (1 : Int32)), (4, .int (0 : Int32)), (0, .ref this), (1, .int p0), (2, .int p1), (3, .int p2)]) (pc' := 19) O dX8_held_17 (by decide) rfl rfl ?_
    refine g_sub (lv' := [(0, .ref this), (1, .int p0), (3, .int p2), (4, .int (0 : Int32)), (5, .int (1 : Int32))]) [2, 3, 5, 1, 0] rfl ?_
    exact tX8_held_19 O hf FU this p0 p2 (0 : Int32) (1 : Int32) M h
  · replace h := ine hc h
    refine g_aload_n (pc' := 6) 0 O dX8_held_5 rfl rfl rfl ?_
    refine g_iload_n (pc' := 7) 1 O dX8_held_6 rfl rfl rfl ?_
    refine g_iload_n (pc' := 8) 2 O dX8_held_7 rfl rfl rfl ?_
    refine g_iload_n (pc' := 9) 3 O dX8_held_8 rfl rfl rfl ?_
    replace h := ob h; obtain ⟨u1, eu1, h⟩ := h
    replace h := ob h; obtain ⟨r2, er2, h⟩ := h
    refine g_callV (y := yX8_amount) (ν := mX8_amount) (n := 3) (As := [.int p0, .int p1, .int p2]) (b := this) (st := []) (M2 := r2.2) (r1 := (some (.int r2.1))) (pc' := 12) O dX8_held_9 tw_851 tw_58 tw_850 tw_23 tw_848 hyX8_amount rfl rfl eu1 (okX8_amount er2) (Nat.le_of_ble_eq_true rfl) ⟨Nat.le_of_ble_eq_true rfl, Nat.le_of_ble_eq_true rfl⟩ ⟨Nat.le_of_ble_eq_true rfl, Nat.le_of_ble_eq_true rfl⟩ rfl ?_
    show G κ mX8_held 0 0 12 [(0, .ref this), (1, .int p0), (2, .int p1), (3, .int p2)] [.int r2.1] r2.2
    cases h
    exact g_ireturn O dX8_held_12 rfl rfl hf (by decide) (by decide)
abbrev mX8_countsNow : MD := (cX8_countsNow, 3, RX8, (some .boolean), { frames := 5, cells := 0, slots := 0, locals := 132 }, "countsNow")
theorem hyX8_countsNow : yX8_countsNow.cls ≠ "java/lang/invoke/MethodHandle" ∧ yX8_countsNow.cls ≠ "java/lang/invoke/VarHandle" ∧ (parseMethodDescriptor yX8_countsNow.desc).map (fun d => d.parameters.length) = some 2 := by decide +kernel
def fX8_countsNow_47  (s0 : Int32) (M : Mem) : Option (Int32 × Mem) :=
  (nz s0).bind fun z1 =>
  some (z1, M)
set_option maxHeartbeats 4000000 in
set_option maxRecDepth 100000 in
theorem tX8_countsNow_47 {κ : KT} {p : Int32 × Mem} (O : OkK κ mX8_countsNow) (hf : κ.2.2.2.2.2.2.2.2.2.2.2.2.2 = (some (.int p.1), p.2))  {s0 : Int32} {M : Mem} (h : fX8_countsNow_47  s0 M = some p) : G κ mX8_countsNow 0 0 47 [] [.int s0] M := by
  unfold fX8_countsNow_47 at h
  replace h := ob h; obtain ⟨z1, ez1, h⟩ := h
  obtain ⟨hz1, ez1b⟩ := nz_spec ez1
  rw [ez1b] at h
  cases h
  exact g_ireturn O dX8_countsNow_47 rfl (nz_nar hz1) hf (by decide) (by decide)
def fX8_countsNow_46  (M : Mem) : Option (Int32 × Mem) :=
  fX8_countsNow_47 (0 : Int32) M
set_option maxHeartbeats 4000000 in
set_option maxRecDepth 100000 in
theorem tX8_countsNow_46 {κ : KT} {p : Int32 × Mem} (O : OkK κ mX8_countsNow) (hf : κ.2.2.2.2.2.2.2.2.2.2.2.2.2 = (some (.int p.1), p.2))  {M : Mem} (h : fX8_countsNow_46  M = some p) : G κ mX8_countsNow 0 0 46 [] [] M := by
  unfold fX8_countsNow_46 at h
  refine g_iconst (v := 0) (pc' := 47) O dX8_countsNow_46 (by decide) rfl ?_
  exact tX8_countsNow_47 O hf h
def fX8_countsNow  (this : Nat) (p0 : Int32) (p1 : Int32) (M : Mem) : Option (Int32 × Mem) :=
  (gI M 5 this 20).bind fun v1 =>
  (ck M 5 this).bind fun u2 =>
  (fX8_held this p0 p1 v1 M).bind fun r3 =>
  if r3.1 = (2 : Int32) then ((gL r3.2 5 this 24).bind fun v4 =>
  (gN r3.2 5 this 12).bind fun v5 =>
  (aL r3.2 v5 p1).bind fun v6 =>
  if (lg_cmp v4 v6) < 0 then (fX8_countsNow_46 r3.2)
  else ((gL r3.2 5 this 24).bind fun v7 =>
  (gN r3.2 5 this 13).bind fun v8 =>
  (aL r3.2 v8 p1).bind fun v9 =>
  if 0 < (lg_cmp v7 v9) then (fX8_countsNow_46 r3.2)
  else (fX8_countsNow_47 (1 : Int32) r3.2)))
  else (fX8_countsNow_46 r3.2)
set_option maxHeartbeats 4000000 in
set_option maxRecDepth 100000 in
theorem okX8_countsNow {l : Launch} {p : Int32 × Mem} {this : Nat} {p0 : Int32} {p1 : Int32} {M : Mem} (h : fX8_countsNow this p0 p1 M = some p) : Cn l yX8_countsNow mX8_countsNow [.ref this, .int p0, .int p1] M (some (.int p.1)) p.2 := by
  refine Cn.of [(0, .ref this), (1, .int p0), (2, .int p1)] (by decide) rfl rfl (Nat.le_of_ble_eq_true rfl) rfl (fun κ _ hf O => ?_)
  unfold fX8_countsNow at h
  refine g_aload_n (pc' := 1) 0 O dX8_countsNow_0 rfl rfl rfl ?_
  refine g_iload_n (pc' := 2) 1 O dX8_countsNow_1 rfl rfl rfl ?_
  refine g_iload_n (pc' := 3) 2 O dX8_countsNow_2 rfl rfl rfl ?_
  refine g_aload_n (pc' := 4) 0 O dX8_countsNow_3 rfl rfl rfl ?_
  replace h := ob h; obtain ⟨v1, ev1, h⟩ := h
  refine g_getF (C := RX8) (T := TX8) (N := 29) (ci := 5) (k := 20) (pc' := 7) O dX8_countsNow_4 rfl inX8 (by decide) tw_736 (gI_F ev1) rfl ?_
  replace h := ob h; obtain ⟨u2, eu2, h⟩ := h
  replace h := ob h; obtain ⟨r3, er3, h⟩ := h
  refine g_callV (y := yX8_held) (ν := mX8_held) (n := 3) (As := [.int p0, .int p1, .int v1]) (b := this) (st := []) (M2 := r3.2) (r1 := (some (.int r3.1))) (pc' := 10) O dX8_countsNow_7 tw_847 tw_58 tw_846 tw_22 tw_844 hyX8_held rfl rfl eu2 (okX8_held er3) (Nat.le_of_ble_eq_true rfl) ⟨Nat.le_of_ble_eq_true rfl, Nat.le_of_ble_eq_true rfl⟩ ⟨Nat.le_of_ble_eq_true rfl, Nat.le_of_ble_eq_true rfl⟩ rfl ?_
  show G κ mX8_countsNow 0 0 10 [(0, .ref this), (1, .int p0), (2, .int p1)] [.int r3.1] r3.2
  refine g_iconst (v := 2) (pc' := 11) O dX8_countsNow_10 (by decide) rfl ?_
  refine g_icmp_ne (tgt := 46) (pc' := 14) O dX8_countsNow_11 (by decide) rfl (fun hc => ?_) (fun hc => ?_)
  · replace h := ine hc h
    refine g_sub (lv' := []) [] rfl ?_
    exact tX8_countsNow_46 O hf h
  · replace h := ip hc h
    refine g_aload_n (pc' := 15) 0 O dX8_countsNow_14 rfl rfl rfl ?_
    replace h := ob h; obtain ⟨v4, ev4, h⟩ := h
    refine g_getF (C := RX8) (T := TX8) (N := 29) (ci := 5) (k := 24) (pc' := 18) O dX8_countsNow_15 rfl inX8 (by decide) tw_740 (gL_F ev4) rfl ?_
    refine g_aload_n (pc' := 19) 0 O dX8_countsNow_18 rfl rfl rfl ?_
    replace h := ob h; obtain ⟨v5, ev5, h⟩ := h
    refine g_getF (C := RX8) (T := TX8) (N := 29) (ci := 5) (k := 12) (pc' := 22) O dX8_countsNow_19 rfl inX8 (by decide) tw_728 (gN_F ev5) rfl ?_
    refine g_iload_n (pc' := 23) 2 O dX8_countsNow_22 rfl rfl rfl ?_
    replace h := ob h; obtain ⟨v6, ev6, h⟩ := h
    refine g_lald (pc' := 24) O dX8_countsNow_23 ev6 rfl ?_
    refine g_lcmp (pc' := 25) O dX8_countsNow_24 rfl ?_
    refine g_if_lt (tgt := 46) (pc' := 28) O dX8_countsNow_25 (by decide) rfl (fun hc => ?_) (fun hc => ?_)
    · replace h := ip hc h
      refine g_sub (lv' := []) [] rfl ?_
      exact tX8_countsNow_46 O hf h
    · replace h := ine hc h
      refine g_aload_n (pc' := 29) 0 O dX8_countsNow_28 rfl rfl rfl ?_
      replace h := ob h; obtain ⟨v7, ev7, h⟩ := h
      refine g_getF (C := RX8) (T := TX8) (N := 29) (ci := 5) (k := 24) (pc' := 32) O dX8_countsNow_29 rfl inX8 (by decide) tw_740 (gL_F ev7) rfl ?_
      refine g_aload_n (pc' := 33) 0 O dX8_countsNow_32 rfl rfl rfl ?_
      replace h := ob h; obtain ⟨v8, ev8, h⟩ := h
      refine g_getF (C := RX8) (T := TX8) (N := 29) (ci := 5) (k := 13) (pc' := 36) O dX8_countsNow_33 rfl inX8 (by decide) tw_729 (gN_F ev8) rfl ?_
      refine g_iload_n (pc' := 37) 2 O dX8_countsNow_36 rfl rfl rfl ?_
      replace h := ob h; obtain ⟨v9, ev9, h⟩ := h
      refine g_lald (pc' := 38) O dX8_countsNow_37 ev9 rfl ?_
      refine g_lcmp (pc' := 39) O dX8_countsNow_38 rfl ?_
      refine g_if_gt (tgt := 46) (pc' := 42) O dX8_countsNow_39 (by decide) rfl (fun hc => ?_) (fun hc => ?_)
      · replace h := ip hc h
        refine g_sub (lv' := []) [] rfl ?_
        exact tX8_countsNow_46 O hf h
      · replace h := ine hc h
        refine g_iconst (v := 1) (pc' := 43) O dX8_countsNow_42 (by decide) rfl ?_
        refine g_goto (pc' := 47) O dX8_countsNow_43 (by decide) ?_
        refine g_sub (lv' := []) [] rfl ?_
        exact tX8_countsNow_47 O hf h
abbrev mX8_value : MD := (cX8_value, 3, RX8, (some .long), { frames := 6, cells := 0, slots := 0, locals := 154 }, "value")
theorem hyX8_value : yX8_value.cls ≠ "java/lang/invoke/MethodHandle" ∧ yX8_value.cls ≠ "java/lang/invoke/VarHandle" ∧ (parseMethodDescriptor yX8_value.desc).map (fun d => d.parameters.length) = some 2 := by decide +kernel
def fX8_value_49  (s0 : Int64) (M : Mem) : Option (Int64 × Mem) :=
  some (s0, M)
set_option maxHeartbeats 4000000 in
set_option maxRecDepth 100000 in
theorem tX8_value_49 {κ : KT} {p : Int64 × Mem} (O : OkK κ mX8_value) (hf : κ.2.2.2.2.2.2.2.2.2.2.2.2.2 = (some (.long p.1), p.2))  {s0 : Int64} {M : Mem} (h : fX8_value_49  s0 M = some p) : G κ mX8_value 0 0 49 [] [.long s0] M := by
  unfold fX8_value_49 at h
  cases h
  exact g_lreturn O dX8_value_49 rfl hf (by decide) (by decide)
def fX8_value_22  (M : Mem) : Option (Int64 × Mem) :=
  some ((-9223372036854775808 : Int64), M)
set_option maxHeartbeats 4000000 in
set_option maxRecDepth 100000 in
theorem tX8_value_22 {κ : KT} {p : Int64 × Mem} (O : OkK κ mX8_value) (hf : κ.2.2.2.2.2.2.2.2.2.2.2.2.2 = (some (.long p.1), p.2))  {M : Mem} (h : fX8_value_22  M = some p) : G κ mX8_value 0 0 22 [] [] M := by
  unfold fX8_value_22 at h
  refine g_ldc2 (v := -9223372036854775808) (pc' := 25) O dX8_value_22 tw_714 rfl ?_
  cases h
  exact g_lreturn O dX8_value_25 rfl hf (by decide) (by decide)
def fX8_value  (this : Nat) (p0 : Int32) (p1 : Int32) (M : Mem) : Option (Int64 × Mem) :=
  (pF M 5 this 0 (.int (0 : Int32))).bind fun M1 =>
  (ck M1 5 this).bind fun u2 =>
  (fX8_isLand this p0 M1).bind fun r3 =>
  if r3.1 = 0 then (fX8_value_22 r3.2)
  else ((fX8_in p1 (0 : Int32) (2 : Int32) r3.2).bind fun r4 =>
  if r4.1 = 0 then (fX8_value_22 r4.2)
  else ((ck r4.2 5 this).bind fun u5 =>
  (fX8_lineText this r4.2).bind fun r6 =>
  (ck r6 5 this).bind fun u7 =>
  (fX8_countsNow this p0 p1 r6).bind fun r8 =>
  if r8.1 = 0 then (fX8_value_49 (-9223372036854775808 : Int64) r8.2)
  else ((gL r8.2 5 this 24).bind fun v9 =>
  fX8_value_49 v9 r8.2)))
set_option maxHeartbeats 4000000 in
set_option maxRecDepth 100000 in
theorem okX8_value {l : Launch} {p : Int64 × Mem} {this : Nat} {p0 : Int32} {p1 : Int32} {M : Mem} (h : fX8_value this p0 p1 M = some p) : Cn l yX8_value mX8_value [.ref this, .int p0, .int p1] M (some (.long p.1)) p.2 := by
  refine Cn.of [(0, .ref this), (1, .int p0), (2, .int p1)] (by decide) rfl rfl (Nat.le_of_ble_eq_true rfl) rfl (fun κ _ hf O => ?_)
  unfold fX8_value at h
  refine g_aload_n (pc' := 1) 0 O dX8_value_0 rfl rfl rfl ?_
  refine g_iconst (v := 0) (pc' := 2) O dX8_value_1 (by decide) rfl ?_
  replace h := ob h; obtain ⟨M1, eM1, h⟩ := h
  refine g_putF (C := RX8) (T := TX8) (N := 29) (ci := 5) (k := 0) (pc' := 5) O dX8_value_2 rfl inX8 (by decide) tw_716 tyX8 tyX8_ok nmX8 rfl rfl rfl rfl eM1 rfl ?_
  refine g_aload_n (pc' := 6) 0 O dX8_value_5 rfl rfl rfl ?_
  refine g_iload_n (pc' := 7) 1 O dX8_value_6 rfl rfl rfl ?_
  replace h := ob h; obtain ⟨u2, eu2, h⟩ := h
  replace h := ob h; obtain ⟨r3, er3, h⟩ := h
  refine g_callV (y := yX8_isLand) (ν := mX8_isLand) (n := 1) (As := [.int p0]) (b := this) (st := []) (M2 := r3.2) (r1 := (some (.int r3.1))) (pc' := 10) O dX8_value_7 tw_835 tw_58 tw_834 tw_19 tw_832 hyX8_isLand rfl rfl eu2 (okX8_isLand er3) (Nat.le_of_ble_eq_true rfl) ⟨Nat.le_of_ble_eq_true rfl, Nat.le_of_ble_eq_true rfl⟩ ⟨Nat.le_of_ble_eq_true rfl, Nat.le_of_ble_eq_true rfl⟩ rfl ?_
  show G κ mX8_value 0 0 10 [(0, .ref this), (1, .int p0), (2, .int p1)] [.int r3.1] r3.2
  refine g_if_eq (tgt := 22) (pc' := 13) O dX8_value_10 (by decide) rfl (fun hc => ?_) (fun hc => ?_)
  · replace h := ip hc h
    refine g_sub (lv' := []) [] rfl ?_
    exact tX8_value_22 O hf h
  · replace h := ine hc h
    refine g_iload_n (pc' := 14) 2 O dX8_value_13 rfl rfl rfl ?_
    refine g_iconst (v := 0) (pc' := 15) O dX8_value_14 (by decide) rfl ?_
    refine g_iconst (v := 2) (pc' := 16) O dX8_value_15 (by decide) rfl ?_
    replace h := ob h; obtain ⟨r4, er4, h⟩ := h
    refine g_callS (y := yX8_in) (ν := mX8_in) (n := 3) (As := [.int p1, .int (0 : Int32), .int (2 : Int32)]) (b := 0) (st := []) (M2 := r4.2) (r1 := (some (.int r4.1))) (pc' := 19) O dX8_value_16 tw_811 tw_58 tw_810 tw_809 hyX8_in rfl (okX8_in er4) (Nat.le_of_ble_eq_true rfl) ⟨Nat.le_of_ble_eq_true rfl, Nat.le_of_ble_eq_true rfl⟩ ⟨Nat.le_of_ble_eq_true rfl, Nat.le_of_ble_eq_true rfl⟩ rfl ?_
    show G κ mX8_value 0 0 19 [(0, .ref this), (1, .int p0), (2, .int p1)] [.int r4.1] r4.2
    refine g_if_ne (tgt := 26) (pc' := 22) O dX8_value_19 (by decide) rfl (fun hc => ?_) (fun hc => ?_)
    · replace h := ine hc h
      refine g_aload_n (pc' := 27) 0 O dX8_value_26 rfl rfl rfl ?_
      replace h := ob h; obtain ⟨u5, eu5, h⟩ := h
      replace h := ob h; obtain ⟨r6, er6, h⟩ := h
      refine g_callV (y := yX8_lineText) (ν := mX8_lineText) (n := 0) (As := []) (b := this) (st := []) (M2 := r6) (r1 := none) (pc' := 30) O dX8_value_27 tw_839 tw_58 tw_838 tw_20 tw_836 hyX8_lineText rfl rfl eu5 (okX8_lineText er6) (Nat.le_of_ble_eq_true rfl) ⟨Nat.le_of_ble_eq_true rfl, Nat.le_of_ble_eq_true rfl⟩ ⟨Nat.le_of_ble_eq_true rfl, Nat.le_of_ble_eq_true rfl⟩ rfl ?_
      show G κ mX8_value 0 0 30 [(0, .ref this), (1, .int p0), (2, .int p1)] [] r6
      refine g_aload_n (pc' := 31) 0 O dX8_value_30 rfl rfl rfl ?_
      refine g_iload_n (pc' := 32) 1 O dX8_value_31 rfl rfl rfl ?_
      refine g_iload_n (pc' := 33) 2 O dX8_value_32 rfl rfl rfl ?_
      replace h := ob h; obtain ⟨u7, eu7, h⟩ := h
      replace h := ob h; obtain ⟨r8, er8, h⟩ := h
      refine g_callV (y := yX8_countsNow) (ν := mX8_countsNow) (n := 2) (As := [.int p0, .int p1]) (b := this) (st := []) (M2 := r8.2) (r1 := (some (.int r8.1))) (pc' := 36) O dX8_value_33 tw_843 tw_58 tw_842 tw_21 tw_840 hyX8_countsNow rfl rfl eu7 (okX8_countsNow er8) (Nat.le_of_ble_eq_true rfl) ⟨Nat.le_of_ble_eq_true rfl, Nat.le_of_ble_eq_true rfl⟩ ⟨Nat.le_of_ble_eq_true rfl, Nat.le_of_ble_eq_true rfl⟩ rfl ?_
      show G κ mX8_value 0 0 36 [(0, .ref this), (1, .int p0), (2, .int p1)] [.int r8.1] r8.2
      refine g_if_eq (tgt := 46) (pc' := 39) O dX8_value_36 (by decide) rfl (fun hc => ?_) (fun hc => ?_)
      · replace h := ip hc h
        refine g_ldc2 (v := -9223372036854775808) (pc' := 49) O dX8_value_46 tw_714 rfl ?_
        refine g_sub (lv' := []) [] rfl ?_
        exact tX8_value_49 O hf h
      · replace h := ine hc h
        refine g_aload_n (pc' := 40) 0 O dX8_value_39 rfl rfl rfl ?_
        replace h := ob h; obtain ⟨v9, ev9, h⟩ := h
        refine g_getF (C := RX8) (T := TX8) (N := 29) (ci := 5) (k := 24) (pc' := 43) O dX8_value_40 rfl inX8 (by decide) tw_740 (gL_F ev9) rfl ?_
        refine g_goto (pc' := 49) O dX8_value_43 (by decide) ?_
        refine g_sub (lv' := []) [] rfl ?_
        exact tX8_value_49 O hf h
    · replace h := ip hc h
      refine g_sub (lv' := []) [] rfl ?_
      exact tX8_value_22 O hf h
