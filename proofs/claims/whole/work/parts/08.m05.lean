abbrev mX5_meaning : MD := (cX5_meaning, 6, RX5, (some .int), { frames := 6, cells := 0, slots := 0, locals := 132 }, "meaning")
theorem hyX5_meaning : yX5_meaning.cls ≠ "java/lang/invoke/MethodHandle" ∧ yX5_meaning.cls ≠ "java/lang/invoke/VarHandle" ∧ (parseMethodDescriptor yX5_meaning.desc).map (fun d => d.parameters.length) = some 1 := by decide +kernel
def fX5_meaning_142 (k9 : Nat → Int32 → Int32 → Int32 → Int32 → Mem → Option (Int32 × Mem)) (x0 : Nat) (x1 : Int32) (x2 : Int32) (x3 : Int32) (x4 : Int32) (M : Mem) : Option (Int32 × Mem) :=
  k9 x0 x1 x2 x3 (x4 + (1 : Int32)) M
set_option maxHeartbeats 4000000 in
set_option maxRecDepth 100000 in
theorem tX5_meaning_142 {κ : KT} {p : Int32 × Mem} (O : OkK κ mX5_meaning) (hf : κ.2.2.2.2.2.2.2.2.2.2.2.2.2 = (some (.int p.1), p.2)) {k9 : Nat → Int32 → Int32 → Int32 → Int32 → Mem → Option (Int32 × Mem)} (hk9 : ∀ (x0 : Nat) (x1 : Int32) (x2 : Int32) (x3 : Int32) (x4 : Int32) (M : Mem), k9 x0 x1 x2 x3 x4 M = some p → G κ mX5_meaning 0 0 9 [(0, .ref x0), (1, .int x1), (2, .int x2), (3, .int x3), (4, .int x4)] [] M) {x0 : Nat} {x1 : Int32} {x2 : Int32} {x3 : Int32} {x4 : Int32} {M : Mem} (h : fX5_meaning_142 k9 x0 x1 x2 x3 x4 M = some p) : G κ mX5_meaning 0 0 142 [(0, .ref x0), (1, .int x1), (2, .int x2), (3, .int x3), (4, .int x4)] [] M := by
  unfold fX5_meaning_142 at h
  refine g_iinc (q := 4) (v := x4 + (1 : Int32)) (lv' := [(4, .int (x4 + (1 : Int32))), (0, .ref x0), (1, .int x1), (2, .int x2), (3, .int x3)]) (pc' := 145) O dX5_meaning_142 rfl rfl (by decide) rfl rfl ?_
  refine g_goto (pc' := 9) O dX5_meaning_145 (by decide) ?_
  refine g_sub (lv' := [(0, .ref x0), (1, .int x1), (2, .int x2), (3, .int x3), (4, .int (x4 + (1 : Int32)))]) [1, 2, 3, 4, 0] rfl ?_
  exact hk9 x0 x1 x2 x3 (x4 + (1 : Int32)) M h
def fX5_meaning_137 (k9 : Nat → Int32 → Int32 → Int32 → Int32 → Mem → Option (Int32 × Mem)) (x0 : Nat) (x1 : Int32) (x2 : Int32) (x4 : Int32) (M : Mem) : Option (Int32 × Mem) :=
  fX5_meaning_142 k9 x0 x1 x2 (x4 + (1 : Int32)) x4 M
set_option maxHeartbeats 4000000 in
set_option maxRecDepth 100000 in
theorem tX5_meaning_137 {κ : KT} {p : Int32 × Mem} (O : OkK κ mX5_meaning) (hf : κ.2.2.2.2.2.2.2.2.2.2.2.2.2 = (some (.int p.1), p.2)) {k9 : Nat → Int32 → Int32 → Int32 → Int32 → Mem → Option (Int32 × Mem)} (hk9 : ∀ (x0 : Nat) (x1 : Int32) (x2 : Int32) (x3 : Int32) (x4 : Int32) (M : Mem), k9 x0 x1 x2 x3 x4 M = some p → G κ mX5_meaning 0 0 9 [(0, .ref x0), (1, .int x1), (2, .int x2), (3, .int x3), (4, .int x4)] [] M) {x0 : Nat} {x1 : Int32} {x2 : Int32} {x4 : Int32} {M : Mem} (h : fX5_meaning_137 k9 x0 x1 x2 x4 M = some p) : G κ mX5_meaning 0 0 137 [(0, .ref x0), (1, .int x1), (2, .int x2), (4, .int x4)] [] M := by
  unfold fX5_meaning_137 at h
  refine g_iload (pc' := 139) 3 O dX5_meaning_137 rfl rfl ?_
  refine g_iconst (v := 1) (pc' := 140) O dX5_meaning_139 (by decide) rfl ?_
  refine g_iadd (pc' := 141) O dX5_meaning_140 rfl ?_
  refine g_istore_n (lv' := [(3, .int (x4 + (1 : Int32))), (0, .ref x0), (1, .int x1), (2, .int x2), (4, .int x4)]) (pc' := 142) O dX5_meaning_141 rfl (by decide) rfl rfl ?_
  refine g_sub (lv' := [(0, .ref x0), (1, .int x1), (2, .int x2), (3, .int (x4 + (1 : Int32))), (4, .int x4)]) [1, 2, 3, 0, 4] rfl ?_
  exact tX5_meaning_142 O hf hk9 h
def fX5_meaning_135 (k9 : Nat → Int32 → Int32 → Int32 → Int32 → Mem → Option (Int32 × Mem)) (x0 : Nat) (x1 : Int32) (x4 : Int32) (s0 : Int32) (s1 : Int32) (M : Mem) : Option (Int32 × Mem) :=
  fX5_meaning_137 k9 x0 x1 (s1 + s0) x4 M
set_option maxHeartbeats 4000000 in
set_option maxRecDepth 100000 in
theorem tX5_meaning_135 {κ : KT} {p : Int32 × Mem} (O : OkK κ mX5_meaning) (hf : κ.2.2.2.2.2.2.2.2.2.2.2.2.2 = (some (.int p.1), p.2)) {k9 : Nat → Int32 → Int32 → Int32 → Int32 → Mem → Option (Int32 × Mem)} (hk9 : ∀ (x0 : Nat) (x1 : Int32) (x2 : Int32) (x3 : Int32) (x4 : Int32) (M : Mem), k9 x0 x1 x2 x3 x4 M = some p → G κ mX5_meaning 0 0 9 [(0, .ref x0), (1, .int x1), (2, .int x2), (3, .int x3), (4, .int x4)] [] M) {x0 : Nat} {x1 : Int32} {x4 : Int32} {s0 : Int32} {s1 : Int32} {M : Mem} (h : fX5_meaning_135 k9 x0 x1 x4 s0 s1 M = some p) : G κ mX5_meaning 0 0 135 [(0, .ref x0), (1, .int x1), (4, .int x4)] [.int s0, .int s1] M := by
  unfold fX5_meaning_135 at h
  refine g_iadd (pc' := 136) O dX5_meaning_135 rfl ?_
  refine g_istore_n (lv' := [(2, .int (s1 + s0)), (0, .ref x0), (1, .int x1), (4, .int x4)]) (pc' := 137) O dX5_meaning_136 rfl (by decide) rfl rfl ?_
  refine g_sub (lv' := [(0, .ref x0), (1, .int x1), (2, .int (s1 + s0)), (4, .int x4)]) [1, 2, 0, 3] rfl ?_
  exact tX5_meaning_137 O hf hk9 h
def fX5_meaning_89 (k9 : Nat → Int32 → Int32 → Int32 → Int32 → Mem → Option (Int32 × Mem)) (x0 : Nat) (x4 : Int32) (s0 : Int32) (s1 : Int32) (s2 : Int32) (M : Mem) : Option (Int32 × Mem) :=
  fX5_meaning_137 k9 x0 (s2 + (s1 * s0)) (0 : Int32) x4 M
set_option maxHeartbeats 4000000 in
set_option maxRecDepth 100000 in
theorem tX5_meaning_89 {κ : KT} {p : Int32 × Mem} (O : OkK κ mX5_meaning) (hf : κ.2.2.2.2.2.2.2.2.2.2.2.2.2 = (some (.int p.1), p.2)) {k9 : Nat → Int32 → Int32 → Int32 → Int32 → Mem → Option (Int32 × Mem)} (hk9 : ∀ (x0 : Nat) (x1 : Int32) (x2 : Int32) (x3 : Int32) (x4 : Int32) (M : Mem), k9 x0 x1 x2 x3 x4 M = some p → G κ mX5_meaning 0 0 9 [(0, .ref x0), (1, .int x1), (2, .int x2), (3, .int x3), (4, .int x4)] [] M) {x0 : Nat} {x4 : Int32} {s0 : Int32} {s1 : Int32} {s2 : Int32} {M : Mem} (h : fX5_meaning_89 k9 x0 x4 s0 s1 s2 M = some p) : G κ mX5_meaning 0 0 89 [(0, .ref x0), (4, .int x4)] [.int s0, .int s1, .int s2] M := by
  unfold fX5_meaning_89 at h
  refine g_imul (pc' := 90) O dX5_meaning_89 rfl ?_
  refine g_iadd (pc' := 91) O dX5_meaning_90 rfl ?_
  refine g_istore_n (lv' := [(1, .int (s2 + (s1 * s0))), (0, .ref x0), (4, .int x4)]) (pc' := 92) O dX5_meaning_91 rfl (by decide) rfl rfl ?_
  refine g_iconst (v := 0) (pc' := 93) O dX5_meaning_92 (by decide) rfl ?_
  refine g_istore_n (lv' := [(2, .int (0 : Int32)), (1, .int (s2 + (s1 * s0))), (0, .ref x0), (4, .int x4)]) (pc' := 94) O dX5_meaning_93 rfl (by decide) rfl rfl ?_
  refine g_goto (pc' := 137) O dX5_meaning_94 (by decide) ?_
  refine g_sub (lv' := [(0, .ref x0), (1, .int (s2 + (s1 * s0))), (2, .int (0 : Int32)), (4, .int x4)]) [2, 1, 0, 3] rfl ?_
  exact tX5_meaning_137 O hf hk9 h
def fX5_meaning_72 (k9 : Nat → Int32 → Int32 → Int32 → Int32 → Mem → Option (Int32 × Mem)) (x0 : Nat) (x1 : Int32) (x2 : Int32) (x4 : Int32) (x5 : Int32) (M : Mem) : Option (Int32 × Mem) :=
  if x5 = (30 : Int32) then (fX5_meaning_89 k9 x0 x4 (1000000 : Int32) x2 x1 M)
  else (fX5_meaning_89 k9 x0 x4 (1000 : Int32) x2 x1 M)
set_option maxHeartbeats 4000000 in
set_option maxRecDepth 100000 in
theorem tX5_meaning_72 {κ : KT} {p : Int32 × Mem} (O : OkK κ mX5_meaning) (hf : κ.2.2.2.2.2.2.2.2.2.2.2.2.2 = (some (.int p.1), p.2)) {k9 : Nat → Int32 → Int32 → Int32 → Int32 → Mem → Option (Int32 × Mem)} (hk9 : ∀ (x0 : Nat) (x1 : Int32) (x2 : Int32) (x3 : Int32) (x4 : Int32) (M : Mem), k9 x0 x1 x2 x3 x4 M = some p → G κ mX5_meaning 0 0 9 [(0, .ref x0), (1, .int x1), (2, .int x2), (3, .int x3), (4, .int x4)] [] M) {x0 : Nat} {x1 : Int32} {x2 : Int32} {x4 : Int32} {x5 : Int32} {M : Mem} (h : fX5_meaning_72 k9 x0 x1 x2 x4 x5 M = some p) : G κ mX5_meaning 0 0 72 [(0, .ref x0), (1, .int x1), (2, .int x2), (4, .int x4), (5, .int x5)] [] M := by
  unfold fX5_meaning_72 at h
  refine g_iload_n (pc' := 73) 1 O dX5_meaning_72 rfl rfl rfl ?_
  refine g_iload_n (pc' := 74) 2 O dX5_meaning_73 rfl rfl rfl ?_
  refine g_iload (pc' := 76) 4 O dX5_meaning_74 rfl rfl ?_
  refine g_bipush (v := 30) (pc' := 78) O dX5_meaning_76 (by decide) rfl ?_
  refine g_icmp_ne (tgt := 86) (pc' := 81) O dX5_meaning_78 (by decide) rfl (fun hc => ?_) (fun hc => ?_)
  · replace h := ine hc h
    refine g_sipush (v := 1000) (pc' := 89) O dX5_meaning_86 (by decide) rfl ?_
    refine g_sub (lv' := [(0, .ref x0), (4, .int x4)]) [0, 3] rfl ?_
    exact tX5_meaning_89 O hf hk9 h
  · replace h := ip hc h
    refine g_ldc (v := 1000000) (pc' := 83) O dX5_meaning_81 tw_603 rfl ?_
    refine g_goto (pc' := 89) O dX5_meaning_83 (by decide) ?_
    refine g_sub (lv' := [(0, .ref x0), (4, .int x4)]) [0, 3] rfl ?_
    exact tX5_meaning_89 O hf hk9 h
def fX5_meaning_41 (k9 : Nat → Int32 → Int32 → Int32 → Int32 → Mem → Option (Int32 × Mem)) (x0 : Nat) (x1 : Int32) (x2 : Int32) (x3 : Int32) (x4 : Int32) (M : Mem) : Option (Int32 × Mem) :=
  (fX5_nameIn x0 x3 x4 M).bind fun r1 =>
  if r1.1 = (-1 : Int32) then (some ((-1 : Int32), r1.2))
  else (if r1.1 = (29 : Int32) then (fX5_meaning_72 k9 x0 x1 x2 x4 r1.1 r1.2)
  else (if r1.1 = (30 : Int32) then (fX5_meaning_72 k9 x0 x1 x2 x4 r1.1 r1.2)
  else (if r1.1 = (28 : Int32) then (fX5_meaning_137 k9 x0 x1 (x2 * (100 : Int32)) x4 r1.2)
  else (if (20 : Int32) ≤ r1.1 then (fX5_meaning_135 k9 x0 x1 x4 (((r1.1 - (20 : Int32)) + (2 : Int32)) * (10 : Int32)) x2 r1.2)
  else (fX5_meaning_135 k9 x0 x1 x4 r1.1 x2 r1.2)))))
set_option maxHeartbeats 4000000 in
set_option maxRecDepth 100000 in
theorem tX5_meaning_41 {κ : KT} {p : Int32 × Mem} (O : OkK κ mX5_meaning) (hf : κ.2.2.2.2.2.2.2.2.2.2.2.2.2 = (some (.int p.1), p.2)) {k9 : Nat → Int32 → Int32 → Int32 → Int32 → Mem → Option (Int32 × Mem)} (hk9 : ∀ (x0 : Nat) (x1 : Int32) (x2 : Int32) (x3 : Int32) (x4 : Int32) (M : Mem), k9 x0 x1 x2 x3 x4 M = some p → G κ mX5_meaning 0 0 9 [(0, .ref x0), (1, .int x1), (2, .int x2), (3, .int x3), (4, .int x4)] [] M) {x0 : Nat} {x1 : Int32} {x2 : Int32} {x3 : Int32} {x4 : Int32} {M : Mem} (h : fX5_meaning_41 k9 x0 x1 x2 x3 x4 M = some p) : G κ mX5_meaning 0 0 41 [(0, .ref x0), (1, .int x1), (2, .int x2), (3, .int x3), (4, .int x4)] [] M := by
  unfold fX5_meaning_41 at h
  refine g_aload_n (pc' := 42) 0 O dX5_meaning_41 rfl rfl rfl ?_
  refine g_iload_n (pc' := 43) 3 O dX5_meaning_42 rfl rfl rfl ?_
  refine g_iload (pc' := 45) 4 O dX5_meaning_43 rfl rfl ?_
  replace h := ob h; obtain ⟨r1, er1, h⟩ := h
  refine g_callS (y := yX5_nameIn) (ν := mX5_nameIn) (n := 3) (As := [.ref x0, .int x3, .int x4]) (b := 0) (st := []) (M2 := r1.2) (r1 := (some (.int r1.1))) (pc' := 48) O dX5_meaning_45 tw_638 tw_62 tw_637 tw_636 hyX5_nameIn rfl (okX5_nameIn er1) (Nat.le_of_ble_eq_true rfl) ⟨Nat.le_of_ble_eq_true rfl, Nat.le_of_ble_eq_true rfl⟩ ⟨Nat.le_of_ble_eq_true rfl, Nat.le_of_ble_eq_true rfl⟩ rfl ?_
  show G κ mX5_meaning 0 0 48 [(0, .ref x0), (1, .int x1), (2, .int x2), (3, .int x3), (4, .int x4)] [.int r1.1] r1.2
  refine g_istore (lv' := [(5, .int r1.1), (0, .ref x0), (1, .int x1), (2, .int x2), (3, .int x3), (4, .int x4)]) (pc' := 50) O dX5_meaning_48 (by decide) rfl rfl ?_
  refine g_iload (pc' := 52) 0 O dX5_meaning_50 rfl rfl ?_
  refine g_iconst (v := -1) (pc' := 53) O dX5_meaning_52 (by decide) rfl ?_
  refine g_icmp_ne (tgt := 58) (pc' := 56) O dX5_meaning_53 (by decide) rfl (fun hc => ?_) (fun hc => ?_)
  · replace h := ine hc h
    refine g_iload (pc' := 60) 0 O dX5_meaning_58 rfl rfl ?_
    refine g_bipush (v := 29) (pc' := 62) O dX5_meaning_60 (by decide) rfl ?_
    refine g_icmp_eq (tgt := 72) (pc' := 65) O dX5_meaning_62 (by decide) rfl (fun hc => ?_) (fun hc => ?_)
    · replace h := ip hc h
      refine g_sub (lv' := [(0, .ref x0), (1, .int x1), (2, .int x2), (4, .int x4), (5, .int r1.1)]) [1, 2, 3, 5, 0] rfl ?_
      exact tX5_meaning_72 O hf hk9 h
    · replace h := ine hc h
      refine g_iload (pc' := 67) 0 O dX5_meaning_65 rfl rfl ?_
      refine g_bipush (v := 30) (pc' := 69) O dX5_meaning_67 (by decide) rfl ?_
      refine g_icmp_ne (tgt := 97) (pc' := 72) O dX5_meaning_69 (by decide) rfl (fun hc => ?_) (fun hc => ?_)
      · replace h := ine hc h
        refine g_iload (pc' := 99) 0 O dX5_meaning_97 rfl rfl ?_
        refine g_bipush (v := 28) (pc' := 101) O dX5_meaning_99 (by decide) rfl ?_
        refine g_icmp_ne (tgt := 112) (pc' := 104) O dX5_meaning_101 (by decide) rfl (fun hc => ?_) (fun hc => ?_)
        · replace h := ine hc h
          refine g_iload_n (pc' := 113) 3 O dX5_meaning_112 rfl rfl rfl ?_
          refine g_iload (pc' := 115) 0 O dX5_meaning_113 rfl rfl ?_
          refine g_bipush (v := 20) (pc' := 117) O dX5_meaning_115 (by decide) rfl ?_
          refine g_icmp_ge (tgt := 125) (pc' := 120) O dX5_meaning_117 (by decide) rfl (fun hc => ?_) (fun hc => ?_)
          · replace h := ip hc h
            refine g_iload (pc' := 127) 0 O dX5_meaning_125 rfl rfl ?_
            refine g_bipush (v := 20) (pc' := 129) O dX5_meaning_127 (by decide) rfl ?_
            refine g_isub (pc' := 130) O dX5_meaning_129 rfl ?_
            refine g_iconst (v := 2) (pc' := 131) O dX5_meaning_130 (by decide) rfl ?_
            refine g_iadd (pc' := 132) O dX5_meaning_131 rfl ?_
            refine g_bipush (v := 10) (pc' := 134) O dX5_meaning_132 (by decide) rfl ?_
            refine g_imul (pc' := 135) O dX5_meaning_134 rfl ?_
            refine g_sub (lv' := [(0, .ref x0), (1, .int x1), (4, .int x4)]) [1, 2, 5] rfl ?_
            exact tX5_meaning_135 O hf hk9 h
          · replace h := ine hc h
            refine g_iload (pc' := 122) 0 O dX5_meaning_120 rfl rfl ?_
            refine g_goto (pc' := 135) O dX5_meaning_122 (by decide) ?_
            refine g_sub (lv' := [(0, .ref x0), (1, .int x1), (4, .int x4)]) [1, 2, 5] rfl ?_
            exact tX5_meaning_135 O hf hk9 h
        · replace h := ip hc h
          refine g_iload_n (pc' := 105) 3 O dX5_meaning_104 rfl rfl rfl ?_
          refine g_bipush (v := 100) (pc' := 107) O dX5_meaning_105 (by decide) rfl ?_
          refine g_imul (pc' := 108) O dX5_meaning_107 rfl ?_
          refine g_istore_n (lv' := [(2, .int (x2 * (100 : Int32))), (5, .int r1.1), (0, .ref x0), (1, .int x1), (3, .int x3), (4, .int x4)]) (pc' := 109) O dX5_meaning_108 rfl (by decide) rfl rfl ?_
          refine g_goto (pc' := 137) O dX5_meaning_109 (by decide) ?_
          refine g_sub (lv' := [(0, .ref x0), (1, .int x1), (2, .int (x2 * (100 : Int32))), (4, .int x4)]) [2, 3, 0, 5] rfl ?_
          exact tX5_meaning_137 O hf hk9 h
      · replace h := ip hc h
        refine g_sub (lv' := [(0, .ref x0), (1, .int x1), (2, .int x2), (4, .int x4), (5, .int r1.1)]) [1, 2, 3, 5, 0] rfl ?_
        exact tX5_meaning_72 O hf hk9 h
  · replace h := ip hc h
    refine g_iconst (v := -1) (pc' := 57) O dX5_meaning_56 (by decide) rfl ?_
    cases h
    exact g_ireturn O dX5_meaning_57 rfl rfl hf (by decide) (by decide)
def fX5_meaning_9  : Nat → Nat → Int32 → Int32 → Int32 → Int32 → Mem → Option (Int32 × Mem)
  | 0, _, _, _, _, _, _ => none
  | n + 1, x0, x1, x2, x3, x4, M =>
    (ck M 3 x0).bind fun u1 =>
    (fX4_length x0 M).bind fun r2 =>
    if r2.1 < x4 then (some ((x1 + x2), r2.2))
    else ((ck r2.2 3 x0).bind fun u3 =>
    (fX4_length x0 r2.2).bind fun r4 =>
    if r4.1 ≤ x4 then (fX5_meaning_41 (fX5_meaning_9 n) x0 x1 x2 x3 x4 r4.2)
    else ((ck r4.2 3 x0).bind fun u5 =>
    (fX4_byteAt x0 x4 r4.2).bind fun r6 =>
    if r6.1 = (32 : Int32) then (fX5_meaning_41 (fX5_meaning_9 n) x0 x1 x2 x3 x4 r6.2)
    else (fX5_meaning_142 (fX5_meaning_9 n) x0 x1 x2 x3 x4 r6.2)))
set_option maxHeartbeats 4000000 in
set_option maxRecDepth 100000 in
theorem tX5_meaning_9 {κ : KT} {p : Int32 × Mem} (O : OkK κ mX5_meaning) (hf : κ.2.2.2.2.2.2.2.2.2.2.2.2.2 = (some (.int p.1), p.2))  : ∀ (n : Nat) (x0 : Nat) (x1 : Int32) (x2 : Int32) (x3 : Int32) (x4 : Int32) (M : Mem), fX5_meaning_9  n x0 x1 x2 x3 x4 M = some p → G κ mX5_meaning 0 0 9 [(0, .ref x0), (1, .int x1), (2, .int x2), (3, .int x3), (4, .int x4)] [] M := by
  intro n
  induction n with
  | zero => intro x0 x1 x2 x3 x4 M h; cases h
  | succ n ih =>
    intro x0 x1 x2 x3 x4 M h
    rw [fX5_meaning_9] at h
    refine g_iload (pc' := 11) 4 O dX5_meaning_9 rfl rfl ?_
    refine g_aload_n (pc' := 12) 0 O dX5_meaning_11 rfl rfl rfl ?_
    replace h := ob h; obtain ⟨u1, eu1, h⟩ := h
    replace h := ob h; obtain ⟨r2, er2, h⟩ := h
    refine g_callV (y := yX4_length) (ν := mX4_length) (n := 0) (As := []) (b := x0) (st := [.int x4]) (M2 := r2.2) (r1 := (some (.int r2.1))) (pc' := 15) O dX5_meaning_12 tw_260 tw_55 tw_258 tw_259 tw_518 hyX4_length rfl rfl eu1 (okX4_length er2) (Nat.le_of_ble_eq_true rfl) ⟨Nat.le_of_ble_eq_true rfl, Nat.le_of_ble_eq_true rfl⟩ ⟨Nat.le_of_ble_eq_true rfl, Nat.le_of_ble_eq_true rfl⟩ rfl ?_
    show G κ mX5_meaning 0 0 15 [(0, .ref x0), (1, .int x1), (2, .int x2), (3, .int x3), (4, .int x4)] [.int r2.1, .int x4] r2.2
    refine g_icmp_gt (tgt := 148) (pc' := 18) O dX5_meaning_15 (by decide) rfl (fun hc => ?_) (fun hc => ?_)
    · replace h := ip hc h
      refine g_iload_n (pc' := 149) 1 O dX5_meaning_148 rfl rfl rfl ?_
      refine g_iload_n (pc' := 150) 2 O dX5_meaning_149 rfl rfl rfl ?_
      refine g_iadd (pc' := 151) O dX5_meaning_150 rfl ?_
      cases h
      exact g_ireturn O dX5_meaning_151 rfl rfl hf (by decide) (by decide)
    · replace h := ine hc h
      refine g_iload (pc' := 20) 4 O dX5_meaning_18 rfl rfl ?_
      refine g_aload_n (pc' := 21) 0 O dX5_meaning_20 rfl rfl rfl ?_
      replace h := ob h; obtain ⟨u3, eu3, h⟩ := h
      replace h := ob h; obtain ⟨r4, er4, h⟩ := h
      refine g_callV (y := yX4_length) (ν := mX4_length) (n := 0) (As := []) (b := x0) (st := [.int x4]) (M2 := r4.2) (r1 := (some (.int r4.1))) (pc' := 24) O dX5_meaning_21 tw_260 tw_55 tw_258 tw_259 tw_518 hyX4_length rfl rfl eu3 (okX4_length er4) (Nat.le_of_ble_eq_true rfl) ⟨Nat.le_of_ble_eq_true rfl, Nat.le_of_ble_eq_true rfl⟩ ⟨Nat.le_of_ble_eq_true rfl, Nat.le_of_ble_eq_true rfl⟩ rfl ?_
      show G κ mX5_meaning 0 0 24 [(0, .ref x0), (1, .int x1), (2, .int x2), (3, .int x3), (4, .int x4)] [.int r4.1, .int x4] r4.2
      refine g_icmp_ge (tgt := 41) (pc' := 27) O dX5_meaning_24 (by decide) rfl (fun hc => ?_) (fun hc => ?_)
      · replace h := ip hc h
        exact tX5_meaning_41 O hf ih h
      · replace h := ine hc h
        refine g_aload_n (pc' := 28) 0 O dX5_meaning_27 rfl rfl rfl ?_
        refine g_iload (pc' := 30) 4 O dX5_meaning_28 rfl rfl ?_
        replace h := ob h; obtain ⟨u5, eu5, h⟩ := h
        replace h := ob h; obtain ⟨r6, er6, h⟩ := h
        refine g_callV (y := yX4_byteAt) (ν := mX4_byteAt) (n := 1) (As := [.int x4]) (b := x0) (st := []) (M2 := r6.2) (r1 := (some (.int r6.1))) (pc' := 33) O dX5_meaning_30 tw_615 tw_55 tw_613 tw_614 tw_635 hyX4_byteAt rfl rfl eu5 (okX4_byteAt er6) (Nat.le_of_ble_eq_true rfl) ⟨Nat.le_of_ble_eq_true rfl, Nat.le_of_ble_eq_true rfl⟩ ⟨Nat.le_of_ble_eq_true rfl, Nat.le_of_ble_eq_true rfl⟩ rfl ?_
        show G κ mX5_meaning 0 0 33 [(0, .ref x0), (1, .int x1), (2, .int x2), (3, .int x3), (4, .int x4)] [.int r6.1] r6.2
        refine g_bipush (v := 32) (pc' := 35) O dX5_meaning_33 (by decide) rfl ?_
        refine g_icmp_eq (tgt := 41) (pc' := 38) O dX5_meaning_35 (by decide) rfl (fun hc => ?_) (fun hc => ?_)
        · replace h := ip hc h
          exact tX5_meaning_41 O hf ih h
        · replace h := ine hc h
          refine g_goto (pc' := 142) O dX5_meaning_38 (by decide) ?_
          exact tX5_meaning_142 O hf ih h
def fX5_meaning  (p0 : Nat) (M : Mem) : Option (Int32 × Mem) :=
  fX5_meaning_9 FU p0 (0 : Int32) (0 : Int32) (0 : Int32) (0 : Int32) M
set_option maxHeartbeats 4000000 in
set_option maxRecDepth 100000 in
theorem okX5_meaning {l : Launch} {p : Int32 × Mem} {p0 : Nat} {M : Mem} (h : fX5_meaning p0 M = some p) : Cn l yX5_meaning mX5_meaning [.ref p0] M (some (.int p.1)) p.2 := by
  refine Cn.of [(0, .ref p0)] (by decide) rfl rfl (Nat.le_of_ble_eq_true rfl) rfl (fun κ _ hf O => ?_)
  unfold fX5_meaning at h
  refine g_iconst (v := 0) (pc' := 1) O dX5_meaning_0 (by decide) rfl ?_
  refine g_istore_n (lv' := [(1, .int (0 : Int32)), (0, .ref p0)]) (pc' := 2) O dX5_meaning_1 rfl (by decide) rfl rfl ?_
  refine g_iconst (v := 0) (pc' := 3) O dX5_meaning_2 (by decide) rfl ?_
  refine g_istore_n (lv' := [(2, .int (0 : Int32)), (1, .int (0 : Int32)), (0, .ref p0)]) (pc' := 4) O dX5_meaning_3 rfl (by decide) rfl rfl ?_
  refine g_iconst (v := 0) (pc' := 5) O dX5_meaning_4 (by decide) rfl ?_
  refine g_istore_n (lv' := [(3, .int (0 : Int32)), (2, .int (0 : Int32)), (1, .int (0 : Int32)), (0, .ref p0)]) (pc' := 6) O dX5_meaning_5 rfl (by decide) rfl rfl ?_
  refine g_iconst (v := 0) (pc' := 7) O dX5_meaning_6 (by decide) rfl ?_
  refine g_istore (lv' := [(4, .int (0 : Int32)), (3, .int (0 : Int32)), (2, .int (0 : Int32)), (1, .int (0 : Int32)), (0, .ref p0)]) (pc' := 9) O dX5_meaning_7 (by decide) rfl rfl ?_
  refine g_sub (lv' := [(0, .ref p0), (1, .int (0 : Int32)), (2, .int (0 : Int32)), (3, .int (0 : Int32)), (4, .int (0 : Int32))]) [4, 3, 2, 1, 0] rfl ?_
  exact tX5_meaning_9 O hf FU p0 (0 : Int32) (0 : Int32) (0 : Int32) (0 : Int32) M h
abbrev mJ9_abs_067f4 : MD := (cJ9_abs_067f4, 2, RJ9, (some .long), { frames := 0, cells := 0, slots := 0, locals := 0 }, "abs")
theorem hyJ9_abs_067f4 : yJ9_abs_067f4.cls ≠ "java/lang/invoke/MethodHandle" ∧ yJ9_abs_067f4.cls ≠ "java/lang/invoke/VarHandle" ∧ (parseMethodDescriptor yJ9_abs_067f4.desc).map (fun d => d.parameters.length) = some 1 := by decide +kernel
def fJ9_abs_067f4_12  (s0 : Int64) (M : Mem) : Option (Int64 × Mem) :=
  some (s0, M)
set_option maxHeartbeats 4000000 in
set_option maxRecDepth 100000 in
theorem tJ9_abs_067f4_12 {κ : KT} {p : Int64 × Mem} (O : OkK κ mJ9_abs_067f4) (hf : κ.2.2.2.2.2.2.2.2.2.2.2.2.2 = (some (.long p.1), p.2))  {s0 : Int64} {M : Mem} (h : fJ9_abs_067f4_12  s0 M = some p) : G κ mJ9_abs_067f4 0 0 12 [] [.long s0] M := by
  unfold fJ9_abs_067f4_12 at h
  cases h
  exact g_lreturn O dJ9_abs_067f4_12 rfl hf (by decide) (by decide)
def fJ9_abs_067f4  (p0 : Int64) (M : Mem) : Option (Int64 × Mem) :=
  if 0 ≤ (lg_cmp p0 (0 : Int64)) then (fJ9_abs_067f4_12 p0 M)
  else (fJ9_abs_067f4_12 (-p0) M)
set_option maxHeartbeats 4000000 in
set_option maxRecDepth 100000 in
theorem okJ9_abs_067f4 {l : Launch} {p : Int64 × Mem} {p0 : Int64} {M : Mem} (h : fJ9_abs_067f4 p0 M = some p) : Cn l yJ9_abs_067f4 mJ9_abs_067f4 [.long p0] M (some (.long p.1)) p.2 := by
  refine Cn.ofF [(0, .long p0)] (by decide +kernel) rfl rfl (Nat.le_of_ble_eq_true rfl) rfl (fun κ _ hf O => ?_)
  unfold fJ9_abs_067f4 at h
  refine g_lload_n (pc' := 1) 0 O dJ9_abs_067f4_0 rfl rfl rfl ?_
  refine g_lconst (v := 0) (pc' := 2) O dJ9_abs_067f4_1 (by decide) rfl ?_
  refine g_lcmp (pc' := 3) O dJ9_abs_067f4_2 rfl ?_
  refine g_if_ge (tgt := 11) (pc' := 6) O dJ9_abs_067f4_3 (by decide) rfl (fun hc => ?_) (fun hc => ?_)
  · replace h := ip hc h
    refine g_lload_n (pc' := 12) 0 O dJ9_abs_067f4_11 rfl rfl rfl ?_
    refine g_sub (lv' := []) [] rfl ?_
    exact tJ9_abs_067f4_12 O hf h
  · replace h := ine hc h
    refine g_lload_n (pc' := 7) 0 O dJ9_abs_067f4_6 rfl rfl rfl ?_
    refine g_lneg (pc' := 8) O dJ9_abs_067f4_7 rfl ?_
    refine g_goto (pc' := 12) O dJ9_abs_067f4_8 (by decide) ?_
    refine g_sub (lv' := []) [] rfl ?_
    exact tJ9_abs_067f4_12 O hf h
abbrev mX6_rounded : MD := (cX6_rounded, 8, RX6, (some .long), { frames := 1, cells := 0, slots := 0, locals := 21 }, "rounded")
theorem hyX6_rounded : yX6_rounded.cls ≠ "java/lang/invoke/MethodHandle" ∧ yX6_rounded.cls ≠ "java/lang/invoke/VarHandle" ∧ (parseMethodDescriptor yX6_rounded.desc).map (fun d => d.parameters.length) = some 2 := by decide +kernel
def fX6_rounded_84  (s0 : Int64) (M : Mem) : Option (Int64 × Mem) :=
  some (s0, M)
set_option maxHeartbeats 4000000 in
set_option maxRecDepth 100000 in
theorem tX6_rounded_84 {κ : KT} {p : Int64 × Mem} (O : OkK κ mX6_rounded) (hf : κ.2.2.2.2.2.2.2.2.2.2.2.2.2 = (some (.long p.1), p.2))  {s0 : Int64} {M : Mem} (h : fX6_rounded_84  s0 M = some p) : G κ mX6_rounded 0 0 84 [] [.long s0] M := by
  unfold fX6_rounded_84 at h
  cases h
  exact g_lreturn O dX6_rounded_84 rfl hf (by decide) (by decide)
def fX6_rounded_53  : Nat → Int64 → Int64 → Int32 → Mem → Option (Int64 × Mem)
  | 0, _, _, _, _ => none
  | n + 1, x0, x3, x7, M =>
    if (6 : Int32) ≤ x7 then (if 0 ≤ (lg_cmp x0 (0 : Int64)) then (fX6_rounded_84 x3 M)
    else (fX6_rounded_84 (-x3) M))
    else (fX6_rounded_53 n x0 (x3 * (10 : Int64)) (x7 + (1 : Int32)) M)
set_option maxHeartbeats 4000000 in
set_option maxRecDepth 100000 in
theorem tX6_rounded_53 {κ : KT} {p : Int64 × Mem} (O : OkK κ mX6_rounded) (hf : κ.2.2.2.2.2.2.2.2.2.2.2.2.2 = (some (.long p.1), p.2))  : ∀ (n : Nat) (x0 : Int64) (x3 : Int64) (x7 : Int32) (M : Mem), fX6_rounded_53  n x0 x3 x7 M = some p → G κ mX6_rounded 0 0 53 [(0, .long x0), (3, .long x3), (7, .int x7)] [] M := by
  intro n
  induction n with
  | zero => intro x0 x3 x7 M h; cases h
  | succ n ih =>
    intro x0 x3 x7 M h
    rw [fX6_rounded_53] at h
    refine g_iload (pc' := 55) 2 O dX6_rounded_53 rfl rfl ?_
    refine g_bipush (v := 6) (pc' := 57) O dX6_rounded_55 (by decide) rfl ?_
    refine g_icmp_ge (tgt := 72) (pc' := 60) O dX6_rounded_57 (by decide) rfl (fun hc => ?_) (fun hc => ?_)
    · replace h := ip hc h
      refine g_lload_n (pc' := 73) 0 O dX6_rounded_72 rfl rfl rfl ?_
      refine g_lconst (v := 0) (pc' := 74) O dX6_rounded_73 (by decide) rfl ?_
      refine g_lcmp (pc' := 75) O dX6_rounded_74 rfl ?_
      refine g_if_ge (tgt := 83) (pc' := 78) O dX6_rounded_75 (by decide) rfl (fun hc => ?_) (fun hc => ?_)
      · replace h := ip hc h
        refine g_lload_n (pc' := 84) 1 O dX6_rounded_83 rfl rfl rfl ?_
        refine g_sub (lv' := []) [] rfl ?_
        exact tX6_rounded_84 O hf h
      · replace h := ine hc h
        refine g_lload_n (pc' := 79) 1 O dX6_rounded_78 rfl rfl rfl ?_
        refine g_lneg (pc' := 80) O dX6_rounded_79 rfl ?_
        refine g_goto (pc' := 84) O dX6_rounded_80 (by decide) ?_
        refine g_sub (lv' := []) [] rfl ?_
        exact tX6_rounded_84 O hf h
    · replace h := ine hc h
      refine g_lload_n (pc' := 61) 1 O dX6_rounded_60 rfl rfl rfl ?_
      refine g_ldc2 (v := 10) (pc' := 64) O dX6_rounded_61 tw_475 rfl ?_
      refine g_lmul (pc' := 65) O dX6_rounded_64 rfl ?_
      refine g_lstore_n (lv' := [(3, .long (x3 * (10 : Int64))), (0, .long x0), (7, .int x7)]) (pc' := 66) O dX6_rounded_65 rfl (by decide) rfl rfl ?_
      refine g_iinc (q := 2) (v := x7 + (1 : Int32)) (lv' := [(7, .int (x7 + (1 : Int32))), (3, .long (x3 * (10 : Int64))), (0, .long x0)]) (pc' := 69) O dX6_rounded_66 rfl rfl (by decide) rfl rfl ?_
      refine g_goto (pc' := 53) O dX6_rounded_69 (by decide) ?_
      refine g_sub (lv' := [(0, .long x0), (3, .long (x3 * (10 : Int64))), (7, .int (x7 + (1 : Int32)))]) [2, 1, 0] rfl ?_
      exact ih x0 (x3 * (10 : Int64)) (x7 + (1 : Int32)) M h
def fX6_rounded_50  (x0 : Int64) (x2 : Int32) (x3 : Int64) (M : Mem) : Option (Int64 × Mem) :=
  fX6_rounded_53 FU x0 x3 x2 M
set_option maxHeartbeats 4000000 in
set_option maxRecDepth 100000 in
theorem tX6_rounded_50 {κ : KT} {p : Int64 × Mem} (O : OkK κ mX6_rounded) (hf : κ.2.2.2.2.2.2.2.2.2.2.2.2.2 = (some (.long p.1), p.2))  {x0 : Int64} {x2 : Int32} {x3 : Int64} {M : Mem} (h : fX6_rounded_50  x0 x2 x3 M = some p) : G κ mX6_rounded 0 0 50 [(0, .long x0), (2, .int x2), (3, .long x3)] [] M := by
  unfold fX6_rounded_50 at h
  refine g_iload_n (pc' := 51) 1 O dX6_rounded_50 rfl rfl rfl ?_
  refine g_istore (lv' := [(7, .int x2), (0, .long x0), (2, .int x2), (3, .long x3)]) (pc' := 53) O dX6_rounded_51 (by decide) rfl rfl ?_
  refine g_sub (lv' := [(0, .long x0), (3, .long x3), (7, .int x2)]) [1, 3, 0] rfl ?_
  exact tX6_rounded_53 O hf FU x0 x3 x2 M h
def fX6_rounded_11  : Nat → Int64 → Int32 → Int64 → Int64 → Int32 → Mem → Option (Int64 × Mem)
  | 0, _, _, _, _, _, _ => none
  | n + 1, x0, x2, x3, x5, x7, M =>
    if (6 : Int32) ≤ x7 then (if (lg_cmp x5 (5 : Int64)) < 0 then (fX6_rounded_50 x0 x2 x3 M)
    else (fX6_rounded_50 x0 x2 (x3 + (1 : Int64)) M))
    else (fX6_rounded_11 n x0 x2 (x3 / (10 : Int64)) (rmL x3 (10 : Int64)) (x7 + (1 : Int32)) M)
set_option maxHeartbeats 4000000 in
set_option maxRecDepth 100000 in
theorem tX6_rounded_11 {κ : KT} {p : Int64 × Mem} (O : OkK κ mX6_rounded) (hf : κ.2.2.2.2.2.2.2.2.2.2.2.2.2 = (some (.long p.1), p.2))  : ∀ (n : Nat) (x0 : Int64) (x2 : Int32) (x3 : Int64) (x5 : Int64) (x7 : Int32) (M : Mem), fX6_rounded_11  n x0 x2 x3 x5 x7 M = some p → G κ mX6_rounded 0 0 11 [(0, .long x0), (2, .int x2), (3, .long x3), (5, .long x5), (7, .int x7)] [] M := by
  intro n
  induction n with
  | zero => intro x0 x2 x3 x5 x7 M h; cases h
  | succ n ih =>
    intro x0 x2 x3 x5 x7 M h
    rw [fX6_rounded_11] at h
    refine g_iload (pc' := 13) 4 O dX6_rounded_11 rfl rfl ?_
    refine g_bipush (v := 6) (pc' := 15) O dX6_rounded_13 (by decide) rfl ?_
    refine g_icmp_ge (tgt := 37) (pc' := 18) O dX6_rounded_15 (by decide) rfl (fun hc => ?_) (fun hc => ?_)
    · replace h := ip hc h
      refine g_lload (pc' := 39) 3 O dX6_rounded_37 rfl rfl ?_
      refine g_ldc2 (v := 5) (pc' := 42) O dX6_rounded_39 tw_488 rfl ?_
      refine g_lcmp (pc' := 43) O dX6_rounded_42 rfl ?_
      refine g_if_lt (tgt := 50) (pc' := 46) O dX6_rounded_43 (by decide) rfl (fun hc => ?_) (fun hc => ?_)
      · replace h := ip hc h
        refine g_sub (lv' := [(0, .long x0), (2, .int x2), (3, .long x3)]) [0, 1, 2] rfl ?_
        exact tX6_rounded_50 O hf h
      · replace h := ine hc h
        refine g_lload_n (pc' := 47) 2 O dX6_rounded_46 rfl rfl rfl ?_
        refine g_lconst (v := 1) (pc' := 48) O dX6_rounded_47 (by decide) rfl ?_
        refine g_ladd (pc' := 49) O dX6_rounded_48 rfl ?_
        refine g_lstore_n (lv' := [(3, .long (x3 + (1 : Int64))), (0, .long x0), (2, .int x2), (5, .long x5), (7, .int x7)]) (pc' := 50) O dX6_rounded_49 rfl (by decide) rfl rfl ?_
        refine g_sub (lv' := [(0, .long x0), (2, .int x2), (3, .long (x3 + (1 : Int64)))]) [1, 2, 0] rfl ?_
        exact tX6_rounded_50 O hf h
    · replace h := ine hc h
      refine g_lload_n (pc' := 19) 2 O dX6_rounded_18 rfl rfl rfl ?_
      refine g_ldc2 (v := 10) (pc' := 22) O dX6_rounded_19 tw_475 rfl ?_
      refine g_lrem2 (pc' := 23) O dX6_rounded_22 (by decide) rfl ?_
      refine g_lstore (lv' := [(5, .long (rmL x3 (10 : Int64))), (0, .long x0), (2, .int x2), (3, .long x3), (7, .int x7)]) (pc' := 25) O dX6_rounded_23 (by decide) rfl rfl ?_
      refine g_lload_n (pc' := 26) 3 O dX6_rounded_25 rfl rfl rfl ?_
      refine g_ldc2 (v := 10) (pc' := 29) O dX6_rounded_26 tw_475 rfl ?_
      refine g_ldiv (pc' := 30) O dX6_rounded_29 (by decide) rfl ?_
      refine g_lstore_n (lv' := [(3, .long (x3 / (10 : Int64))), (5, .long (rmL x3 (10 : Int64))), (0, .long x0), (2, .int x2), (7, .int x7)]) (pc' := 31) O dX6_rounded_30 rfl (by decide) rfl rfl ?_
      refine g_iinc (q := 4) (v := x7 + (1 : Int32)) (lv' := [(7, .int (x7 + (1 : Int32))), (3, .long (x3 / (10 : Int64))), (5, .long (rmL x3 (10 : Int64))), (0, .long x0), (2, .int x2)]) (pc' := 34) O dX6_rounded_31 rfl rfl (by decide) rfl rfl ?_
      refine g_goto (pc' := 11) O dX6_rounded_34 (by decide) ?_
      refine g_sub (lv' := [(0, .long x0), (2, .int x2), (3, .long (x3 / (10 : Int64))), (5, .long (rmL x3 (10 : Int64))), (7, .int (x7 + (1 : Int32)))]) [3, 4, 1, 2, 0] rfl ?_
      exact ih x0 x2 (x3 / (10 : Int64)) (rmL x3 (10 : Int64)) (x7 + (1 : Int32)) M h
def fX6_rounded  (p0 : Int64) (p1 : Int32) (M : Mem) : Option (Int64 × Mem) :=
  (fJ9_abs_067f4 p0 M).bind fun r1 =>
  fX6_rounded_11 FU p0 p1 r1.1 (0 : Int64) p1 r1.2
set_option maxHeartbeats 4000000 in
set_option maxRecDepth 100000 in
theorem okX6_rounded {l : Launch} {p : Int64 × Mem} {p0 : Int64} {p1 : Int32} {M : Mem} (h : fX6_rounded p0 p1 M = some p) : Cn l yX6_rounded mX6_rounded [.long p0, .int p1] M (some (.long p.1)) p.2 := by
  refine Cn.of [(0, .long p0), (2, .int p1)] (by decide) rfl rfl (Nat.le_of_ble_eq_true rfl) rfl (fun κ _ hf O => ?_)
  unfold fX6_rounded at h
  refine g_lload_n (pc' := 1) 0 O dX6_rounded_0 rfl rfl rfl ?_
  replace h := ob h; obtain ⟨r1, er1, h⟩ := h
  refine g_callS (y := yJ9_abs_067f4) (ν := mJ9_abs_067f4) (n := 1) (As := [.long p0]) (b := 0) (st := []) (M2 := r1.2) (r1 := (some (.long r1.1))) (pc' := 4) O dX6_rounded_1 tw_487 tw_56 tw_486 tw_485 hyJ9_abs_067f4 rfl (okJ9_abs_067f4 er1) (Nat.le_of_ble_eq_true rfl) ⟨Nat.le_of_ble_eq_true rfl, Nat.le_of_ble_eq_true rfl⟩ ⟨Nat.le_of_ble_eq_true rfl, Nat.le_of_ble_eq_true rfl⟩ rfl ?_
  show G κ mX6_rounded 0 0 4 [(0, .long p0), (2, .int p1)] [.long r1.1] r1.2
  refine g_lstore_n (lv' := [(3, .long r1.1), (0, .long p0), (2, .int p1)]) (pc' := 5) O dX6_rounded_4 rfl (by decide) rfl rfl ?_
  refine g_lconst (v := 0) (pc' := 6) O dX6_rounded_5 (by decide) rfl ?_
  refine g_lstore (lv' := [(5, .long (0 : Int64)), (3, .long r1.1), (0, .long p0), (2, .int p1)]) (pc' := 8) O dX6_rounded_6 (by decide) rfl rfl ?_
  refine g_iload_n (pc' := 9) 3 O dX6_rounded_8 rfl rfl rfl ?_
  refine g_istore (lv' := [(7, .int p1), (5, .long (0 : Int64)), (3, .long r1.1), (0, .long p0), (2, .int p1)]) (pc' := 11) O dX6_rounded_9 (by decide) rfl rfl ?_
  refine g_sub (lv' := [(0, .long p0), (2, .int p1), (3, .long r1.1), (5, .long (0 : Int64)), (7, .int p1)]) [3, 4, 2, 1, 0] rfl ?_
  exact tX6_rounded_11 O hf FU p0 p1 r1.1 (0 : Int64) p1 r1.2 h
abbrev mX6_addMark : MD := (cX6_addMark, 3, RX6, none, { frames := 2, cells := 0, slots := 0, locals := 42 }, "addMark")
theorem hyX6_addMark : yX6_addMark.cls ≠ "java/lang/invoke/MethodHandle" ∧ yX6_addMark.cls ≠ "java/lang/invoke/VarHandle" ∧ (parseMethodDescriptor yX6_addMark.desc).map (fun d => d.parameters.length) = some 2 := by decide +kernel
def fX6_addMark_2  : Nat → Nat → Nat → Int32 → Mem → Option (Mem)
  | 0, _, _, _, _ => none
  | n + 1, x0, x1, x2, M =>
    if (3 : Int32) ≤ x2 then (some M)
    else ((ck M 0 x1).bind fun u1 =>
    (fX1_markByte x1 x2 M).bind fun r2 =>
    (ck r2.2 3 x0).bind fun u3 =>
    (fX4_add x0 r2.1 r2.2).bind fun r4 =>
    fX6_addMark_2 n x0 x1 (x2 + (1 : Int32)) r4)
set_option maxHeartbeats 4000000 in
set_option maxRecDepth 100000 in
theorem tX6_addMark_2 {κ : KT} {p : Mem} (O : OkK κ mX6_addMark) (hf : κ.2.2.2.2.2.2.2.2.2.2.2.2.2 = (none, p))  : ∀ (n : Nat) (x0 : Nat) (x1 : Nat) (x2 : Int32) (M : Mem), fX6_addMark_2  n x0 x1 x2 M = some p → G κ mX6_addMark 0 0 2 [(0, .ref x0), (1, .ref x1), (2, .int x2)] [] M := by
  intro n
  induction n with
  | zero => intro x0 x1 x2 M h; cases h
  | succ n ih =>
    intro x0 x1 x2 M h
    rw [fX6_addMark_2] at h
    refine g_iload_n (pc' := 3) 2 O dX6_addMark_2 rfl rfl rfl ?_
    refine g_iconst (v := 3) (pc' := 4) O dX6_addMark_3 (by decide) rfl ?_
    refine g_icmp_ge (tgt := 22) (pc' := 7) O dX6_addMark_4 (by decide) rfl (fun hc => ?_) (fun hc => ?_)
    · replace h := ip hc h
      cases h
      exact g_vreturn O dX6_addMark_22 rfl hf (by decide) (by decide)
    · replace h := ine hc h
      refine g_aload_n (pc' := 8) 0 O dX6_addMark_7 rfl rfl rfl ?_
      refine g_aload_n (pc' := 9) 1 O dX6_addMark_8 rfl rfl rfl ?_
      refine g_iload_n (pc' := 10) 2 O dX6_addMark_9 rfl rfl rfl ?_
      replace h := ob h; obtain ⟨u1, eu1, h⟩ := h
      replace h := ob h; obtain ⟨r2, er2, h⟩ := h
      refine g_callV (y := yX1_markByte) (ν := mX1_markByte) (n := 1) (As := [.int x2]) (b := x1) (st := [.ref x0]) (M2 := r2.2) (r1 := (some (.int r2.1))) (pc' := 13) O dX6_addMark_10 tw_399 tw_59 tw_397 tw_398 tw_496 hyX1_markByte rfl rfl eu1 (okX1_markByte er2) (Nat.le_of_ble_eq_true rfl) ⟨Nat.le_of_ble_eq_true rfl, Nat.le_of_ble_eq_true rfl⟩ ⟨Nat.le_of_ble_eq_true rfl, Nat.le_of_ble_eq_true rfl⟩ rfl ?_
      show G κ mX6_addMark 0 0 13 [(0, .ref x0), (1, .ref x1), (2, .int x2)] [.int r2.1, .ref x0] r2.2
      replace h := ob h; obtain ⟨u3, eu3, h⟩ := h
      replace h := ob h; obtain ⟨r4, er4, h⟩ := h
      refine g_callV (y := yX4_add) (ν := mX4_add) (n := 1) (As := [.int r2.1]) (b := x0) (st := []) (M2 := r4) (r1 := none) (pc' := 16) O dX6_addMark_13 tw_264 tw_55 tw_262 tw_263 tw_466 hyX4_add rfl rfl eu3 (okX4_add er4) (Nat.le_of_ble_eq_true rfl) ⟨Nat.le_of_ble_eq_true rfl, Nat.le_of_ble_eq_true rfl⟩ ⟨Nat.le_of_ble_eq_true rfl, Nat.le_of_ble_eq_true rfl⟩ rfl ?_
      show G κ mX6_addMark 0 0 16 [(0, .ref x0), (1, .ref x1), (2, .int x2)] [] r4
      refine g_iinc (q := 2) (v := x2 + (1 : Int32)) (lv' := [(2, .int (x2 + (1 : Int32))), (0, .ref x0), (1, .ref x1)]) (pc' := 19) O dX6_addMark_16 rfl rfl (by decide) rfl rfl ?_
      refine g_goto (pc' := 2) O dX6_addMark_19 (by decide) ?_
      refine g_sub (lv' := [(0, .ref x0), (1, .ref x1), (2, .int (x2 + (1 : Int32)))]) [1, 2, 0] rfl ?_
      exact ih x0 x1 (x2 + (1 : Int32)) r4 h
def fX6_addMark  (p0 : Nat) (p1 : Nat) (M : Mem) : Option (Mem) :=
  fX6_addMark_2 FU p0 p1 (0 : Int32) M
set_option maxHeartbeats 4000000 in
set_option maxRecDepth 100000 in
theorem okX6_addMark {l : Launch} {p : Mem} {p0 : Nat} {p1 : Nat} {M : Mem} (h : fX6_addMark p0 p1 M = some p) : Cn l yX6_addMark mX6_addMark [.ref p0, .ref p1] M none p := by
  refine Cn.of [(0, .ref p0), (1, .ref p1)] (by decide) rfl rfl (Nat.le_of_ble_eq_true rfl) rfl (fun κ _ hf O => ?_)
  unfold fX6_addMark at h
  refine g_iconst (v := 0) (pc' := 1) O dX6_addMark_0 (by decide) rfl ?_
  refine g_istore_n (lv' := [(2, .int (0 : Int32)), (0, .ref p0), (1, .ref p1)]) (pc' := 2) O dX6_addMark_1 rfl (by decide) rfl rfl ?_
  refine g_sub (lv' := [(0, .ref p0), (1, .ref p1), (2, .int (0 : Int32))]) [1, 2, 0] rfl ?_
  exact tX6_addMark_2 O hf FU p0 p1 (0 : Int32) M h
abbrev mX6_addNumber : MD := (cX6_addNumber, 7, RX6, none, { frames := 1, cells := 0, slots := 0, locals := 25 }, "addNumber")
theorem hyX6_addNumber : yX6_addNumber.cls ≠ "java/lang/invoke/MethodHandle" ∧ yX6_addNumber.cls ≠ "java/lang/invoke/VarHandle" ∧ (parseMethodDescriptor yX6_addNumber.desc).map (fun d => d.parameters.length) = some 4 := by decide +kernel
def fX6_addNumber_92  : Nat → Nat → Int64 → Int32 → Int32 → Mem → Option (Mem)
  | 0, _, _, _, _, _ => none
  | n + 1, x0, x2, x4, x6, M =>
    if x6 < ((6 : Int32) - x4) then (some M)
    else ((fX6_digitOf x2 x6 M).bind fun r1 =>
    (ck r1.2 3 x0).bind fun u2 =>
    (fX4_add x0 ((48 : Int32) + r1.1) r1.2).bind fun r3 =>
    fX6_addNumber_92 n x0 x2 x4 (x6 + (-1 : Int32)) r3)
set_option maxHeartbeats 4000000 in
set_option maxRecDepth 100000 in
theorem tX6_addNumber_92 {κ : KT} {p : Mem} (O : OkK κ mX6_addNumber) (hf : κ.2.2.2.2.2.2.2.2.2.2.2.2.2 = (none, p))  : ∀ (n : Nat) (x0 : Nat) (x2 : Int64) (x4 : Int32) (x6 : Int32) (M : Mem), fX6_addNumber_92  n x0 x2 x4 x6 M = some p → G κ mX6_addNumber 0 0 92 [(0, .ref x0), (2, .long x2), (4, .int x4), (6, .int x6)] [] M := by
  intro n
  induction n with
  | zero => intro x0 x2 x4 x6 M h; cases h
  | succ n ih =>
    intro x0 x2 x4 x6 M h
    rw [fX6_addNumber_92] at h
    refine g_iload (pc' := 94) 3 O dX6_addNumber_92 rfl rfl ?_
    refine g_bipush (v := 6) (pc' := 96) O dX6_addNumber_94 (by decide) rfl ?_
    refine g_iload (pc' := 98) 2 O dX6_addNumber_96 rfl rfl ?_
    refine g_isub (pc' := 99) O dX6_addNumber_98 rfl ?_
    refine g_icmp_lt (tgt := 121) (pc' := 102) O dX6_addNumber_99 (by decide) rfl (fun hc => ?_) (fun hc => ?_)
    · replace h := ip hc h
      cases h
      exact g_vreturn O dX6_addNumber_121 rfl hf (by decide) (by decide)
    · replace h := ine hc h
      refine g_aload_n (pc' := 103) 0 O dX6_addNumber_102 rfl rfl rfl ?_
      refine g_bipush (v := 48) (pc' := 105) O dX6_addNumber_103 (by decide) rfl ?_
      refine g_lload_n (pc' := 106) 1 O dX6_addNumber_105 rfl rfl rfl ?_
      refine g_iload (pc' := 108) 3 O dX6_addNumber_106 rfl rfl ?_
      replace h := ob h; obtain ⟨r1, er1, h⟩ := h
      refine g_callS (y := yX6_digitOf) (ν := mX6_digitOf) (n := 2) (As := [.long x2, .int x6]) (b := 0) (st := [.int (48 : Int32), .ref x0]) (M2 := r1.2) (r1 := (some (.int r1.1))) (pc' := 111) O dX6_addNumber_108 tw_474 tw_61 tw_473 tw_500 hyX6_digitOf rfl (okX6_digitOf er1) (Nat.le_of_ble_eq_true rfl) ⟨Nat.le_of_ble_eq_true rfl, Nat.le_of_ble_eq_true rfl⟩ ⟨Nat.le_of_ble_eq_true rfl, Nat.le_of_ble_eq_true rfl⟩ rfl ?_
      show G κ mX6_addNumber 0 0 111 [(0, .ref x0), (2, .long x2), (4, .int x4), (6, .int x6)] [.int r1.1, .int (48 : Int32), .ref x0] r1.2
      refine g_iadd (pc' := 112) O dX6_addNumber_111 rfl ?_
      replace h := ob h; obtain ⟨u2, eu2, h⟩ := h
      replace h := ob h; obtain ⟨r3, er3, h⟩ := h
      refine g_callV (y := yX4_add) (ν := mX4_add) (n := 1) (As := [.int ((48 : Int32) + r1.1)]) (b := x0) (st := []) (M2 := r3) (r1 := none) (pc' := 115) O dX6_addNumber_112 tw_264 tw_55 tw_262 tw_263 tw_466 hyX4_add rfl rfl eu2 (okX4_add er3) (Nat.le_of_ble_eq_true rfl) ⟨Nat.le_of_ble_eq_true rfl, Nat.le_of_ble_eq_true rfl⟩ ⟨Nat.le_of_ble_eq_true rfl, Nat.le_of_ble_eq_true rfl⟩ rfl ?_
      show G κ mX6_addNumber 0 0 115 [(0, .ref x0), (2, .long x2), (4, .int x4), (6, .int x6)] [] r3
      refine g_iinc (q := 3) (v := x6 + (-1 : Int32)) (lv' := [(6, .int (x6 + (-1 : Int32))), (0, .ref x0), (2, .long x2), (4, .int x4)]) (pc' := 118) O dX6_addNumber_115 rfl rfl (by decide) rfl rfl ?_
      refine g_goto (pc' := 92) O dX6_addNumber_118 (by decide) ?_
      refine g_sub (lv' := [(0, .ref x0), (2, .long x2), (4, .int x4), (6, .int (x6 + (-1 : Int32)))]) [1, 2, 3, 0] rfl ?_
      exact ih x0 x2 x4 (x6 + (-1 : Int32)) r3 h
def fX6_addNumber_89  (x0 : Nat) (x2 : Int64) (x4 : Int32) (M : Mem) : Option (Mem) :=
  fX6_addNumber_92 FU x0 x2 x4 (5 : Int32) M
set_option maxHeartbeats 4000000 in
set_option maxRecDepth 100000 in
theorem tX6_addNumber_89 {κ : KT} {p : Mem} (O : OkK κ mX6_addNumber) (hf : κ.2.2.2.2.2.2.2.2.2.2.2.2.2 = (none, p))  {x0 : Nat} {x2 : Int64} {x4 : Int32} {M : Mem} (h : fX6_addNumber_89  x0 x2 x4 M = some p) : G κ mX6_addNumber 0 0 89 [(0, .ref x0), (2, .long x2), (4, .int x4)] [] M := by
  unfold fX6_addNumber_89 at h
  refine g_iconst (v := 5) (pc' := 90) O dX6_addNumber_89 (by decide) rfl ?_
  refine g_istore (lv' := [(6, .int (5 : Int32)), (0, .ref x0), (2, .long x2), (4, .int x4)]) (pc' := 92) O dX6_addNumber_90 (by decide) rfl rfl ?_
  refine g_sub (lv' := [(0, .ref x0), (2, .long x2), (4, .int x4), (6, .int (5 : Int32))]) [1, 2, 3, 0] rfl ?_
  exact tX6_addNumber_92 O hf FU x0 x2 x4 (5 : Int32) M h
def fX6_addNumber_70 (k30 : Nat → Nat → Int64 → Int32 → Int32 → Mem → Option (Mem)) (x0 : Nat) (x1 : Nat) (x2 : Int64) (x4 : Int32) (x6 : Int32) (M : Mem) : Option (Mem) :=
  k30 x0 x1 x2 x4 (x6 + (-1 : Int32)) M
set_option maxHeartbeats 4000000 in
set_option maxRecDepth 100000 in
theorem tX6_addNumber_70 {κ : KT} {p : Mem} (O : OkK κ mX6_addNumber) (hf : κ.2.2.2.2.2.2.2.2.2.2.2.2.2 = (none, p)) {k30 : Nat → Nat → Int64 → Int32 → Int32 → Mem → Option (Mem)} (hk30 : ∀ (x0 : Nat) (x1 : Nat) (x2 : Int64) (x4 : Int32) (x6 : Int32) (M : Mem), k30 x0 x1 x2 x4 x6 M = some p → G κ mX6_addNumber 0 0 30 [(0, .ref x0), (1, .ref x1), (2, .long x2), (4, .int x4), (6, .int x6)] [] M) {x0 : Nat} {x1 : Nat} {x2 : Int64} {x4 : Int32} {x6 : Int32} {M : Mem} (h : fX6_addNumber_70 k30 x0 x1 x2 x4 x6 M = some p) : G κ mX6_addNumber 0 0 70 [(0, .ref x0), (1, .ref x1), (2, .long x2), (4, .int x4), (6, .int x6)] [] M := by
  unfold fX6_addNumber_70 at h
  refine g_iinc (q := 4) (v := x6 + (-1 : Int32)) (lv' := [(6, .int (x6 + (-1 : Int32))), (0, .ref x0), (1, .ref x1), (2, .long x2), (4, .int x4)]) (pc' := 73) O dX6_addNumber_70 rfl rfl (by decide) rfl rfl ?_
  refine g_goto (pc' := 30) O dX6_addNumber_73 (by decide) ?_
  refine g_sub (lv' := [(0, .ref x0), (1, .ref x1), (2, .long x2), (4, .int x4), (6, .int (x6 + (-1 : Int32)))]) [1, 2, 3, 4, 0] rfl ?_
  exact hk30 x0 x1 x2 x4 (x6 + (-1 : Int32)) M h
def fX6_addNumber_30  : Nat → Nat → Nat → Int64 → Int32 → Int32 → Mem → Option (Mem)
  | 0, _, _, _, _, _, _ => none
  | n + 1, x0, x1, x2, x4, x6, M =>
    if x6 < (6 : Int32) then (if x4 ≤ 0 then (fX6_addNumber_89 x0 x2 x4 M)
    else ((gI M 0 x1 0).bind fun v1 =>
    (ck M 3 x0).bind fun u2 =>
    (fX4_add x0 v1 M).bind fun r3 =>
    fX6_addNumber_89 x0 x2 x4 r3))
    else ((fX6_digitOf x2 x6 M).bind fun r4 =>
    (ck r4.2 3 x0).bind fun u5 =>
    (fX4_add x0 ((48 : Int32) + r4.1) r4.2).bind fun r6 =>
    (ck r6 0 x1).bind fun u7 =>
    (fX1_groupsAhead x1 (x6 - (6 : Int32)) r6).bind fun r8 =>
    if r8.1 = 0 then (fX6_addNumber_70 (fX6_addNumber_30 n) x0 x1 x2 x4 x6 r8.2)
    else ((gI r8.2 0 x1 1).bind fun v9 =>
    (ck r8.2 3 x0).bind fun u10 =>
    (fX4_add x0 v9 r8.2).bind fun r11 =>
    fX6_addNumber_70 (fX6_addNumber_30 n) x0 x1 x2 x4 x6 r11))
set_option maxHeartbeats 4000000 in
set_option maxRecDepth 100000 in
theorem tX6_addNumber_30 {κ : KT} {p : Mem} (O : OkK κ mX6_addNumber) (hf : κ.2.2.2.2.2.2.2.2.2.2.2.2.2 = (none, p))  : ∀ (n : Nat) (x0 : Nat) (x1 : Nat) (x2 : Int64) (x4 : Int32) (x6 : Int32) (M : Mem), fX6_addNumber_30  n x0 x1 x2 x4 x6 M = some p → G κ mX6_addNumber 0 0 30 [(0, .ref x0), (1, .ref x1), (2, .long x2), (4, .int x4), (6, .int x6)] [] M := by
  intro n
  induction n with
  | zero => intro x0 x1 x2 x4 x6 M h; cases h
  | succ n ih =>
    intro x0 x1 x2 x4 x6 M h
    rw [fX6_addNumber_30] at h
    refine g_iload (pc' := 32) 4 O dX6_addNumber_30 rfl rfl ?_
    refine g_bipush (v := 6) (pc' := 34) O dX6_addNumber_32 (by decide) rfl ?_
    refine g_icmp_lt (tgt := 76) (pc' := 37) O dX6_addNumber_34 (by decide) rfl (fun hc => ?_) (fun hc => ?_)
    · replace h := ip hc h
      refine g_iload (pc' := 78) 3 O dX6_addNumber_76 rfl rfl ?_
      refine g_if_le (tgt := 89) (pc' := 81) O dX6_addNumber_78 (by decide) rfl (fun hc => ?_) (fun hc => ?_)
      · replace h := ip hc h
        refine g_sub (lv' := [(0, .ref x0), (2, .long x2), (4, .int x4)]) [0, 2, 3] rfl ?_
        exact tX6_addNumber_89 O hf h
      · replace h := ine hc h
        refine g_aload_n (pc' := 82) 0 O dX6_addNumber_81 rfl rfl rfl ?_
        refine g_aload_n (pc' := 83) 1 O dX6_addNumber_82 rfl rfl rfl ?_
        replace h := ob h; obtain ⟨v1, ev1, h⟩ := h
        refine g_getF (C := RX1) (T := TX1) (N := 8) (ci := 0) (k := 0) (pc' := 86) O dX6_addNumber_83 rfl inX1 (by decide) tw_214 (gI_F ev1) rfl ?_
        replace h := ob h; obtain ⟨u2, eu2, h⟩ := h
        replace h := ob h; obtain ⟨r3, er3, h⟩ := h
        refine g_callV (y := yX4_add) (ν := mX4_add) (n := 1) (As := [.int v1]) (b := x0) (st := []) (M2 := r3) (r1 := none) (pc' := 89) O dX6_addNumber_86 tw_264 tw_55 tw_262 tw_263 tw_466 hyX4_add rfl rfl eu2 (okX4_add er3) (Nat.le_of_ble_eq_true rfl) ⟨Nat.le_of_ble_eq_true rfl, Nat.le_of_ble_eq_true rfl⟩ ⟨Nat.le_of_ble_eq_true rfl, Nat.le_of_ble_eq_true rfl⟩ rfl ?_
        show G κ mX6_addNumber 0 0 89 [(0, .ref x0), (1, .ref x1), (2, .long x2), (4, .int x4), (6, .int x6)] [] r3
        refine g_sub (lv' := [(0, .ref x0), (2, .long x2), (4, .int x4)]) [0, 2, 3] rfl ?_
        exact tX6_addNumber_89 O hf h
    · replace h := ine hc h
      refine g_aload_n (pc' := 38) 0 O dX6_addNumber_37 rfl rfl rfl ?_
      refine g_bipush (v := 48) (pc' := 40) O dX6_addNumber_38 (by decide) rfl ?_
      refine g_lload_n (pc' := 41) 2 O dX6_addNumber_40 rfl rfl rfl ?_
      refine g_iload (pc' := 43) 4 O dX6_addNumber_41 rfl rfl ?_
      replace h := ob h; obtain ⟨r4, er4, h⟩ := h
      refine g_callS (y := yX6_digitOf) (ν := mX6_digitOf) (n := 2) (As := [.long x2, .int x6]) (b := 0) (st := [.int (48 : Int32), .ref x0]) (M2 := r4.2) (r1 := (some (.int r4.1))) (pc' := 46) O dX6_addNumber_43 tw_474 tw_61 tw_473 tw_500 hyX6_digitOf rfl (okX6_digitOf er4) (Nat.le_of_ble_eq_true rfl) ⟨Nat.le_of_ble_eq_true rfl, Nat.le_of_ble_eq_true rfl⟩ ⟨Nat.le_of_ble_eq_true rfl, Nat.le_of_ble_eq_true rfl⟩ rfl ?_
      show G κ mX6_addNumber 0 0 46 [(0, .ref x0), (1, .ref x1), (2, .long x2), (4, .int x4), (6, .int x6)] [.int r4.1, .int (48 : Int32), .ref x0] r4.2
      refine g_iadd (pc' := 47) O dX6_addNumber_46 rfl ?_
      replace h := ob h; obtain ⟨u5, eu5, h⟩ := h
      replace h := ob h; obtain ⟨r6, er6, h⟩ := h
      refine g_callV (y := yX4_add) (ν := mX4_add) (n := 1) (As := [.int ((48 : Int32) + r4.1)]) (b := x0) (st := []) (M2 := r6) (r1 := none) (pc' := 50) O dX6_addNumber_47 tw_264 tw_55 tw_262 tw_263 tw_466 hyX4_add rfl rfl eu5 (okX4_add er6) (Nat.le_of_ble_eq_true rfl) ⟨Nat.le_of_ble_eq_true rfl, Nat.le_of_ble_eq_true rfl⟩ ⟨Nat.le_of_ble_eq_true rfl, Nat.le_of_ble_eq_true rfl⟩ rfl ?_
      show G κ mX6_addNumber 0 0 50 [(0, .ref x0), (1, .ref x1), (2, .long x2), (4, .int x4), (6, .int x6)] [] r6
      refine g_aload_n (pc' := 51) 1 O dX6_addNumber_50 rfl rfl rfl ?_
      refine g_iload (pc' := 53) 4 O dX6_addNumber_51 rfl rfl ?_
      refine g_bipush (v := 6) (pc' := 55) O dX6_addNumber_53 (by decide) rfl ?_
      refine g_isub (pc' := 56) O dX6_addNumber_55 rfl ?_
      replace h := ob h; obtain ⟨u7, eu7, h⟩ := h
      replace h := ob h; obtain ⟨r8, er8, h⟩ := h
      refine g_callV (y := yX1_groupsAhead) (ν := mX1_groupsAhead) (n := 1) (As := [.int (x6 - (6 : Int32))]) (b := x1) (st := []) (M2 := r8.2) (r1 := (some (.int r8.1))) (pc' := 59) O dX6_addNumber_56 tw_504 tw_59 tw_502 tw_503 tw_501 hyX1_groupsAhead rfl rfl eu7 (okX1_groupsAhead er8) (Nat.le_of_ble_eq_true rfl) ⟨Nat.le_of_ble_eq_true rfl, Nat.le_of_ble_eq_true rfl⟩ ⟨Nat.le_of_ble_eq_true rfl, Nat.le_of_ble_eq_true rfl⟩ rfl ?_
      show G κ mX6_addNumber 0 0 59 [(0, .ref x0), (1, .ref x1), (2, .long x2), (4, .int x4), (6, .int x6)] [.int r8.1] r8.2
      refine g_if_eq (tgt := 70) (pc' := 62) O dX6_addNumber_59 (by decide) rfl (fun hc => ?_) (fun hc => ?_)
      · replace h := ip hc h
        exact tX6_addNumber_70 O hf ih h
      · replace h := ine hc h
        refine g_aload_n (pc' := 63) 0 O dX6_addNumber_62 rfl rfl rfl ?_
        refine g_aload_n (pc' := 64) 1 O dX6_addNumber_63 rfl rfl rfl ?_
        replace h := ob h; obtain ⟨v9, ev9, h⟩ := h
        refine g_getF (C := RX1) (T := TX1) (N := 8) (ci := 0) (k := 1) (pc' := 67) O dX6_addNumber_64 rfl inX1 (by decide) tw_217 (gI_F ev9) rfl ?_
        replace h := ob h; obtain ⟨u10, eu10, h⟩ := h
        replace h := ob h; obtain ⟨r11, er11, h⟩ := h
        refine g_callV (y := yX4_add) (ν := mX4_add) (n := 1) (As := [.int v9]) (b := x0) (st := []) (M2 := r11) (r1 := none) (pc' := 70) O dX6_addNumber_67 tw_264 tw_55 tw_262 tw_263 tw_466 hyX4_add rfl rfl eu10 (okX4_add er11) (Nat.le_of_ble_eq_true rfl) ⟨Nat.le_of_ble_eq_true rfl, Nat.le_of_ble_eq_true rfl⟩ ⟨Nat.le_of_ble_eq_true rfl, Nat.le_of_ble_eq_true rfl⟩ rfl ?_
        show G κ mX6_addNumber 0 0 70 [(0, .ref x0), (1, .ref x1), (2, .long x2), (4, .int x4), (6, .int x6)] [] r11
        exact tX6_addNumber_70 O hf ih h
def fX6_addNumber_26  (x0 : Nat) (x1 : Nat) (x2 : Int64) (x4 : Int32) (x5 : Int32) (M : Mem) : Option (Mem) :=
  fX6_addNumber_30 FU x0 x1 x2 x4 x5 M
set_option maxHeartbeats 4000000 in
set_option maxRecDepth 100000 in
theorem tX6_addNumber_26 {κ : KT} {p : Mem} (O : OkK κ mX6_addNumber) (hf : κ.2.2.2.2.2.2.2.2.2.2.2.2.2 = (none, p))  {x0 : Nat} {x1 : Nat} {x2 : Int64} {x4 : Int32} {x5 : Int32} {M : Mem} (h : fX6_addNumber_26  x0 x1 x2 x4 x5 M = some p) : G κ mX6_addNumber 0 0 26 [(0, .ref x0), (1, .ref x1), (2, .long x2), (4, .int x4), (5, .int x5)] [] M := by
  unfold fX6_addNumber_26 at h
  refine g_iload (pc' := 28) 4 O dX6_addNumber_26 rfl rfl ?_
  refine g_istore (lv' := [(6, .int x5), (0, .ref x0), (1, .ref x1), (2, .long x2), (4, .int x4), (5, .int x5)]) (pc' := 30) O dX6_addNumber_28 (by decide) rfl rfl ?_
  refine g_sub (lv' := [(0, .ref x0), (1, .ref x1), (2, .long x2), (4, .int x4), (6, .int x5)]) [1, 2, 3, 4, 0] rfl ?_
  exact tX6_addNumber_30 O hf FU x0 x1 x2 x4 x5 M h
def fX6_addNumber_4  : Nat → Nat → Nat → Int64 → Int32 → Int32 → Mem → Option (Mem)
  | 0, _, _, _, _, _, _ => none
  | n + 1, x0, x1, x2, x4, x5, M =>
    if x5 ≤ (6 : Int32) then (fX6_addNumber_26 x0 x1 x2 x4 x5 M)
    else ((fX6_digitOf x2 x5 M).bind fun r1 =>
    if r1.1 = 0 then (fX6_addNumber_4 n x0 x1 x2 x4 (x5 + (-1 : Int32)) r1.2)
    else (fX6_addNumber_26 x0 x1 x2 x4 x5 r1.2))
set_option maxHeartbeats 4000000 in
set_option maxRecDepth 100000 in
theorem tX6_addNumber_4 {κ : KT} {p : Mem} (O : OkK κ mX6_addNumber) (hf : κ.2.2.2.2.2.2.2.2.2.2.2.2.2 = (none, p))  : ∀ (n : Nat) (x0 : Nat) (x1 : Nat) (x2 : Int64) (x4 : Int32) (x5 : Int32) (M : Mem), fX6_addNumber_4  n x0 x1 x2 x4 x5 M = some p → G κ mX6_addNumber 0 0 4 [(0, .ref x0), (1, .ref x1), (2, .long x2), (4, .int x4), (5, .int x5)] [] M := by
  intro n
  induction n with
  | zero => intro x0 x1 x2 x4 x5 M h; cases h
  | succ n ih =>
    intro x0 x1 x2 x4 x5 M h
    rw [fX6_addNumber_4] at h
    refine g_iload (pc' := 6) 4 O dX6_addNumber_4 rfl rfl ?_
    refine g_bipush (v := 6) (pc' := 8) O dX6_addNumber_6 (by decide) rfl ?_
    refine g_icmp_le (tgt := 26) (pc' := 11) O dX6_addNumber_8 (by decide) rfl (fun hc => ?_) (fun hc => ?_)
    · replace h := ip hc h
      exact tX6_addNumber_26 O hf h
    · replace h := ine hc h
      refine g_lload_n (pc' := 12) 2 O dX6_addNumber_11 rfl rfl rfl ?_
      refine g_iload (pc' := 14) 4 O dX6_addNumber_12 rfl rfl ?_
      replace h := ob h; obtain ⟨r1, er1, h⟩ := h
      refine g_callS (y := yX6_digitOf) (ν := mX6_digitOf) (n := 2) (As := [.long x2, .int x5]) (b := 0) (st := []) (M2 := r1.2) (r1 := (some (.int r1.1))) (pc' := 17) O dX6_addNumber_14 tw_474 tw_61 tw_473 tw_500 hyX6_digitOf rfl (okX6_digitOf er1) (Nat.le_of_ble_eq_true rfl) ⟨Nat.le_of_ble_eq_true rfl, Nat.le_of_ble_eq_true rfl⟩ ⟨Nat.le_of_ble_eq_true rfl, Nat.le_of_ble_eq_true rfl⟩ rfl ?_
      show G κ mX6_addNumber 0 0 17 [(0, .ref x0), (1, .ref x1), (2, .long x2), (4, .int x4), (5, .int x5)] [.int r1.1] r1.2
      refine g_if_ne (tgt := 26) (pc' := 20) O dX6_addNumber_17 (by decide) rfl (fun hc => ?_) (fun hc => ?_)
      · replace h := ine hc h
        exact tX6_addNumber_26 O hf h
      · replace h := ip hc h
        refine g_iinc (q := 4) (v := x5 + (-1 : Int32)) (lv' := [(5, .int (x5 + (-1 : Int32))), (0, .ref x0), (1, .ref x1), (2, .long x2), (4, .int x4)]) (pc' := 23) O dX6_addNumber_20 rfl rfl (by decide) rfl rfl ?_
        refine g_goto (pc' := 4) O dX6_addNumber_23 (by decide) ?_
        refine g_sub (lv' := [(0, .ref x0), (1, .ref x1), (2, .long x2), (4, .int x4), (5, .int (x5 + (-1 : Int32)))]) [1, 2, 3, 4, 0] rfl ?_
        exact ih x0 x1 x2 x4 (x5 + (-1 : Int32)) r1.2 h
def fX6_addNumber  (p0 : Nat) (p1 : Nat) (p2 : Int64) (p3 : Int32) (M : Mem) : Option (Mem) :=
  fX6_addNumber_4 FU p0 p1 p2 p3 (14 : Int32) M
set_option maxHeartbeats 4000000 in
set_option maxRecDepth 100000 in
theorem okX6_addNumber {l : Launch} {p : Mem} {p0 : Nat} {p1 : Nat} {p2 : Int64} {p3 : Int32} {M : Mem} (h : fX6_addNumber p0 p1 p2 p3 M = some p) : Cn l yX6_addNumber mX6_addNumber [.ref p0, .ref p1, .long p2, .int p3] M none p := by
  refine Cn.of [(0, .ref p0), (1, .ref p1), (2, .long p2), (4, .int p3)] (by decide) rfl rfl (Nat.le_of_ble_eq_true rfl) rfl (fun κ _ hf O => ?_)
  unfold fX6_addNumber at h
  refine g_bipush (v := 14) (pc' := 2) O dX6_addNumber_0 (by decide) rfl ?_
  refine g_istore (lv' := [(5, .int (14 : Int32)), (0, .ref p0), (1, .ref p1), (2, .long p2), (4, .int p3)]) (pc' := 4) O dX6_addNumber_2 (by decide) rfl rfl ?_
  refine g_sub (lv' := [(0, .ref p0), (1, .ref p1), (2, .long p2), (4, .int p3), (5, .int (14 : Int32))]) [1, 2, 3, 4, 0] rfl ?_
  exact tX6_addNumber_4 O hf FU p0 p1 p2 p3 (14 : Int32) M h
abbrev mX6_writeAmount : MD := (cX6_writeAmount, 7, RX6, none, { frames := 3, cells := 0, slots := 0, locals := 64 }, "writeAmount")
theorem hyX6_writeAmount : yX6_writeAmount.cls ≠ "java/lang/invoke/MethodHandle" ∧ yX6_writeAmount.cls ≠ "java/lang/invoke/VarHandle" ∧ (parseMethodDescriptor yX6_writeAmount.desc).map (fun d => d.parameters.length) = some 5 := by decide +kernel
def fX6_writeAmount_108  (M : Mem) : Option (Mem) :=
  some M
set_option maxHeartbeats 4000000 in
set_option maxRecDepth 100000 in
theorem tX6_writeAmount_108 {κ : KT} {p : Mem} (O : OkK κ mX6_writeAmount) (hf : κ.2.2.2.2.2.2.2.2.2.2.2.2.2 = (none, p))  {M : Mem} (h : fX6_writeAmount_108  M = some p) : G κ mX6_writeAmount 0 0 108 [] [] M := by
  unfold fX6_writeAmount_108 at h
  cases h
  exact g_vreturn O dX6_writeAmount_108 rfl hf (by decide) (by decide)
def fX6_writeAmount_87  (x0 : Nat) (x1 : Nat) (x6 : Int32) (M : Mem) : Option (Mem) :=
  if x6 = 0 then (fX6_writeAmount_108 M)
  else ((ck M 0 x1).bind fun u1 =>
  (fX1_minusBehind x1 M).bind fun r2 =>
  if r2.1 = (-1 : Int32) then (fX6_writeAmount_108 r2.2)
  else ((ck r2.2 0 x1).bind fun u3 =>
  (fX1_minusBehind x1 r2.2).bind fun r4 =>
  (ck r4.2 3 x0).bind fun u5 =>
  (fX4_add x0 r4.1 r4.2).bind fun r6 =>
  fX6_writeAmount_108 r6))
set_option maxHeartbeats 4000000 in
set_option maxRecDepth 100000 in
theorem tX6_writeAmount_87 {κ : KT} {p : Mem} (O : OkK κ mX6_writeAmount) (hf : κ.2.2.2.2.2.2.2.2.2.2.2.2.2 = (none, p))  {x0 : Nat} {x1 : Nat} {x6 : Int32} {M : Mem} (h : fX6_writeAmount_87  x0 x1 x6 M = some p) : G κ mX6_writeAmount 0 0 87 [(0, .ref x0), (1, .ref x1), (6, .int x6)] [] M := by
  unfold fX6_writeAmount_87 at h
  refine g_iload (pc' := 89) 2 O dX6_writeAmount_87 rfl rfl ?_
  refine g_if_eq (tgt := 108) (pc' := 92) O dX6_writeAmount_89 (by decide) rfl (fun hc => ?_) (fun hc => ?_)
  · replace h := ip hc h
    refine g_sub (lv' := []) [] rfl ?_
    exact tX6_writeAmount_108 O hf h
  · replace h := ine hc h
    refine g_aload_n (pc' := 93) 1 O dX6_writeAmount_92 rfl rfl rfl ?_
    replace h := ob h; obtain ⟨u1, eu1, h⟩ := h
    replace h := ob h; obtain ⟨r2, er2, h⟩ := h
    refine g_callV (y := yX1_minusBehind) (ν := mX1_minusBehind) (n := 0) (As := []) (b := x1) (st := []) (M2 := r2.2) (r1 := (some (.int r2.1))) (pc' := 96) O dX6_writeAmount_93 tw_420 tw_59 tw_418 tw_419 tw_505 hyX1_minusBehind rfl rfl eu1 (okX1_minusBehind er2) (Nat.le_of_ble_eq_true rfl) ⟨Nat.le_of_ble_eq_true rfl, Nat.le_of_ble_eq_true rfl⟩ ⟨Nat.le_of_ble_eq_true rfl, Nat.le_of_ble_eq_true rfl⟩ rfl ?_
    show G κ mX6_writeAmount 0 0 96 [(0, .ref x0), (1, .ref x1), (6, .int x6)] [.int r2.1] r2.2
    refine g_iconst (v := -1) (pc' := 97) O dX6_writeAmount_96 (by decide) rfl ?_
    refine g_icmp_eq (tgt := 108) (pc' := 100) O dX6_writeAmount_97 (by decide) rfl (fun hc => ?_) (fun hc => ?_)
    · replace h := ip hc h
      refine g_sub (lv' := []) [] rfl ?_
      exact tX6_writeAmount_108 O hf h
    · replace h := ine hc h
      refine g_aload_n (pc' := 101) 0 O dX6_writeAmount_100 rfl rfl rfl ?_
      refine g_aload_n (pc' := 102) 1 O dX6_writeAmount_101 rfl rfl rfl ?_
      replace h := ob h; obtain ⟨u3, eu3, h⟩ := h
      replace h := ob h; obtain ⟨r4, er4, h⟩ := h
      refine g_callV (y := yX1_minusBehind) (ν := mX1_minusBehind) (n := 0) (As := []) (b := x1) (st := [.ref x0]) (M2 := r4.2) (r1 := (some (.int r4.1))) (pc' := 105) O dX6_writeAmount_102 tw_420 tw_59 tw_418 tw_419 tw_505 hyX1_minusBehind rfl rfl eu3 (okX1_minusBehind er4) (Nat.le_of_ble_eq_true rfl) ⟨Nat.le_of_ble_eq_true rfl, Nat.le_of_ble_eq_true rfl⟩ ⟨Nat.le_of_ble_eq_true rfl, Nat.le_of_ble_eq_true rfl⟩ rfl ?_
      show G κ mX6_writeAmount 0 0 105 [(0, .ref x0), (1, .ref x1), (6, .int x6)] [.int r4.1, .ref x0] r4.2
      replace h := ob h; obtain ⟨u5, eu5, h⟩ := h
      replace h := ob h; obtain ⟨r6, er6, h⟩ := h
      refine g_callV (y := yX4_add) (ν := mX4_add) (n := 1) (As := [.int r4.1]) (b := x0) (st := []) (M2 := r6) (r1 := none) (pc' := 108) O dX6_writeAmount_105 tw_264 tw_55 tw_262 tw_263 tw_466 hyX4_add rfl rfl eu5 (okX4_add er6) (Nat.le_of_ble_eq_true rfl) ⟨Nat.le_of_ble_eq_true rfl, Nat.le_of_ble_eq_true rfl⟩ ⟨Nat.le_of_ble_eq_true rfl, Nat.le_of_ble_eq_true rfl⟩ rfl ?_
      show G κ mX6_writeAmount 0 0 108 [(0, .ref x0), (1, .ref x1), (6, .int x6)] [] r6
      refine g_sub (lv' := []) [] rfl ?_
      exact tX6_writeAmount_108 O hf h
def fX6_writeAmount_54  (x0 : Nat) (x1 : Nat) (x2 : Int32) (x3 : Int64) (x5 : Int32) (x6 : Int32) (M : Mem) : Option (Mem) :=
  (fJ9_abs_067f4 x3 M).bind fun r1 =>
  (fX6_addNumber x0 x1 r1.1 x5 r1.2).bind fun r2 =>
  if x2 = 0 then (fX6_writeAmount_87 x0 x1 x6 r2)
  else ((gI r2 0 x1 5).bind fun v3 =>
  if v3 = 0 then (fX6_writeAmount_87 x0 x1 x6 r2)
  else ((ck r2 3 x0).bind fun u4 =>
  (fX4_add x0 (32 : Int32) r2).bind fun r5 =>
  (fX6_addMark x0 x1 r5).bind fun r6 =>
  fX6_writeAmount_87 x0 x1 x6 r6))
set_option maxHeartbeats 4000000 in
set_option maxRecDepth 100000 in
theorem tX6_writeAmount_54 {κ : KT} {p : Mem} (O : OkK κ mX6_writeAmount) (hf : κ.2.2.2.2.2.2.2.2.2.2.2.2.2 = (none, p))  {x0 : Nat} {x1 : Nat} {x2 : Int32} {x3 : Int64} {x5 : Int32} {x6 : Int32} {M : Mem} (h : fX6_writeAmount_54  x0 x1 x2 x3 x5 x6 M = some p) : G κ mX6_writeAmount 0 0 54 [(0, .ref x0), (1, .ref x1), (2, .int x2), (3, .long x3), (5, .int x5), (6, .int x6)] [] M := by
  unfold fX6_writeAmount_54 at h
  refine g_aload_n (pc' := 55) 0 O dX6_writeAmount_54 rfl rfl rfl ?_
  refine g_aload_n (pc' := 56) 1 O dX6_writeAmount_55 rfl rfl rfl ?_
  refine g_lload_n (pc' := 57) 3 O dX6_writeAmount_56 rfl rfl rfl ?_
  replace h := ob h; obtain ⟨r1, er1, h⟩ := h
  refine g_callS (y := yJ9_abs_067f4) (ν := mJ9_abs_067f4) (n := 1) (As := [.long x3]) (b := 0) (st := [.ref x1, .ref x0]) (M2 := r1.2) (r1 := (some (.long r1.1))) (pc' := 60) O dX6_writeAmount_57 tw_487 tw_56 tw_486 tw_485 hyJ9_abs_067f4 rfl (okJ9_abs_067f4 er1) (Nat.le_of_ble_eq_true rfl) ⟨Nat.le_of_ble_eq_true rfl, Nat.le_of_ble_eq_true rfl⟩ ⟨Nat.le_of_ble_eq_true rfl, Nat.le_of_ble_eq_true rfl⟩ rfl ?_
  show G κ mX6_writeAmount 0 0 60 [(0, .ref x0), (1, .ref x1), (2, .int x2), (3, .long x3), (5, .int x5), (6, .int x6)] [.long r1.1, .ref x1, .ref x0] r1.2
  refine g_iload (pc' := 62) 4 O dX6_writeAmount_60 rfl rfl ?_
  replace h := ob h; obtain ⟨r2, er2, h⟩ := h
  refine g_callS (y := yX6_addNumber) (ν := mX6_addNumber) (n := 4) (As := [.ref x0, .ref x1, .long r1.1, .int x5]) (b := 0) (st := []) (M2 := r2) (r1 := none) (pc' := 65) O dX6_writeAmount_62 tw_499 tw_61 tw_498 tw_497 hyX6_addNumber rfl (okX6_addNumber er2) (Nat.le_of_ble_eq_true rfl) ⟨Nat.le_of_ble_eq_true rfl, Nat.le_of_ble_eq_true rfl⟩ ⟨Nat.le_of_ble_eq_true rfl, Nat.le_of_ble_eq_true rfl⟩ rfl ?_
  show G κ mX6_writeAmount 0 0 65 [(0, .ref x0), (1, .ref x1), (2, .int x2), (3, .long x3), (5, .int x5), (6, .int x6)] [] r2
  refine g_iload_n (pc' := 66) 2 O dX6_writeAmount_65 rfl rfl rfl ?_
  refine g_if_eq (tgt := 87) (pc' := 69) O dX6_writeAmount_66 (by decide) rfl (fun hc => ?_) (fun hc => ?_)
  · replace h := ip hc h
    refine g_sub (lv' := [(0, .ref x0), (1, .ref x1), (6, .int x6)]) [0, 1, 5] rfl ?_
    exact tX6_writeAmount_87 O hf h
  · replace h := ine hc h
    refine g_aload_n (pc' := 70) 1 O dX6_writeAmount_69 rfl rfl rfl ?_
    replace h := ob h; obtain ⟨v3, ev3, h⟩ := h
    refine g_getF (C := RX1) (T := TX1) (N := 8) (ci := 0) (k := 5) (pc' := 73) O dX6_writeAmount_70 rfl inX1 (by decide) tw_225 (gI_F ev3) rfl ?_
    refine g_if_eq (tgt := 87) (pc' := 76) O dX6_writeAmount_73 (by decide) rfl (fun hc => ?_) (fun hc => ?_)
    · replace h := ip hc h
      refine g_sub (lv' := [(0, .ref x0), (1, .ref x1), (6, .int x6)]) [0, 1, 5] rfl ?_
      exact tX6_writeAmount_87 O hf h
    · replace h := ine hc h
      refine g_aload_n (pc' := 77) 0 O dX6_writeAmount_76 rfl rfl rfl ?_
      refine g_bipush (v := 32) (pc' := 79) O dX6_writeAmount_77 (by decide) rfl ?_
      replace h := ob h; obtain ⟨u4, eu4, h⟩ := h
      replace h := ob h; obtain ⟨r5, er5, h⟩ := h
      refine g_callV (y := yX4_add) (ν := mX4_add) (n := 1) (As := [.int (32 : Int32)]) (b := x0) (st := []) (M2 := r5) (r1 := none) (pc' := 82) O dX6_writeAmount_79 tw_264 tw_55 tw_262 tw_263 tw_466 hyX4_add rfl rfl eu4 (okX4_add er5) (Nat.le_of_ble_eq_true rfl) ⟨Nat.le_of_ble_eq_true rfl, Nat.le_of_ble_eq_true rfl⟩ ⟨Nat.le_of_ble_eq_true rfl, Nat.le_of_ble_eq_true rfl⟩ rfl ?_
      show G κ mX6_writeAmount 0 0 82 [(0, .ref x0), (1, .ref x1), (2, .int x2), (3, .long x3), (5, .int x5), (6, .int x6)] [] r5
      refine g_aload_n (pc' := 83) 0 O dX6_writeAmount_82 rfl rfl rfl ?_
      refine g_aload_n (pc' := 84) 1 O dX6_writeAmount_83 rfl rfl rfl ?_
      replace h := ob h; obtain ⟨r6, er6, h⟩ := h
      refine g_callS (y := yX6_addMark) (ν := mX6_addMark) (n := 2) (As := [.ref x0, .ref x1]) (b := 0) (st := []) (M2 := r6) (r1 := none) (pc' := 87) O dX6_writeAmount_84 tw_495 tw_61 tw_494 tw_493 hyX6_addMark rfl (okX6_addMark er6) (Nat.le_of_ble_eq_true rfl) ⟨Nat.le_of_ble_eq_true rfl, Nat.le_of_ble_eq_true rfl⟩ ⟨Nat.le_of_ble_eq_true rfl, Nat.le_of_ble_eq_true rfl⟩ rfl ?_
      show G κ mX6_writeAmount 0 0 87 [(0, .ref x0), (1, .ref x1), (2, .int x2), (3, .long x3), (5, .int x5), (6, .int x6)] [] r6
      refine g_sub (lv' := [(0, .ref x0), (1, .ref x1), (6, .int x6)]) [0, 1, 5] rfl ?_
      exact tX6_writeAmount_87 O hf h
def fX6_writeAmount_38  (x0 : Nat) (x1 : Nat) (x2 : Int32) (x3 : Int64) (x5 : Int32) (x6 : Int32) (M : Mem) : Option (Mem) :=
  if x2 = 0 then (fX6_writeAmount_54 x0 x1 x2 x3 x5 x6 M)
  else ((gI M 0 x1 5).bind fun v1 =>
  if v1 = 0 then ((fX6_addMark x0 x1 M).bind fun r2 =>
  fX6_writeAmount_54 x0 x1 x2 x3 x5 x6 r2)
  else (fX6_writeAmount_54 x0 x1 x2 x3 x5 x6 M))
set_option maxHeartbeats 4000000 in
set_option maxRecDepth 100000 in
theorem tX6_writeAmount_38 {κ : KT} {p : Mem} (O : OkK κ mX6_writeAmount) (hf : κ.2.2.2.2.2.2.2.2.2.2.2.2.2 = (none, p))  {x0 : Nat} {x1 : Nat} {x2 : Int32} {x3 : Int64} {x5 : Int32} {x6 : Int32} {M : Mem} (h : fX6_writeAmount_38  x0 x1 x2 x3 x5 x6 M = some p) : G κ mX6_writeAmount 0 0 38 [(0, .ref x0), (1, .ref x1), (2, .int x2), (3, .long x3), (5, .int x5), (6, .int x6)] [] M := by
  unfold fX6_writeAmount_38 at h
  refine g_iload_n (pc' := 39) 2 O dX6_writeAmount_38 rfl rfl rfl ?_
  refine g_if_eq (tgt := 54) (pc' := 42) O dX6_writeAmount_39 (by decide) rfl (fun hc => ?_) (fun hc => ?_)
  · replace h := ip hc h
    exact tX6_writeAmount_54 O hf h
  · replace h := ine hc h
    refine g_aload_n (pc' := 43) 1 O dX6_writeAmount_42 rfl rfl rfl ?_
    replace h := ob h; obtain ⟨v1, ev1, h⟩ := h
    refine g_getF (C := RX1) (T := TX1) (N := 8) (ci := 0) (k := 5) (pc' := 46) O dX6_writeAmount_43 rfl inX1 (by decide) tw_225 (gI_F ev1) rfl ?_
    refine g_if_ne (tgt := 54) (pc' := 49) O dX6_writeAmount_46 (by decide) rfl (fun hc => ?_) (fun hc => ?_)
    · replace h := ine hc h
      exact tX6_writeAmount_54 O hf h
    · replace h := ip hc h
      refine g_aload_n (pc' := 50) 0 O dX6_writeAmount_49 rfl rfl rfl ?_
      refine g_aload_n (pc' := 51) 1 O dX6_writeAmount_50 rfl rfl rfl ?_
      replace h := ob h; obtain ⟨r2, er2, h⟩ := h
      refine g_callS (y := yX6_addMark) (ν := mX6_addMark) (n := 2) (As := [.ref x0, .ref x1]) (b := 0) (st := []) (M2 := r2) (r1 := none) (pc' := 54) O dX6_writeAmount_51 tw_495 tw_61 tw_494 tw_493 hyX6_addMark rfl (okX6_addMark er2) (Nat.le_of_ble_eq_true rfl) ⟨Nat.le_of_ble_eq_true rfl, Nat.le_of_ble_eq_true rfl⟩ ⟨Nat.le_of_ble_eq_true rfl, Nat.le_of_ble_eq_true rfl⟩ rfl ?_
      show G κ mX6_writeAmount 0 0 54 [(0, .ref x0), (1, .ref x1), (2, .int x2), (3, .long x3), (5, .int x5), (6, .int x6)] [] r2
      exact tX6_writeAmount_54 O hf h
def fX6_writeAmount_11  (x0 : Nat) (x1 : Nat) (x2 : Int32) (x3 : Int64) (x5 : Int32) (s0 : Int32) (M : Mem) : Option (Mem) :=
  (ck M 3 x0).bind fun u1 =>
  (fX4_empty x0 M).bind fun r2 =>
  if s0 = 0 then (fX6_writeAmount_38 x0 x1 x2 x3 x5 s0 r2)
  else ((ck r2 0 x1).bind fun u3 =>
  (fX1_minusAhead x1 r2).bind fun r4 =>
  if r4.1 = (-1 : Int32) then (fX6_writeAmount_38 x0 x1 x2 x3 x5 s0 r4.2)
  else ((ck r4.2 0 x1).bind fun u5 =>
  (fX1_minusAhead x1 r4.2).bind fun r6 =>
  (ck r6.2 3 x0).bind fun u7 =>
  (fX4_add x0 r6.1 r6.2).bind fun r8 =>
  fX6_writeAmount_38 x0 x1 x2 x3 x5 s0 r8))
set_option maxHeartbeats 4000000 in
set_option maxRecDepth 100000 in
theorem tX6_writeAmount_11 {κ : KT} {p : Mem} (O : OkK κ mX6_writeAmount) (hf : κ.2.2.2.2.2.2.2.2.2.2.2.2.2 = (none, p))  {x0 : Nat} {x1 : Nat} {x2 : Int32} {x3 : Int64} {x5 : Int32} {s0 : Int32} {M : Mem} (h : fX6_writeAmount_11  x0 x1 x2 x3 x5 s0 M = some p) : G κ mX6_writeAmount 0 0 11 [(0, .ref x0), (1, .ref x1), (2, .int x2), (3, .long x3), (5, .int x5)] [.int s0] M := by
  unfold fX6_writeAmount_11 at h
  refine g_istore (lv' := [(6, .int s0), (0, .ref x0), (1, .ref x1), (2, .int x2), (3, .long x3), (5, .int x5)]) (pc' := 13) O dX6_writeAmount_11 (by decide) rfl rfl ?_
  refine g_aload_n (pc' := 14) 1 O dX6_writeAmount_13 rfl rfl rfl ?_
  replace h := ob h; obtain ⟨u1, eu1, h⟩ := h
  replace h := ob h; obtain ⟨r2, er2, h⟩ := h
  refine g_callV (y := yX4_empty) (ν := mX4_empty) (n := 0) (As := []) (b := x0) (st := []) (M2 := r2) (r1 := none) (pc' := 17) O dX6_writeAmount_14 tw_464 tw_55 tw_462 tw_463 tw_461 hyX4_empty rfl rfl eu1 (okX4_empty er2) (Nat.le_of_ble_eq_true rfl) ⟨Nat.le_of_ble_eq_true rfl, Nat.le_of_ble_eq_true rfl⟩ ⟨Nat.le_of_ble_eq_true rfl, Nat.le_of_ble_eq_true rfl⟩ rfl ?_
  show G κ mX6_writeAmount 0 0 17 [(6, .int s0), (0, .ref x0), (1, .ref x1), (2, .int x2), (3, .long x3), (5, .int x5)] [] r2
  refine g_iload (pc' := 19) 0 O dX6_writeAmount_17 rfl rfl ?_
  refine g_if_eq (tgt := 38) (pc' := 22) O dX6_writeAmount_19 (by decide) rfl (fun hc => ?_) (fun hc => ?_)
  · replace h := ip hc h
    refine g_sub (lv' := [(0, .ref x0), (1, .ref x1), (2, .int x2), (3, .long x3), (5, .int x5), (6, .int s0)]) [1, 2, 3, 4, 5, 0] rfl ?_
    exact tX6_writeAmount_38 O hf h
  · replace h := ine hc h
    refine g_aload_n (pc' := 23) 2 O dX6_writeAmount_22 rfl rfl rfl ?_
    replace h := ob h; obtain ⟨u3, eu3, h⟩ := h
    replace h := ob h; obtain ⟨r4, er4, h⟩ := h
    refine g_callV (y := yX1_minusAhead) (ν := mX1_minusAhead) (n := 0) (As := []) (b := x1) (st := []) (M2 := r4.2) (r1 := (some (.int r4.1))) (pc' := 26) O dX6_writeAmount_23 tw_391 tw_59 tw_389 tw_390 tw_492 hyX1_minusAhead rfl rfl eu3 (okX1_minusAhead er4) (Nat.le_of_ble_eq_true rfl) ⟨Nat.le_of_ble_eq_true rfl, Nat.le_of_ble_eq_true rfl⟩ ⟨Nat.le_of_ble_eq_true rfl, Nat.le_of_ble_eq_true rfl⟩ rfl ?_
    show G κ mX6_writeAmount 0 0 26 [(6, .int s0), (0, .ref x0), (1, .ref x1), (2, .int x2), (3, .long x3), (5, .int x5)] [.int r4.1] r4.2
    refine g_iconst (v := -1) (pc' := 27) O dX6_writeAmount_26 (by decide) rfl ?_
    refine g_icmp_eq (tgt := 38) (pc' := 30) O dX6_writeAmount_27 (by decide) rfl (fun hc => ?_) (fun hc => ?_)
    · replace h := ip hc h
      refine g_sub (lv' := [(0, .ref x0), (1, .ref x1), (2, .int x2), (3, .long x3), (5, .int x5), (6, .int s0)]) [1, 2, 3, 4, 5, 0] rfl ?_
      exact tX6_writeAmount_38 O hf h
    · replace h := ine hc h
      refine g_aload_n (pc' := 31) 1 O dX6_writeAmount_30 rfl rfl rfl ?_
      refine g_aload_n (pc' := 32) 2 O dX6_writeAmount_31 rfl rfl rfl ?_
      replace h := ob h; obtain ⟨u5, eu5, h⟩ := h
      replace h := ob h; obtain ⟨r6, er6, h⟩ := h
      refine g_callV (y := yX1_minusAhead) (ν := mX1_minusAhead) (n := 0) (As := []) (b := x1) (st := [.ref x0]) (M2 := r6.2) (r1 := (some (.int r6.1))) (pc' := 35) O dX6_writeAmount_32 tw_391 tw_59 tw_389 tw_390 tw_492 hyX1_minusAhead rfl rfl eu5 (okX1_minusAhead er6) (Nat.le_of_ble_eq_true rfl) ⟨Nat.le_of_ble_eq_true rfl, Nat.le_of_ble_eq_true rfl⟩ ⟨Nat.le_of_ble_eq_true rfl, Nat.le_of_ble_eq_true rfl⟩ rfl ?_
      show G κ mX6_writeAmount 0 0 35 [(6, .int s0), (0, .ref x0), (1, .ref x1), (2, .int x2), (3, .long x3), (5, .int x5)] [.int r6.1, .ref x0] r6.2
      replace h := ob h; obtain ⟨u7, eu7, h⟩ := h
      replace h := ob h; obtain ⟨r8, er8, h⟩ := h
      refine g_callV (y := yX4_add) (ν := mX4_add) (n := 1) (As := [.int r6.1]) (b := x0) (st := []) (M2 := r8) (r1 := none) (pc' := 38) O dX6_writeAmount_35 tw_264 tw_55 tw_262 tw_263 tw_466 hyX4_add rfl rfl eu7 (okX4_add er8) (Nat.le_of_ble_eq_true rfl) ⟨Nat.le_of_ble_eq_true rfl, Nat.le_of_ble_eq_true rfl⟩ ⟨Nat.le_of_ble_eq_true rfl, Nat.le_of_ble_eq_true rfl⟩ rfl ?_
      show G κ mX6_writeAmount 0 0 38 [(6, .int s0), (0, .ref x0), (1, .ref x1), (2, .int x2), (3, .long x3), (5, .int x5)] [] r8
      refine g_sub (lv' := [(0, .ref x0), (1, .ref x1), (2, .int x2), (3, .long x3), (5, .int x5), (6, .int s0)]) [1, 2, 3, 4, 5, 0] rfl ?_
      exact tX6_writeAmount_38 O hf h
def fX6_writeAmount  (p0 : Nat) (p1 : Nat) (p2 : Int32) (p3 : Int64) (p4 : Int32) (M : Mem) : Option (Mem) :=
  if 0 ≤ (lg_cmp p3 (0 : Int64)) then (fX6_writeAmount_11 p0 p1 p2 p3 p4 (0 : Int32) M)
  else (fX6_writeAmount_11 p0 p1 p2 p3 p4 (1 : Int32) M)
set_option maxHeartbeats 4000000 in
set_option maxRecDepth 100000 in
theorem okX6_writeAmount {l : Launch} {p : Mem} {p0 : Nat} {p1 : Nat} {p2 : Int32} {p3 : Int64} {p4 : Int32} {M : Mem} (h : fX6_writeAmount p0 p1 p2 p3 p4 M = some p) : Cn l yX6_writeAmount mX6_writeAmount [.ref p0, .ref p1, .int p2, .long p3, .int p4] M none p := by
  refine Cn.of [(0, .ref p0), (1, .ref p1), (2, .int p2), (3, .long p3), (5, .int p4)] (by decide) rfl rfl (Nat.le_of_ble_eq_true rfl) rfl (fun κ _ hf O => ?_)
  unfold fX6_writeAmount at h
  refine g_lload_n (pc' := 1) 3 O dX6_writeAmount_0 rfl rfl rfl ?_
  refine g_lconst (v := 0) (pc' := 2) O dX6_writeAmount_1 (by decide) rfl ?_
  refine g_lcmp (pc' := 3) O dX6_writeAmount_2 rfl ?_
  refine g_if_ge (tgt := 10) (pc' := 6) O dX6_writeAmount_3 (by decide) rfl (fun hc => ?_) (fun hc => ?_)
  · replace h := ip hc h
    refine g_iconst (v := 0) (pc' := 11) O dX6_writeAmount_10 (by decide) rfl ?_
    exact tX6_writeAmount_11 O hf h
  · replace h := ine hc h
    refine g_iconst (v := 1) (pc' := 7) O dX6_writeAmount_6 (by decide) rfl ?_
    refine g_goto (pc' := 11) O dX6_writeAmount_7 (by decide) ?_
    exact tX6_writeAmount_11 O hf h
