abbrev mX8_copy : MD := (cX8_copy, 4, RX8, none, { frames := 1, cells := 0, slots := 0, locals := 24 }, "copy")
theorem hyX8_copy : yX8_copy.cls ≠ "java/lang/invoke/MethodHandle" ∧ yX8_copy.cls ≠ "java/lang/invoke/VarHandle" ∧ (parseMethodDescriptor yX8_copy.desc).map (fun d => d.parameters.length) = some 2 := by decide +kernel
def fX8_copy_242  : Nat → Nat → Int32 → Int32 → Int32 → Mem → Option (Mem)
  | 0, _, _, _, _, _ => none
  | n + 1, x0, x1, x2, x3, M =>
    if (1800 : Int32) ≤ x3 then (some M)
    else ((gN M 5 x0 16).bind fun v1 =>
    (gN M 5 x0 16).bind fun v2 =>
    (aB M v2 (((1800 : Int32) * x1) + x3)).bind fun v3 =>
    (sB M v1 (((1800 : Int32) * x2) + x3) v3).bind fun M4 =>
    fX8_copy_242 n x0 x1 x2 (x3 + (1 : Int32)) M4)
set_option maxHeartbeats 4000000 in
set_option maxRecDepth 100000 in
theorem tX8_copy_242 {κ : KT} {p : Mem} (O : OkK κ mX8_copy) (hf : κ.2.2.2.2.2.2.2.2.2.2.2.2.2 = (none, p))  : ∀ (n : Nat) (x0 : Nat) (x1 : Int32) (x2 : Int32) (x3 : Int32) (M : Mem), fX8_copy_242  n x0 x1 x2 x3 M = some p → G κ mX8_copy 0 0 242 [(0, .ref x0), (1, .int x1), (2, .int x2), (3, .int x3)] [] M := by
  intro n
  induction n with
  | zero => intro x0 x1 x2 x3 M h; cases h
  | succ n ih =>
    intro x0 x1 x2 x3 M h
    rw [fX8_copy_242] at h
    refine g_iload_n (pc' := 243) 3 O dX8_copy_242 rfl rfl rfl ?_
    refine g_sipush (v := 1800) (pc' := 246) O dX8_copy_243 (by decide) rfl ?_
    refine g_icmp_ge (tgt := 279) (pc' := 249) O dX8_copy_246 (by decide) rfl (fun hc => ?_) (fun hc => ?_)
    · replace h := ip hc h
      cases h
      exact g_vreturn O dX8_copy_279 rfl hf (by decide) (by decide)
    · replace h := ine hc h
      refine g_aload_n (pc' := 250) 0 O dX8_copy_249 rfl rfl rfl ?_
      replace h := ob h; obtain ⟨v1, ev1, h⟩ := h
      refine g_getF (C := RX8) (T := TX8) (N := 29) (ci := 5) (k := 16) (pc' := 253) O dX8_copy_250 rfl inX8 (by decide) tw_732 (gN_F ev1) rfl ?_
      refine g_sipush (v := 1800) (pc' := 256) O dX8_copy_253 (by decide) rfl ?_
      refine g_iload_n (pc' := 257) 2 O dX8_copy_256 rfl rfl rfl ?_
      refine g_imul (pc' := 258) O dX8_copy_257 rfl ?_
      refine g_iload_n (pc' := 259) 3 O dX8_copy_258 rfl rfl rfl ?_
      refine g_iadd (pc' := 260) O dX8_copy_259 rfl ?_
      refine g_aload_n (pc' := 261) 0 O dX8_copy_260 rfl rfl rfl ?_
      replace h := ob h; obtain ⟨v2, ev2, h⟩ := h
      refine g_getF (C := RX8) (T := TX8) (N := 29) (ci := 5) (k := 16) (pc' := 264) O dX8_copy_261 rfl inX8 (by decide) tw_732 (gN_F ev2) rfl ?_
      refine g_sipush (v := 1800) (pc' := 267) O dX8_copy_264 (by decide) rfl ?_
      refine g_iload_n (pc' := 268) 1 O dX8_copy_267 rfl rfl rfl ?_
      refine g_imul (pc' := 269) O dX8_copy_268 rfl ?_
      refine g_iload_n (pc' := 270) 3 O dX8_copy_269 rfl rfl rfl ?_
      refine g_iadd (pc' := 271) O dX8_copy_270 rfl ?_
      replace h := ob h; obtain ⟨v3, ev3, h⟩ := h
      refine g_bald (pc' := 272) O dX8_copy_271 ev3 rfl ?_
      replace h := ob h; obtain ⟨M4, eM4, h⟩ := h
      refine g_bast (pc' := 273) O dX8_copy_272 eM4 rfl ?_
      refine g_iinc (q := 3) (v := x3 + (1 : Int32)) (lv' := [(3, .int (x3 + (1 : Int32))), (0, .ref x0), (1, .int x1), (2, .int x2)]) (pc' := 276) O dX8_copy_273 rfl rfl (by decide) rfl rfl ?_
      refine g_goto (pc' := 242) O dX8_copy_276 (by decide) ?_
      refine g_sub (lv' := [(0, .ref x0), (1, .int x1), (2, .int x2), (3, .int (x3 + (1 : Int32)))]) [1, 2, 3, 0] rfl ?_
      exact ih x0 x1 x2 (x3 + (1 : Int32)) M4 h
def fX8_copy_189  : Nat → Nat → Int32 → Int32 → Int32 → Mem → Option (Mem)
  | 0, _, _, _, _, _ => none
  | n + 1, x0, x1, x2, x3, M =>
    if (3 : Int32) ≤ x3 then (fX8_copy_242 FU x0 x1 x2 (0 : Int32) M)
    else ((gN M 5 x0 12).bind fun v1 =>
    (gN M 5 x0 12).bind fun v2 =>
    (aL M v2 (((3 : Int32) * x1) + x3)).bind fun v3 =>
    (sL M v1 (((3 : Int32) * x2) + x3) v3).bind fun M4 =>
    (gN M4 5 x0 13).bind fun v5 =>
    (gN M4 5 x0 13).bind fun v6 =>
    (aL M4 v6 (((3 : Int32) * x1) + x3)).bind fun v7 =>
    (sL M4 v5 (((3 : Int32) * x2) + x3) v7).bind fun M8 =>
    fX8_copy_189 n x0 x1 x2 (x3 + (1 : Int32)) M8)
set_option maxHeartbeats 4000000 in
set_option maxRecDepth 100000 in
theorem tX8_copy_189 {κ : KT} {p : Mem} (O : OkK κ mX8_copy) (hf : κ.2.2.2.2.2.2.2.2.2.2.2.2.2 = (none, p))  : ∀ (n : Nat) (x0 : Nat) (x1 : Int32) (x2 : Int32) (x3 : Int32) (M : Mem), fX8_copy_189  n x0 x1 x2 x3 M = some p → G κ mX8_copy 0 0 189 [(0, .ref x0), (1, .int x1), (2, .int x2), (3, .int x3)] [] M := by
  intro n
  induction n with
  | zero => intro x0 x1 x2 x3 M h; cases h
  | succ n ih =>
    intro x0 x1 x2 x3 M h
    rw [fX8_copy_189] at h
    refine g_iload_n (pc' := 190) 3 O dX8_copy_189 rfl rfl rfl ?_
    refine g_iconst (v := 3) (pc' := 191) O dX8_copy_190 (by decide) rfl ?_
    refine g_icmp_ge (tgt := 240) (pc' := 194) O dX8_copy_191 (by decide) rfl (fun hc => ?_) (fun hc => ?_)
    · replace h := ip hc h
      refine g_iconst (v := 0) (pc' := 241) O dX8_copy_240 (by decide) rfl ?_
      refine g_istore_n (lv' := [(3, .int (0 : Int32)), (0, .ref x0), (1, .int x1), (2, .int x2)]) (pc' := 242) O dX8_copy_241 rfl (by decide) rfl rfl ?_
      refine g_sub (lv' := [(0, .ref x0), (1, .int x1), (2, .int x2), (3, .int (0 : Int32))]) [1, 2, 3, 0] rfl ?_
      exact tX8_copy_242 O hf FU x0 x1 x2 (0 : Int32) M h
    · replace h := ine hc h
      refine g_aload_n (pc' := 195) 0 O dX8_copy_194 rfl rfl rfl ?_
      replace h := ob h; obtain ⟨v1, ev1, h⟩ := h
      refine g_getF (C := RX8) (T := TX8) (N := 29) (ci := 5) (k := 12) (pc' := 198) O dX8_copy_195 rfl inX8 (by decide) tw_728 (gN_F ev1) rfl ?_
      refine g_iconst (v := 3) (pc' := 199) O dX8_copy_198 (by decide) rfl ?_
      refine g_iload_n (pc' := 200) 2 O dX8_copy_199 rfl rfl rfl ?_
      refine g_imul (pc' := 201) O dX8_copy_200 rfl ?_
      refine g_iload_n (pc' := 202) 3 O dX8_copy_201 rfl rfl rfl ?_
      refine g_iadd (pc' := 203) O dX8_copy_202 rfl ?_
      refine g_aload_n (pc' := 204) 0 O dX8_copy_203 rfl rfl rfl ?_
      replace h := ob h; obtain ⟨v2, ev2, h⟩ := h
      refine g_getF (C := RX8) (T := TX8) (N := 29) (ci := 5) (k := 12) (pc' := 207) O dX8_copy_204 rfl inX8 (by decide) tw_728 (gN_F ev2) rfl ?_
      refine g_iconst (v := 3) (pc' := 208) O dX8_copy_207 (by decide) rfl ?_
      refine g_iload_n (pc' := 209) 1 O dX8_copy_208 rfl rfl rfl ?_
      refine g_imul (pc' := 210) O dX8_copy_209 rfl ?_
      refine g_iload_n (pc' := 211) 3 O dX8_copy_210 rfl rfl rfl ?_
      refine g_iadd (pc' := 212) O dX8_copy_211 rfl ?_
      replace h := ob h; obtain ⟨v3, ev3, h⟩ := h
      refine g_lald (pc' := 213) O dX8_copy_212 ev3 rfl ?_
      replace h := ob h; obtain ⟨M4, eM4, h⟩ := h
      refine g_last (pc' := 214) O dX8_copy_213 eM4 rfl ?_
      refine g_aload_n (pc' := 215) 0 O dX8_copy_214 rfl rfl rfl ?_
      replace h := ob h; obtain ⟨v5, ev5, h⟩ := h
      refine g_getF (C := RX8) (T := TX8) (N := 29) (ci := 5) (k := 13) (pc' := 218) O dX8_copy_215 rfl inX8 (by decide) tw_729 (gN_F ev5) rfl ?_
      refine g_iconst (v := 3) (pc' := 219) O dX8_copy_218 (by decide) rfl ?_
      refine g_iload_n (pc' := 220) 2 O dX8_copy_219 rfl rfl rfl ?_
      refine g_imul (pc' := 221) O dX8_copy_220 rfl ?_
      refine g_iload_n (pc' := 222) 3 O dX8_copy_221 rfl rfl rfl ?_
      refine g_iadd (pc' := 223) O dX8_copy_222 rfl ?_
      refine g_aload_n (pc' := 224) 0 O dX8_copy_223 rfl rfl rfl ?_
      replace h := ob h; obtain ⟨v6, ev6, h⟩ := h
      refine g_getF (C := RX8) (T := TX8) (N := 29) (ci := 5) (k := 13) (pc' := 227) O dX8_copy_224 rfl inX8 (by decide) tw_729 (gN_F ev6) rfl ?_
      refine g_iconst (v := 3) (pc' := 228) O dX8_copy_227 (by decide) rfl ?_
      refine g_iload_n (pc' := 229) 1 O dX8_copy_228 rfl rfl rfl ?_
      refine g_imul (pc' := 230) O dX8_copy_229 rfl ?_
      refine g_iload_n (pc' := 231) 3 O dX8_copy_230 rfl rfl rfl ?_
      refine g_iadd (pc' := 232) O dX8_copy_231 rfl ?_
      replace h := ob h; obtain ⟨v7, ev7, h⟩ := h
      refine g_lald (pc' := 233) O dX8_copy_232 ev7 rfl ?_
      replace h := ob h; obtain ⟨M8, eM8, h⟩ := h
      refine g_last (pc' := 234) O dX8_copy_233 eM8 rfl ?_
      refine g_iinc (q := 3) (v := x3 + (1 : Int32)) (lv' := [(3, .int (x3 + (1 : Int32))), (0, .ref x0), (1, .int x1), (2, .int x2)]) (pc' := 237) O dX8_copy_234 rfl rfl (by decide) rfl rfl ?_
      refine g_goto (pc' := 189) O dX8_copy_237 (by decide) ?_
      refine g_sub (lv' := [(0, .ref x0), (1, .int x1), (2, .int x2), (3, .int (x3 + (1 : Int32)))]) [1, 2, 3, 0] rfl ?_
      exact ih x0 x1 x2 (x3 + (1 : Int32)) M8 h
def fX8_copy_153  : Nat → Nat → Int32 → Int32 → Int32 → Mem → Option (Mem)
  | 0, _, _, _, _, _ => none
  | n + 1, x0, x1, x2, x3, M =>
    if (6 : Int32) ≤ x3 then (fX8_copy_189 FU x0 x1 x2 (0 : Int32) M)
    else ((gN M 5 x0 7).bind fun v1 =>
    (gN M 5 x0 7).bind fun v2 =>
    (aZ M v2 (((6 : Int32) * x1) + x3)).bind fun v3 =>
    (sZ M v1 (((6 : Int32) * x2) + x3) v3).bind fun M4 =>
    fX8_copy_153 n x0 x1 x2 (x3 + (1 : Int32)) M4)
set_option maxHeartbeats 4000000 in
set_option maxRecDepth 100000 in
theorem tX8_copy_153 {κ : KT} {p : Mem} (O : OkK κ mX8_copy) (hf : κ.2.2.2.2.2.2.2.2.2.2.2.2.2 = (none, p))  : ∀ (n : Nat) (x0 : Nat) (x1 : Int32) (x2 : Int32) (x3 : Int32) (M : Mem), fX8_copy_153  n x0 x1 x2 x3 M = some p → G κ mX8_copy 0 0 153 [(0, .ref x0), (1, .int x1), (2, .int x2), (3, .int x3)] [] M := by
  intro n
  induction n with
  | zero => intro x0 x1 x2 x3 M h; cases h
  | succ n ih =>
    intro x0 x1 x2 x3 M h
    rw [fX8_copy_153] at h
    refine g_iload_n (pc' := 154) 3 O dX8_copy_153 rfl rfl rfl ?_
    refine g_bipush (v := 6) (pc' := 156) O dX8_copy_154 (by decide) rfl ?_
    refine g_icmp_ge (tgt := 187) (pc' := 159) O dX8_copy_156 (by decide) rfl (fun hc => ?_) (fun hc => ?_)
    · replace h := ip hc h
      refine g_iconst (v := 0) (pc' := 188) O dX8_copy_187 (by decide) rfl ?_
      refine g_istore_n (lv' := [(3, .int (0 : Int32)), (0, .ref x0), (1, .int x1), (2, .int x2)]) (pc' := 189) O dX8_copy_188 rfl (by decide) rfl rfl ?_
      refine g_sub (lv' := [(0, .ref x0), (1, .int x1), (2, .int x2), (3, .int (0 : Int32))]) [1, 2, 3, 0] rfl ?_
      exact tX8_copy_189 O hf FU x0 x1 x2 (0 : Int32) M h
    · replace h := ine hc h
      refine g_aload_n (pc' := 160) 0 O dX8_copy_159 rfl rfl rfl ?_
      replace h := ob h; obtain ⟨v1, ev1, h⟩ := h
      refine g_getF (C := RX8) (T := TX8) (N := 29) (ci := 5) (k := 7) (pc' := 163) O dX8_copy_160 rfl inX8 (by decide) tw_723 (gN_F ev1) rfl ?_
      refine g_bipush (v := 6) (pc' := 165) O dX8_copy_163 (by decide) rfl ?_
      refine g_iload_n (pc' := 166) 2 O dX8_copy_165 rfl rfl rfl ?_
      refine g_imul (pc' := 167) O dX8_copy_166 rfl ?_
      refine g_iload_n (pc' := 168) 3 O dX8_copy_167 rfl rfl rfl ?_
      refine g_iadd (pc' := 169) O dX8_copy_168 rfl ?_
      refine g_aload_n (pc' := 170) 0 O dX8_copy_169 rfl rfl rfl ?_
      replace h := ob h; obtain ⟨v2, ev2, h⟩ := h
      refine g_getF (C := RX8) (T := TX8) (N := 29) (ci := 5) (k := 7) (pc' := 173) O dX8_copy_170 rfl inX8 (by decide) tw_723 (gN_F ev2) rfl ?_
      refine g_bipush (v := 6) (pc' := 175) O dX8_copy_173 (by decide) rfl ?_
      refine g_iload_n (pc' := 176) 1 O dX8_copy_175 rfl rfl rfl ?_
      refine g_imul (pc' := 177) O dX8_copy_176 rfl ?_
      refine g_iload_n (pc' := 178) 3 O dX8_copy_177 rfl rfl rfl ?_
      refine g_iadd (pc' := 179) O dX8_copy_178 rfl ?_
      replace h := ob h; obtain ⟨v3, ev3, h⟩ := h
      refine g_zald (pc' := 180) O dX8_copy_179 ev3 rfl ?_
      replace h := ob h; obtain ⟨M4, eM4, h⟩ := h
      refine g_zast (pc' := 181) O dX8_copy_180 eM4 rfl ?_
      refine g_iinc (q := 3) (v := x3 + (1 : Int32)) (lv' := [(3, .int (x3 + (1 : Int32))), (0, .ref x0), (1, .int x1), (2, .int x2)]) (pc' := 184) O dX8_copy_181 rfl rfl (by decide) rfl rfl ?_
      refine g_goto (pc' := 153) O dX8_copy_184 (by decide) ?_
      refine g_sub (lv' := [(0, .ref x0), (1, .int x1), (2, .int x2), (3, .int (x3 + (1 : Int32)))]) [1, 2, 3, 0] rfl ?_
      exact ih x0 x1 x2 (x3 + (1 : Int32)) M4 h
def fX8_copy  (this : Nat) (p0 : Int32) (p1 : Int32) (M : Mem) : Option (Mem) :=
  (gN M 5 this 1).bind fun v1 =>
  (fX8_move v1 (1 : Int32) p0 p1 M).bind fun r2 =>
  (gN r2 5 this 2).bind fun v3 =>
  (fX8_move v3 (6 : Int32) p0 p1 r2).bind fun r4 =>
  (gN r4 5 this 3).bind fun v5 =>
  (fX8_move v5 (6 : Int32) p0 p1 r4).bind fun r6 =>
  (gN r6 5 this 4).bind fun v7 =>
  (fX8_move v7 (6 : Int32) p0 p1 r6).bind fun r8 =>
  (gN r8 5 this 5).bind fun v9 =>
  (fX8_move v9 (6 : Int32) p0 p1 r8).bind fun r10 =>
  (gN r10 5 this 6).bind fun v11 =>
  (fX8_move v11 (6 : Int32) p0 p1 r10).bind fun r12 =>
  (gN r12 5 this 8).bind fun v13 =>
  (fX8_move v13 (6 : Int32) p0 p1 r12).bind fun r14 =>
  (gN r14 5 this 9).bind fun v15 =>
  (fX8_move v15 (6 : Int32) p0 p1 r14).bind fun r16 =>
  (gN r16 5 this 10).bind fun v17 =>
  (fX8_move v17 (1 : Int32) p0 p1 r16).bind fun r18 =>
  (gN r18 5 this 11).bind fun v19 =>
  (fX8_move v19 (60 : Int32) p0 p1 r18).bind fun r20 =>
  (gN r20 5 this 14).bind fun v21 =>
  (fX8_move v21 (1 : Int32) p0 p1 r20).bind fun r22 =>
  (gN r22 5 this 15).bind fun v23 =>
  (fX8_move v23 (30 : Int32) p0 p1 r22).bind fun r24 =>
  (gN r24 5 this 17).bind fun v25 =>
  (fX8_move v25 (1 : Int32) p0 p1 r24).bind fun r26 =>
  (gN r26 5 this 18).bind fun v27 =>
  (fX8_move v27 (160 : Int32) p0 p1 r26).bind fun r28 =>
  fX8_copy_153 FU this p0 p1 (0 : Int32) r28
set_option maxHeartbeats 4000000 in
set_option maxRecDepth 100000 in
theorem okX8_copy {l : Launch} {p : Mem} {this : Nat} {p0 : Int32} {p1 : Int32} {M : Mem} (h : fX8_copy this p0 p1 M = some p) : Cn l yX8_copy mX8_copy [.ref this, .int p0, .int p1] M none p := by
  refine Cn.of [(0, .ref this), (1, .int p0), (2, .int p1)] (by decide) rfl rfl (Nat.le_of_ble_eq_true rfl) rfl (fun κ _ hf O => ?_)
  unfold fX8_copy at h
  refine g_aload_n (pc' := 1) 0 O dX8_copy_0 rfl rfl rfl ?_
  replace h := ob h; obtain ⟨v1, ev1, h⟩ := h
  refine g_getF (C := RX8) (T := TX8) (N := 29) (ci := 5) (k := 1) (pc' := 4) O dX8_copy_1 rfl inX8 (by decide) tw_717 (gN_F ev1) rfl ?_
  refine g_iconst (v := 1) (pc' := 5) O dX8_copy_4 (by decide) rfl ?_
  refine g_iload_n (pc' := 6) 1 O dX8_copy_5 rfl rfl rfl ?_
  refine g_iload_n (pc' := 7) 2 O dX8_copy_6 rfl rfl rfl ?_
  replace h := ob h; obtain ⟨r2, er2, h⟩ := h
  refine g_callS (y := yX8_move) (ν := mX8_move) (n := 4) (As := [.ref v1, .int (1 : Int32), .int p0, .int p1]) (b := 0) (st := []) (M2 := r2) (r1 := none) (pc' := 10) O dX8_copy_7 tw_1085 tw_58 tw_1084 tw_1083 hyX8_move rfl (okX8_move er2) (Nat.le_of_ble_eq_true rfl) ⟨Nat.le_of_ble_eq_true rfl, Nat.le_of_ble_eq_true rfl⟩ ⟨Nat.le_of_ble_eq_true rfl, Nat.le_of_ble_eq_true rfl⟩ rfl ?_
  show G κ mX8_copy 0 0 10 [(0, .ref this), (1, .int p0), (2, .int p1)] [] r2
  refine g_aload_n (pc' := 11) 0 O dX8_copy_10 rfl rfl rfl ?_
  replace h := ob h; obtain ⟨v3, ev3, h⟩ := h
  refine g_getF (C := RX8) (T := TX8) (N := 29) (ci := 5) (k := 2) (pc' := 14) O dX8_copy_11 rfl inX8 (by decide) tw_718 (gN_F ev3) rfl ?_
  refine g_bipush (v := 6) (pc' := 16) O dX8_copy_14 (by decide) rfl ?_
  refine g_iload_n (pc' := 17) 1 O dX8_copy_16 rfl rfl rfl ?_
  refine g_iload_n (pc' := 18) 2 O dX8_copy_17 rfl rfl rfl ?_
  replace h := ob h; obtain ⟨r4, er4, h⟩ := h
  refine g_callS (y := yX8_move) (ν := mX8_move) (n := 4) (As := [.ref v3, .int (6 : Int32), .int p0, .int p1]) (b := 0) (st := []) (M2 := r4) (r1 := none) (pc' := 21) O dX8_copy_18 tw_1085 tw_58 tw_1084 tw_1083 hyX8_move rfl (okX8_move er4) (Nat.le_of_ble_eq_true rfl) ⟨Nat.le_of_ble_eq_true rfl, Nat.le_of_ble_eq_true rfl⟩ ⟨Nat.le_of_ble_eq_true rfl, Nat.le_of_ble_eq_true rfl⟩ rfl ?_
  show G κ mX8_copy 0 0 21 [(0, .ref this), (1, .int p0), (2, .int p1)] [] r4
  refine g_aload_n (pc' := 22) 0 O dX8_copy_21 rfl rfl rfl ?_
  replace h := ob h; obtain ⟨v5, ev5, h⟩ := h
  refine g_getF (C := RX8) (T := TX8) (N := 29) (ci := 5) (k := 3) (pc' := 25) O dX8_copy_22 rfl inX8 (by decide) tw_719 (gN_F ev5) rfl ?_
  refine g_bipush (v := 6) (pc' := 27) O dX8_copy_25 (by decide) rfl ?_
  refine g_iload_n (pc' := 28) 1 O dX8_copy_27 rfl rfl rfl ?_
  refine g_iload_n (pc' := 29) 2 O dX8_copy_28 rfl rfl rfl ?_
  replace h := ob h; obtain ⟨r6, er6, h⟩ := h
  refine g_callS (y := yX8_move) (ν := mX8_move) (n := 4) (As := [.ref v5, .int (6 : Int32), .int p0, .int p1]) (b := 0) (st := []) (M2 := r6) (r1 := none) (pc' := 32) O dX8_copy_29 tw_1085 tw_58 tw_1084 tw_1083 hyX8_move rfl (okX8_move er6) (Nat.le_of_ble_eq_true rfl) ⟨Nat.le_of_ble_eq_true rfl, Nat.le_of_ble_eq_true rfl⟩ ⟨Nat.le_of_ble_eq_true rfl, Nat.le_of_ble_eq_true rfl⟩ rfl ?_
  show G κ mX8_copy 0 0 32 [(0, .ref this), (1, .int p0), (2, .int p1)] [] r6
  refine g_aload_n (pc' := 33) 0 O dX8_copy_32 rfl rfl rfl ?_
  replace h := ob h; obtain ⟨v7, ev7, h⟩ := h
  refine g_getF (C := RX8) (T := TX8) (N := 29) (ci := 5) (k := 4) (pc' := 36) O dX8_copy_33 rfl inX8 (by decide) tw_720 (gN_F ev7) rfl ?_
  refine g_bipush (v := 6) (pc' := 38) O dX8_copy_36 (by decide) rfl ?_
  refine g_iload_n (pc' := 39) 1 O dX8_copy_38 rfl rfl rfl ?_
  refine g_iload_n (pc' := 40) 2 O dX8_copy_39 rfl rfl rfl ?_
  replace h := ob h; obtain ⟨r8, er8, h⟩ := h
  refine g_callS (y := yX8_move) (ν := mX8_move) (n := 4) (As := [.ref v7, .int (6 : Int32), .int p0, .int p1]) (b := 0) (st := []) (M2 := r8) (r1 := none) (pc' := 43) O dX8_copy_40 tw_1085 tw_58 tw_1084 tw_1083 hyX8_move rfl (okX8_move er8) (Nat.le_of_ble_eq_true rfl) ⟨Nat.le_of_ble_eq_true rfl, Nat.le_of_ble_eq_true rfl⟩ ⟨Nat.le_of_ble_eq_true rfl, Nat.le_of_ble_eq_true rfl⟩ rfl ?_
  show G κ mX8_copy 0 0 43 [(0, .ref this), (1, .int p0), (2, .int p1)] [] r8
  refine g_aload_n (pc' := 44) 0 O dX8_copy_43 rfl rfl rfl ?_
  replace h := ob h; obtain ⟨v9, ev9, h⟩ := h
  refine g_getF (C := RX8) (T := TX8) (N := 29) (ci := 5) (k := 5) (pc' := 47) O dX8_copy_44 rfl inX8 (by decide) tw_721 (gN_F ev9) rfl ?_
  refine g_bipush (v := 6) (pc' := 49) O dX8_copy_47 (by decide) rfl ?_
  refine g_iload_n (pc' := 50) 1 O dX8_copy_49 rfl rfl rfl ?_
  refine g_iload_n (pc' := 51) 2 O dX8_copy_50 rfl rfl rfl ?_
  replace h := ob h; obtain ⟨r10, er10, h⟩ := h
  refine g_callS (y := yX8_move) (ν := mX8_move) (n := 4) (As := [.ref v9, .int (6 : Int32), .int p0, .int p1]) (b := 0) (st := []) (M2 := r10) (r1 := none) (pc' := 54) O dX8_copy_51 tw_1085 tw_58 tw_1084 tw_1083 hyX8_move rfl (okX8_move er10) (Nat.le_of_ble_eq_true rfl) ⟨Nat.le_of_ble_eq_true rfl, Nat.le_of_ble_eq_true rfl⟩ ⟨Nat.le_of_ble_eq_true rfl, Nat.le_of_ble_eq_true rfl⟩ rfl ?_
  show G κ mX8_copy 0 0 54 [(0, .ref this), (1, .int p0), (2, .int p1)] [] r10
  refine g_aload_n (pc' := 55) 0 O dX8_copy_54 rfl rfl rfl ?_
  replace h := ob h; obtain ⟨v11, ev11, h⟩ := h
  refine g_getF (C := RX8) (T := TX8) (N := 29) (ci := 5) (k := 6) (pc' := 58) O dX8_copy_55 rfl inX8 (by decide) tw_722 (gN_F ev11) rfl ?_
  refine g_bipush (v := 6) (pc' := 60) O dX8_copy_58 (by decide) rfl ?_
  refine g_iload_n (pc' := 61) 1 O dX8_copy_60 rfl rfl rfl ?_
  refine g_iload_n (pc' := 62) 2 O dX8_copy_61 rfl rfl rfl ?_
  replace h := ob h; obtain ⟨r12, er12, h⟩ := h
  refine g_callS (y := yX8_move) (ν := mX8_move) (n := 4) (As := [.ref v11, .int (6 : Int32), .int p0, .int p1]) (b := 0) (st := []) (M2 := r12) (r1 := none) (pc' := 65) O dX8_copy_62 tw_1085 tw_58 tw_1084 tw_1083 hyX8_move rfl (okX8_move er12) (Nat.le_of_ble_eq_true rfl) ⟨Nat.le_of_ble_eq_true rfl, Nat.le_of_ble_eq_true rfl⟩ ⟨Nat.le_of_ble_eq_true rfl, Nat.le_of_ble_eq_true rfl⟩ rfl ?_
  show G κ mX8_copy 0 0 65 [(0, .ref this), (1, .int p0), (2, .int p1)] [] r12
  refine g_aload_n (pc' := 66) 0 O dX8_copy_65 rfl rfl rfl ?_
  replace h := ob h; obtain ⟨v13, ev13, h⟩ := h
  refine g_getF (C := RX8) (T := TX8) (N := 29) (ci := 5) (k := 8) (pc' := 69) O dX8_copy_66 rfl inX8 (by decide) tw_724 (gN_F ev13) rfl ?_
  refine g_bipush (v := 6) (pc' := 71) O dX8_copy_69 (by decide) rfl ?_
  refine g_iload_n (pc' := 72) 1 O dX8_copy_71 rfl rfl rfl ?_
  refine g_iload_n (pc' := 73) 2 O dX8_copy_72 rfl rfl rfl ?_
  replace h := ob h; obtain ⟨r14, er14, h⟩ := h
  refine g_callS (y := yX8_move) (ν := mX8_move) (n := 4) (As := [.ref v13, .int (6 : Int32), .int p0, .int p1]) (b := 0) (st := []) (M2 := r14) (r1 := none) (pc' := 76) O dX8_copy_73 tw_1085 tw_58 tw_1084 tw_1083 hyX8_move rfl (okX8_move er14) (Nat.le_of_ble_eq_true rfl) ⟨Nat.le_of_ble_eq_true rfl, Nat.le_of_ble_eq_true rfl⟩ ⟨Nat.le_of_ble_eq_true rfl, Nat.le_of_ble_eq_true rfl⟩ rfl ?_
  show G κ mX8_copy 0 0 76 [(0, .ref this), (1, .int p0), (2, .int p1)] [] r14
  refine g_aload_n (pc' := 77) 0 O dX8_copy_76 rfl rfl rfl ?_
  replace h := ob h; obtain ⟨v15, ev15, h⟩ := h
  refine g_getF (C := RX8) (T := TX8) (N := 29) (ci := 5) (k := 9) (pc' := 80) O dX8_copy_77 rfl inX8 (by decide) tw_725 (gN_F ev15) rfl ?_
  refine g_bipush (v := 6) (pc' := 82) O dX8_copy_80 (by decide) rfl ?_
  refine g_iload_n (pc' := 83) 1 O dX8_copy_82 rfl rfl rfl ?_
  refine g_iload_n (pc' := 84) 2 O dX8_copy_83 rfl rfl rfl ?_
  replace h := ob h; obtain ⟨r16, er16, h⟩ := h
  refine g_callS (y := yX8_move) (ν := mX8_move) (n := 4) (As := [.ref v15, .int (6 : Int32), .int p0, .int p1]) (b := 0) (st := []) (M2 := r16) (r1 := none) (pc' := 87) O dX8_copy_84 tw_1085 tw_58 tw_1084 tw_1083 hyX8_move rfl (okX8_move er16) (Nat.le_of_ble_eq_true rfl) ⟨Nat.le_of_ble_eq_true rfl, Nat.le_of_ble_eq_true rfl⟩ ⟨Nat.le_of_ble_eq_true rfl, Nat.le_of_ble_eq_true rfl⟩ rfl ?_
  show G κ mX8_copy 0 0 87 [(0, .ref this), (1, .int p0), (2, .int p1)] [] r16
  refine g_aload_n (pc' := 88) 0 O dX8_copy_87 rfl rfl rfl ?_
  replace h := ob h; obtain ⟨v17, ev17, h⟩ := h
  refine g_getF (C := RX8) (T := TX8) (N := 29) (ci := 5) (k := 10) (pc' := 91) O dX8_copy_88 rfl inX8 (by decide) tw_726 (gN_F ev17) rfl ?_
  refine g_iconst (v := 1) (pc' := 92) O dX8_copy_91 (by decide) rfl ?_
  refine g_iload_n (pc' := 93) 1 O dX8_copy_92 rfl rfl rfl ?_
  refine g_iload_n (pc' := 94) 2 O dX8_copy_93 rfl rfl rfl ?_
  replace h := ob h; obtain ⟨r18, er18, h⟩ := h
  refine g_callS (y := yX8_move) (ν := mX8_move) (n := 4) (As := [.ref v17, .int (1 : Int32), .int p0, .int p1]) (b := 0) (st := []) (M2 := r18) (r1 := none) (pc' := 97) O dX8_copy_94 tw_1085 tw_58 tw_1084 tw_1083 hyX8_move rfl (okX8_move er18) (Nat.le_of_ble_eq_true rfl) ⟨Nat.le_of_ble_eq_true rfl, Nat.le_of_ble_eq_true rfl⟩ ⟨Nat.le_of_ble_eq_true rfl, Nat.le_of_ble_eq_true rfl⟩ rfl ?_
  show G κ mX8_copy 0 0 97 [(0, .ref this), (1, .int p0), (2, .int p1)] [] r18
  refine g_aload_n (pc' := 98) 0 O dX8_copy_97 rfl rfl rfl ?_
  replace h := ob h; obtain ⟨v19, ev19, h⟩ := h
  refine g_getF (C := RX8) (T := TX8) (N := 29) (ci := 5) (k := 11) (pc' := 101) O dX8_copy_98 rfl inX8 (by decide) tw_727 (gN_F ev19) rfl ?_
  refine g_bipush (v := 60) (pc' := 103) O dX8_copy_101 (by decide) rfl ?_
  refine g_iload_n (pc' := 104) 1 O dX8_copy_103 rfl rfl rfl ?_
  refine g_iload_n (pc' := 105) 2 O dX8_copy_104 rfl rfl rfl ?_
  replace h := ob h; obtain ⟨r20, er20, h⟩ := h
  refine g_callS (y := yX8_move) (ν := mX8_move) (n := 4) (As := [.ref v19, .int (60 : Int32), .int p0, .int p1]) (b := 0) (st := []) (M2 := r20) (r1 := none) (pc' := 108) O dX8_copy_105 tw_1085 tw_58 tw_1084 tw_1083 hyX8_move rfl (okX8_move er20) (Nat.le_of_ble_eq_true rfl) ⟨Nat.le_of_ble_eq_true rfl, Nat.le_of_ble_eq_true rfl⟩ ⟨Nat.le_of_ble_eq_true rfl, Nat.le_of_ble_eq_true rfl⟩ rfl ?_
  show G κ mX8_copy 0 0 108 [(0, .ref this), (1, .int p0), (2, .int p1)] [] r20
  refine g_aload_n (pc' := 109) 0 O dX8_copy_108 rfl rfl rfl ?_
  replace h := ob h; obtain ⟨v21, ev21, h⟩ := h
  refine g_getF (C := RX8) (T := TX8) (N := 29) (ci := 5) (k := 14) (pc' := 112) O dX8_copy_109 rfl inX8 (by decide) tw_730 (gN_F ev21) rfl ?_
  refine g_iconst (v := 1) (pc' := 113) O dX8_copy_112 (by decide) rfl ?_
  refine g_iload_n (pc' := 114) 1 O dX8_copy_113 rfl rfl rfl ?_
  refine g_iload_n (pc' := 115) 2 O dX8_copy_114 rfl rfl rfl ?_
  replace h := ob h; obtain ⟨r22, er22, h⟩ := h
  refine g_callS (y := yX8_move) (ν := mX8_move) (n := 4) (As := [.ref v21, .int (1 : Int32), .int p0, .int p1]) (b := 0) (st := []) (M2 := r22) (r1 := none) (pc' := 118) O dX8_copy_115 tw_1085 tw_58 tw_1084 tw_1083 hyX8_move rfl (okX8_move er22) (Nat.le_of_ble_eq_true rfl) ⟨Nat.le_of_ble_eq_true rfl, Nat.le_of_ble_eq_true rfl⟩ ⟨Nat.le_of_ble_eq_true rfl, Nat.le_of_ble_eq_true rfl⟩ rfl ?_
  show G κ mX8_copy 0 0 118 [(0, .ref this), (1, .int p0), (2, .int p1)] [] r22
  refine g_aload_n (pc' := 119) 0 O dX8_copy_118 rfl rfl rfl ?_
  replace h := ob h; obtain ⟨v23, ev23, h⟩ := h
  refine g_getF (C := RX8) (T := TX8) (N := 29) (ci := 5) (k := 15) (pc' := 122) O dX8_copy_119 rfl inX8 (by decide) tw_731 (gN_F ev23) rfl ?_
  refine g_bipush (v := 30) (pc' := 124) O dX8_copy_122 (by decide) rfl ?_
  refine g_iload_n (pc' := 125) 1 O dX8_copy_124 rfl rfl rfl ?_
  refine g_iload_n (pc' := 126) 2 O dX8_copy_125 rfl rfl rfl ?_
  replace h := ob h; obtain ⟨r24, er24, h⟩ := h
  refine g_callS (y := yX8_move) (ν := mX8_move) (n := 4) (As := [.ref v23, .int (30 : Int32), .int p0, .int p1]) (b := 0) (st := []) (M2 := r24) (r1 := none) (pc' := 129) O dX8_copy_126 tw_1085 tw_58 tw_1084 tw_1083 hyX8_move rfl (okX8_move er24) (Nat.le_of_ble_eq_true rfl) ⟨Nat.le_of_ble_eq_true rfl, Nat.le_of_ble_eq_true rfl⟩ ⟨Nat.le_of_ble_eq_true rfl, Nat.le_of_ble_eq_true rfl⟩ rfl ?_
  show G κ mX8_copy 0 0 129 [(0, .ref this), (1, .int p0), (2, .int p1)] [] r24
  refine g_aload_n (pc' := 130) 0 O dX8_copy_129 rfl rfl rfl ?_
  replace h := ob h; obtain ⟨v25, ev25, h⟩ := h
  refine g_getF (C := RX8) (T := TX8) (N := 29) (ci := 5) (k := 17) (pc' := 133) O dX8_copy_130 rfl inX8 (by decide) tw_733 (gN_F ev25) rfl ?_
  refine g_iconst (v := 1) (pc' := 134) O dX8_copy_133 (by decide) rfl ?_
  refine g_iload_n (pc' := 135) 1 O dX8_copy_134 rfl rfl rfl ?_
  refine g_iload_n (pc' := 136) 2 O dX8_copy_135 rfl rfl rfl ?_
  replace h := ob h; obtain ⟨r26, er26, h⟩ := h
  refine g_callS (y := yX8_move) (ν := mX8_move) (n := 4) (As := [.ref v25, .int (1 : Int32), .int p0, .int p1]) (b := 0) (st := []) (M2 := r26) (r1 := none) (pc' := 139) O dX8_copy_136 tw_1085 tw_58 tw_1084 tw_1083 hyX8_move rfl (okX8_move er26) (Nat.le_of_ble_eq_true rfl) ⟨Nat.le_of_ble_eq_true rfl, Nat.le_of_ble_eq_true rfl⟩ ⟨Nat.le_of_ble_eq_true rfl, Nat.le_of_ble_eq_true rfl⟩ rfl ?_
  show G κ mX8_copy 0 0 139 [(0, .ref this), (1, .int p0), (2, .int p1)] [] r26
  refine g_aload_n (pc' := 140) 0 O dX8_copy_139 rfl rfl rfl ?_
  replace h := ob h; obtain ⟨v27, ev27, h⟩ := h
  refine g_getF (C := RX8) (T := TX8) (N := 29) (ci := 5) (k := 18) (pc' := 143) O dX8_copy_140 rfl inX8 (by decide) tw_734 (gN_F ev27) rfl ?_
  refine g_sipush (v := 160) (pc' := 146) O dX8_copy_143 (by decide) rfl ?_
  refine g_iload_n (pc' := 147) 1 O dX8_copy_146 rfl rfl rfl ?_
  refine g_iload_n (pc' := 148) 2 O dX8_copy_147 rfl rfl rfl ?_
  replace h := ob h; obtain ⟨r28, er28, h⟩ := h
  refine g_callS (y := yX8_move) (ν := mX8_move) (n := 4) (As := [.ref v27, .int (160 : Int32), .int p0, .int p1]) (b := 0) (st := []) (M2 := r28) (r1 := none) (pc' := 151) O dX8_copy_148 tw_1085 tw_58 tw_1084 tw_1083 hyX8_move rfl (okX8_move er28) (Nat.le_of_ble_eq_true rfl) ⟨Nat.le_of_ble_eq_true rfl, Nat.le_of_ble_eq_true rfl⟩ ⟨Nat.le_of_ble_eq_true rfl, Nat.le_of_ble_eq_true rfl⟩ rfl ?_
  show G κ mX8_copy 0 0 151 [(0, .ref this), (1, .int p0), (2, .int p1)] [] r28
  refine g_iconst (v := 0) (pc' := 152) O dX8_copy_151 (by decide) rfl ?_
  refine g_istore_n (lv' := [(3, .int (0 : Int32)), (0, .ref this), (1, .int p0), (2, .int p1)]) (pc' := 153) O dX8_copy_152 rfl (by decide) rfl rfl ?_
  refine g_sub (lv' := [(0, .ref this), (1, .int p0), (2, .int p1), (3, .int (0 : Int32))]) [1, 2, 3, 0] rfl ?_
  exact tX8_copy_153 O hf FU this p0 p1 (0 : Int32) r28 h
abbrev mX8_isLand : MD := (cX8_isLand, 2, RX8, (some .boolean), { frames := 1, cells := 0, slots := 0, locals := 22 }, "isLand")
theorem hyX8_isLand : yX8_isLand.cls ≠ "java/lang/invoke/MethodHandle" ∧ yX8_isLand.cls ≠ "java/lang/invoke/VarHandle" ∧ (parseMethodDescriptor yX8_isLand.desc).map (fun d => d.parameters.length) = some 1 := by decide +kernel
def fX8_isLand  (this : Nat) (p0 : Int32) (M : Mem) : Option (Int32 × Mem) :=
  (gN M 5 this 1).bind fun v1 =>
  (aI M v1 (0 : Int32)).bind fun v2 =>
  (fX8_in p0 (0 : Int32) (v2 - (1 : Int32)) M).bind fun r3 =>
  (nz r3.1).bind fun z4 =>
  some (z4, r3.2)
set_option maxHeartbeats 4000000 in
set_option maxRecDepth 100000 in
theorem okX8_isLand {l : Launch} {p : Int32 × Mem} {this : Nat} {p0 : Int32} {M : Mem} (h : fX8_isLand this p0 M = some p) : Cn l yX8_isLand mX8_isLand [.ref this, .int p0] M (some (.int p.1)) p.2 := by
  refine Cn.of [(0, .ref this), (1, .int p0)] (by decide) rfl rfl (Nat.le_of_ble_eq_true rfl) rfl (fun κ _ hf O => ?_)
  unfold fX8_isLand at h
  refine g_iload_n (pc' := 1) 1 O dX8_isLand_0 rfl rfl rfl ?_
  refine g_iconst (v := 0) (pc' := 2) O dX8_isLand_1 (by decide) rfl ?_
  refine g_aload_n (pc' := 3) 0 O dX8_isLand_2 rfl rfl rfl ?_
  replace h := ob h; obtain ⟨v1, ev1, h⟩ := h
  refine g_getF (C := RX8) (T := TX8) (N := 29) (ci := 5) (k := 1) (pc' := 6) O dX8_isLand_3 rfl inX8 (by decide) tw_717 (gN_F ev1) rfl ?_
  refine g_iconst (v := 0) (pc' := 7) O dX8_isLand_6 (by decide) rfl ?_
  replace h := ob h; obtain ⟨v2, ev2, h⟩ := h
  refine g_iald (pc' := 8) O dX8_isLand_7 ev2 rfl ?_
  refine g_iconst (v := 1) (pc' := 9) O dX8_isLand_8 (by decide) rfl ?_
  refine g_isub (pc' := 10) O dX8_isLand_9 rfl ?_
  replace h := ob h; obtain ⟨r3, er3, h⟩ := h
  refine g_callS (y := yX8_in) (ν := mX8_in) (n := 3) (As := [.int p0, .int (0 : Int32), .int (v2 - (1 : Int32))]) (b := 0) (st := []) (M2 := r3.2) (r1 := (some (.int r3.1))) (pc' := 13) O dX8_isLand_10 tw_811 tw_58 tw_810 tw_809 hyX8_in rfl (okX8_in er3) (Nat.le_of_ble_eq_true rfl) ⟨Nat.le_of_ble_eq_true rfl, Nat.le_of_ble_eq_true rfl⟩ ⟨Nat.le_of_ble_eq_true rfl, Nat.le_of_ble_eq_true rfl⟩ rfl ?_
  show G κ mX8_isLand 0 0 13 [(0, .ref this), (1, .int p0)] [.int r3.1] r3.2
  replace h := ob h; obtain ⟨z4, ez4, h⟩ := h
  obtain ⟨hz4, ez4b⟩ := nz_spec ez4
  rw [ez4b] at h
  cases h
  exact g_ireturn O dX8_isLand_13 rfl (nz_nar hz4) hf (by decide) (by decide)
abbrev mX8_land : MD := (cX8_land, 12, RX8, (some .int), { frames := 1, cells := 0, slots := 0, locals := 22 }, "land")
theorem hyX8_land : yX8_land.cls ≠ "java/lang/invoke/MethodHandle" ∧ yX8_land.cls ≠ "java/lang/invoke/VarHandle" ∧ (parseMethodDescriptor yX8_land.desc).map (fun d => d.parameters.length) = some 8 := by decide +kernel
def fX8_land_197  (M : Mem) : Option (Int32 × Mem) :=
  some ((-1 : Int32), M)
set_option maxHeartbeats 4000000 in
set_option maxRecDepth 100000 in
theorem tX8_land_197 {κ : KT} {p : Int32 × Mem} (O : OkK κ mX8_land) (hf : κ.2.2.2.2.2.2.2.2.2.2.2.2.2 = (some (.int p.1), p.2))  {M : Mem} (h : fX8_land_197  M = some p) : G κ mX8_land 0 0 197 [] [] M := by
  unfold fX8_land_197 at h
  refine g_iconst (v := -1) (pc' := 198) O dX8_land_197 (by decide) rfl ?_
  cases h
  exact g_ireturn O dX8_land_198 rfl rfl hf (by decide) (by decide)
def fX8_land_145  (x0 : Nat) (x1 : Int32) (x2 : Int32) (x3 : Int32) (x4 : Int32) (x5 : Int32) (x6 : Int32) (x7 : Int32) (x8 : Int32) (x9 : Int32) (s0 : Int32) (M : Mem) : Option (Int32 × Mem) :=
  (gN M 5 x0 1).bind fun v1 =>
  (aI M v1 (0 : Int32)).bind fun v2 =>
  if v2 = (6 : Int32) then (fX8_land_197 M)
  else (if x9 = 0 then (fX8_land_197 M)
  else (if s0 = 0 then (fX8_land_197 M)
  else ((fX8_in x3 (0 : Int32) (1 : Int32) M).bind fun r3 =>
  if r3.1 = 0 then (fX8_land_197 r3.2)
  else ((fX8_in x4 (0 : Int32) (2 : Int32) r3.2).bind fun r4 =>
  if r4.1 = 0 then (fX8_land_197 r4.2)
  else ((fX8_in x7 (0 : Int32) (2 : Int32) r4.2).bind fun r5 =>
  if r5.1 = 0 then (fX8_land_197 r5.2)
  else ((gN r5.2 5 x0 1).bind fun v6 =>
  (aI r5.2 v6 (0 : Int32)).bind fun v7 =>
  (gN r5.2 5 x0 1).bind fun v8 =>
  (aI r5.2 v8 (0 : Int32)).bind fun v9 =>
  (sI r5.2 v8 (0 : Int32) (v9 + (1 : Int32))).bind fun M10 =>
  (gN M10 5 x0 2).bind fun v11 =>
  (sI M10 v11 v7 x1).bind fun M12 =>
  (gN M12 5 x0 3).bind fun v13 =>
  (sI M12 v13 v7 x2).bind fun M14 =>
  (gN M14 5 x0 4).bind fun v15 =>
  (sI M14 v15 v7 x3).bind fun M16 =>
  (gN M16 5 x0 5).bind fun v17 =>
  (sI M16 v17 v7 x4).bind fun M18 =>
  (gN M18 5 x0 6).bind fun v19 =>
  (sI M18 v19 v7 x5).bind fun M20 =>
  (gN M20 5 x0 7).bind fun v21 =>
  (sZ M20 v21 v7 x6).bind fun M22 =>
  (gN M22 5 x0 8).bind fun v23 =>
  (sI M22 v23 v7 x7).bind fun M24 =>
  (gN M24 5 x0 9).bind fun v25 =>
  (sI M24 v25 v7 x8).bind fun M26 =>
  some (v7, M26)))))))
set_option maxHeartbeats 4000000 in
set_option maxRecDepth 100000 in
theorem tX8_land_145 {κ : KT} {p : Int32 × Mem} (O : OkK κ mX8_land) (hf : κ.2.2.2.2.2.2.2.2.2.2.2.2.2 = (some (.int p.1), p.2))  {x0 : Nat} {x1 : Int32} {x2 : Int32} {x3 : Int32} {x4 : Int32} {x5 : Int32} {x6 : Int32} {x7 : Int32} {x8 : Int32} {x9 : Int32} {s0 : Int32} {M : Mem} (h : fX8_land_145  x0 x1 x2 x3 x4 x5 x6 x7 x8 x9 s0 M = some p) : G κ mX8_land 0 0 145 [(0, .ref x0), (1, .int x1), (2, .int x2), (3, .int x3), (4, .int x4), (5, .int x5), (6, .int x6), (7, .int x7), (8, .int x8), (9, .int x9)] [.int s0] M := by
  unfold fX8_land_145 at h
  refine g_istore (lv' := [(10, .int s0), (0, .ref x0), (1, .int x1), (2, .int x2), (3, .int x3), (4, .int x4), (5, .int x5), (6, .int x6), (7, .int x7), (8, .int x8), (9, .int x9)]) (pc' := 147) O dX8_land_145 (by decide) rfl rfl ?_
  refine g_aload_n (pc' := 148) 1 O dX8_land_147 rfl rfl rfl ?_
  replace h := ob h; obtain ⟨v1, ev1, h⟩ := h
  refine g_getF (C := RX8) (T := TX8) (N := 29) (ci := 5) (k := 1) (pc' := 151) O dX8_land_148 rfl inX8 (by decide) tw_717 (gN_F ev1) rfl ?_
  refine g_iconst (v := 0) (pc' := 152) O dX8_land_151 (by decide) rfl ?_
  replace h := ob h; obtain ⟨v2, ev2, h⟩ := h
  refine g_iald (pc' := 153) O dX8_land_152 ev2 rfl ?_
  refine g_bipush (v := 6) (pc' := 155) O dX8_land_153 (by decide) rfl ?_
  refine g_icmp_eq (tgt := 197) (pc' := 158) O dX8_land_155 (by decide) rfl (fun hc => ?_) (fun hc => ?_)
  · replace h := ip hc h
    refine g_sub (lv' := []) [] rfl ?_
    exact tX8_land_197 O hf h
  · replace h := ine hc h
    refine g_iload (pc' := 160) 10 O dX8_land_158 rfl rfl ?_
    refine g_if_eq (tgt := 197) (pc' := 163) O dX8_land_160 (by decide) rfl (fun hc => ?_) (fun hc => ?_)
    · replace h := ip hc h
      refine g_sub (lv' := []) [] rfl ?_
      exact tX8_land_197 O hf h
    · replace h := ine hc h
      refine g_iload (pc' := 165) 0 O dX8_land_163 rfl rfl ?_
      refine g_if_eq (tgt := 197) (pc' := 168) O dX8_land_165 (by decide) rfl (fun hc => ?_) (fun hc => ?_)
      · replace h := ip hc h
        refine g_sub (lv' := []) [] rfl ?_
        exact tX8_land_197 O hf h
      · replace h := ine hc h
        refine g_iload_n (pc' := 169) 4 O dX8_land_168 rfl rfl rfl ?_
        refine g_iconst (v := 0) (pc' := 170) O dX8_land_169 (by decide) rfl ?_
        refine g_iconst (v := 1) (pc' := 171) O dX8_land_170 (by decide) rfl ?_
        replace h := ob h; obtain ⟨r3, er3, h⟩ := h
        refine g_callS (y := yX8_in) (ν := mX8_in) (n := 3) (As := [.int x3, .int (0 : Int32), .int (1 : Int32)]) (b := 0) (st := []) (M2 := r3.2) (r1 := (some (.int r3.1))) (pc' := 174) O dX8_land_171 tw_811 tw_58 tw_810 tw_809 hyX8_in rfl (okX8_in er3) (Nat.le_of_ble_eq_true rfl) ⟨Nat.le_of_ble_eq_true rfl, Nat.le_of_ble_eq_true rfl⟩ ⟨Nat.le_of_ble_eq_true rfl, Nat.le_of_ble_eq_true rfl⟩ rfl ?_
        show G κ mX8_land 0 0 174 [(10, .int s0), (0, .ref x0), (1, .int x1), (2, .int x2), (3, .int x3), (4, .int x4), (5, .int x5), (6, .int x6), (7, .int x7), (8, .int x8), (9, .int x9)] [.int r3.1] r3.2
        refine g_if_eq (tgt := 197) (pc' := 177) O dX8_land_174 (by decide) rfl (fun hc => ?_) (fun hc => ?_)
        · replace h := ip hc h
          refine g_sub (lv' := []) [] rfl ?_
          exact tX8_land_197 O hf h
        · replace h := ine hc h
          refine g_iload (pc' := 179) 5 O dX8_land_177 rfl rfl ?_
          refine g_iconst (v := 0) (pc' := 180) O dX8_land_179 (by decide) rfl ?_
          refine g_iconst (v := 2) (pc' := 181) O dX8_land_180 (by decide) rfl ?_
          replace h := ob h; obtain ⟨r4, er4, h⟩ := h
          refine g_callS (y := yX8_in) (ν := mX8_in) (n := 3) (As := [.int x4, .int (0 : Int32), .int (2 : Int32)]) (b := 0) (st := []) (M2 := r4.2) (r1 := (some (.int r4.1))) (pc' := 184) O dX8_land_181 tw_811 tw_58 tw_810 tw_809 hyX8_in rfl (okX8_in er4) (Nat.le_of_ble_eq_true rfl) ⟨Nat.le_of_ble_eq_true rfl, Nat.le_of_ble_eq_true rfl⟩ ⟨Nat.le_of_ble_eq_true rfl, Nat.le_of_ble_eq_true rfl⟩ rfl ?_
          show G κ mX8_land 0 0 184 [(10, .int s0), (0, .ref x0), (1, .int x1), (2, .int x2), (3, .int x3), (4, .int x4), (5, .int x5), (6, .int x6), (7, .int x7), (8, .int x8), (9, .int x9)] [.int r4.1] r4.2
          refine g_if_eq (tgt := 197) (pc' := 187) O dX8_land_184 (by decide) rfl (fun hc => ?_) (fun hc => ?_)
          · replace h := ip hc h
            refine g_sub (lv' := []) [] rfl ?_
            exact tX8_land_197 O hf h
          · replace h := ine hc h
            refine g_iload (pc' := 189) 8 O dX8_land_187 rfl rfl ?_
            refine g_iconst (v := 0) (pc' := 190) O dX8_land_189 (by decide) rfl ?_
            refine g_iconst (v := 2) (pc' := 191) O dX8_land_190 (by decide) rfl ?_
            replace h := ob h; obtain ⟨r5, er5, h⟩ := h
            refine g_callS (y := yX8_in) (ν := mX8_in) (n := 3) (As := [.int x7, .int (0 : Int32), .int (2 : Int32)]) (b := 0) (st := []) (M2 := r5.2) (r1 := (some (.int r5.1))) (pc' := 194) O dX8_land_191 tw_811 tw_58 tw_810 tw_809 hyX8_in rfl (okX8_in er5) (Nat.le_of_ble_eq_true rfl) ⟨Nat.le_of_ble_eq_true rfl, Nat.le_of_ble_eq_true rfl⟩ ⟨Nat.le_of_ble_eq_true rfl, Nat.le_of_ble_eq_true rfl⟩ rfl ?_
            show G κ mX8_land 0 0 194 [(10, .int s0), (0, .ref x0), (1, .int x1), (2, .int x2), (3, .int x3), (4, .int x4), (5, .int x5), (6, .int x6), (7, .int x7), (8, .int x8), (9, .int x9)] [.int r5.1] r5.2
            refine g_if_ne (tgt := 199) (pc' := 197) O dX8_land_194 (by decide) rfl (fun hc => ?_) (fun hc => ?_)
            · replace h := ine hc h
              refine g_aload_n (pc' := 200) 1 O dX8_land_199 rfl rfl rfl ?_
              replace h := ob h; obtain ⟨v6, ev6, h⟩ := h
              refine g_getF (C := RX8) (T := TX8) (N := 29) (ci := 5) (k := 1) (pc' := 203) O dX8_land_200 rfl inX8 (by decide) tw_717 (gN_F ev6) rfl ?_
              refine g_iconst (v := 0) (pc' := 204) O dX8_land_203 (by decide) rfl ?_
              replace h := ob h; obtain ⟨v7, ev7, h⟩ := h
              refine g_iald (pc' := 205) O dX8_land_204 ev7 rfl ?_
              refine g_istore (lv' := [(11, .int v7), (10, .int s0), (0, .ref x0), (1, .int x1), (2, .int x2), (3, .int x3), (4, .int x4), (5, .int x5), (6, .int x6), (7, .int x7), (8, .int x8), (9, .int x9)]) (pc' := 207) O dX8_land_205 (by decide) rfl rfl ?_
              refine g_aload_n (pc' := 208) 2 O dX8_land_207 rfl rfl rfl ?_
              replace h := ob h; obtain ⟨v8, ev8, h⟩ := h
              refine g_getF (C := RX8) (T := TX8) (N := 29) (ci := 5) (k := 1) (pc' := 211) O dX8_land_208 rfl inX8 (by decide) tw_717 (gN_F ev8) rfl ?_
              refine g_iconst (v := 0) (pc' := 212) O dX8_land_211 (by decide) rfl ?_
              refine g_dup2 (pc' := 213) O dX8_land_212 rfl rfl rfl ?_
              replace h := ob h; obtain ⟨v9, ev9, h⟩ := h
              refine g_iald (pc' := 214) O dX8_land_213 ev9 rfl ?_
              refine g_iconst (v := 1) (pc' := 215) O dX8_land_214 (by decide) rfl ?_
              refine g_iadd (pc' := 216) O dX8_land_215 rfl ?_
              replace h := ob h; obtain ⟨M10, eM10, h⟩ := h
              refine g_iast (pc' := 217) O dX8_land_216 eM10 rfl ?_
              refine g_aload_n (pc' := 218) 2 O dX8_land_217 rfl rfl rfl ?_
              replace h := ob h; obtain ⟨v11, ev11, h⟩ := h
              refine g_getF (C := RX8) (T := TX8) (N := 29) (ci := 5) (k := 2) (pc' := 221) O dX8_land_218 rfl inX8 (by decide) tw_718 (gN_F ev11) rfl ?_
              refine g_iload (pc' := 223) 0 O dX8_land_221 rfl rfl ?_
              refine g_iload_n (pc' := 224) 3 O dX8_land_223 rfl rfl rfl ?_
              replace h := ob h; obtain ⟨M12, eM12, h⟩ := h
              refine g_iast (pc' := 225) O dX8_land_224 eM12 rfl ?_
              refine g_aload_n (pc' := 226) 2 O dX8_land_225 rfl rfl rfl ?_
              replace h := ob h; obtain ⟨v13, ev13, h⟩ := h
              refine g_getF (C := RX8) (T := TX8) (N := 29) (ci := 5) (k := 3) (pc' := 229) O dX8_land_226 rfl inX8 (by decide) tw_719 (gN_F ev13) rfl ?_
              refine g_iload (pc' := 231) 0 O dX8_land_229 rfl rfl ?_
              refine g_iload_n (pc' := 232) 4 O dX8_land_231 rfl rfl rfl ?_
              replace h := ob h; obtain ⟨M14, eM14, h⟩ := h
              refine g_iast (pc' := 233) O dX8_land_232 eM14 rfl ?_
              refine g_aload_n (pc' := 234) 2 O dX8_land_233 rfl rfl rfl ?_
              replace h := ob h; obtain ⟨v15, ev15, h⟩ := h
              refine g_getF (C := RX8) (T := TX8) (N := 29) (ci := 5) (k := 4) (pc' := 237) O dX8_land_234 rfl inX8 (by decide) tw_720 (gN_F ev15) rfl ?_
              refine g_iload (pc' := 239) 0 O dX8_land_237 rfl rfl ?_
              refine g_iload_n (pc' := 240) 5 O dX8_land_239 rfl rfl rfl ?_
              replace h := ob h; obtain ⟨M16, eM16, h⟩ := h
              refine g_iast (pc' := 241) O dX8_land_240 eM16 rfl ?_
              refine g_aload_n (pc' := 242) 2 O dX8_land_241 rfl rfl rfl ?_
              replace h := ob h; obtain ⟨v17, ev17, h⟩ := h
              refine g_getF (C := RX8) (T := TX8) (N := 29) (ci := 5) (k := 5) (pc' := 245) O dX8_land_242 rfl inX8 (by decide) tw_721 (gN_F ev17) rfl ?_
              refine g_iload (pc' := 247) 0 O dX8_land_245 rfl rfl ?_
              refine g_iload (pc' := 249) 6 O dX8_land_247 rfl rfl ?_
              replace h := ob h; obtain ⟨M18, eM18, h⟩ := h
              refine g_iast (pc' := 250) O dX8_land_249 eM18 rfl ?_
              refine g_aload_n (pc' := 251) 2 O dX8_land_250 rfl rfl rfl ?_
              replace h := ob h; obtain ⟨v19, ev19, h⟩ := h
              refine g_getF (C := RX8) (T := TX8) (N := 29) (ci := 5) (k := 6) (pc' := 254) O dX8_land_251 rfl inX8 (by decide) tw_722 (gN_F ev19) rfl ?_
              refine g_iload (pc' := 256) 0 O dX8_land_254 rfl rfl ?_
              refine g_iload (pc' := 258) 7 O dX8_land_256 rfl rfl ?_
              replace h := ob h; obtain ⟨M20, eM20, h⟩ := h
              refine g_iast (pc' := 259) O dX8_land_258 eM20 rfl ?_
              refine g_aload_n (pc' := 260) 2 O dX8_land_259 rfl rfl rfl ?_
              replace h := ob h; obtain ⟨v21, ev21, h⟩ := h
              refine g_getF (C := RX8) (T := TX8) (N := 29) (ci := 5) (k := 7) (pc' := 263) O dX8_land_260 rfl inX8 (by decide) tw_723 (gN_F ev21) rfl ?_
              refine g_iload (pc' := 265) 0 O dX8_land_263 rfl rfl ?_
              refine g_iload (pc' := 267) 8 O dX8_land_265 rfl rfl ?_
              replace h := ob h; obtain ⟨M22, eM22, h⟩ := h
              refine g_zast (pc' := 268) O dX8_land_267 eM22 rfl ?_
              refine g_aload_n (pc' := 269) 2 O dX8_land_268 rfl rfl rfl ?_
              replace h := ob h; obtain ⟨v23, ev23, h⟩ := h
              refine g_getF (C := RX8) (T := TX8) (N := 29) (ci := 5) (k := 8) (pc' := 272) O dX8_land_269 rfl inX8 (by decide) tw_724 (gN_F ev23) rfl ?_
              refine g_iload (pc' := 274) 0 O dX8_land_272 rfl rfl ?_
              refine g_iload (pc' := 276) 9 O dX8_land_274 rfl rfl ?_
              replace h := ob h; obtain ⟨M24, eM24, h⟩ := h
              refine g_iast (pc' := 277) O dX8_land_276 eM24 rfl ?_
              refine g_aload_n (pc' := 278) 2 O dX8_land_277 rfl rfl rfl ?_
              replace h := ob h; obtain ⟨v25, ev25, h⟩ := h
              refine g_getF (C := RX8) (T := TX8) (N := 29) (ci := 5) (k := 9) (pc' := 281) O dX8_land_278 rfl inX8 (by decide) tw_725 (gN_F ev25) rfl ?_
              refine g_iload (pc' := 283) 0 O dX8_land_281 rfl rfl ?_
              refine g_iload (pc' := 285) 10 O dX8_land_283 rfl rfl ?_
              replace h := ob h; obtain ⟨M26, eM26, h⟩ := h
              refine g_iast (pc' := 286) O dX8_land_285 eM26 rfl ?_
              refine g_iload (pc' := 288) 0 O dX8_land_286 rfl rfl ?_
              cases h
              exact g_ireturn O dX8_land_288 rfl rfl hf (by decide) (by decide)
            · replace h := ip hc h
              refine g_sub (lv' := []) [] rfl ?_
              exact tX8_land_197 O hf h
def fX8_land_144  (x0 : Nat) (x1 : Int32) (x2 : Int32) (x3 : Int32) (x4 : Int32) (x5 : Int32) (x6 : Int32) (x7 : Int32) (x8 : Int32) (x9 : Int32) (M : Mem) : Option (Int32 × Mem) :=
  fX8_land_145 x0 x1 x2 x3 x4 x5 x6 x7 x8 x9 (0 : Int32) M
set_option maxHeartbeats 4000000 in
set_option maxRecDepth 100000 in
theorem tX8_land_144 {κ : KT} {p : Int32 × Mem} (O : OkK κ mX8_land) (hf : κ.2.2.2.2.2.2.2.2.2.2.2.2.2 = (some (.int p.1), p.2))  {x0 : Nat} {x1 : Int32} {x2 : Int32} {x3 : Int32} {x4 : Int32} {x5 : Int32} {x6 : Int32} {x7 : Int32} {x8 : Int32} {x9 : Int32} {M : Mem} (h : fX8_land_144  x0 x1 x2 x3 x4 x5 x6 x7 x8 x9 M = some p) : G κ mX8_land 0 0 144 [(0, .ref x0), (1, .int x1), (2, .int x2), (3, .int x3), (4, .int x4), (5, .int x5), (6, .int x6), (7, .int x7), (8, .int x8), (9, .int x9)] [] M := by
  unfold fX8_land_144 at h
  refine g_iconst (v := 0) (pc' := 145) O dX8_land_144 (by decide) rfl ?_
  exact tX8_land_145 O hf h
def fX8_land_76  (x0 : Nat) (x1 : Int32) (x2 : Int32) (x3 : Int32) (x4 : Int32) (x5 : Int32) (x6 : Int32) (x7 : Int32) (x8 : Int32) (s0 : Int32) (M : Mem) : Option (Int32 × Mem) :=
  if (x5 >>> ((24 : Int32) &&& 31)) = 0 then ((fX8_in ((x5 >>> ((16 : Int32) &&& 31)) &&& (255 : Int32)) (65 : Int32) (90 : Int32) M).bind fun r1 =>
  if r1.1 = 0 then (fX8_land_144 x0 x1 x2 x3 x4 x5 x6 x7 x8 s0 r1.2)
  else ((fX8_in ((x5 >>> ((8 : Int32) &&& 31)) &&& (255 : Int32)) (65 : Int32) (90 : Int32) r1.2).bind fun r2 =>
  if r2.1 = 0 then (fX8_land_144 x0 x1 x2 x3 x4 x5 x6 x7 x8 s0 r2.2)
  else ((fX8_in (x5 &&& (255 : Int32)) (65 : Int32) (90 : Int32) r2.2).bind fun r3 =>
  if r3.1 = 0 then (fX8_land_144 x0 x1 x2 x3 x4 x5 x6 x7 x8 s0 r3.2)
  else (fX8_land_145 x0 x1 x2 x3 x4 x5 x6 x7 x8 s0 (1 : Int32) r3.2))))
  else (fX8_land_144 x0 x1 x2 x3 x4 x5 x6 x7 x8 s0 M)
set_option maxHeartbeats 4000000 in
set_option maxRecDepth 100000 in
theorem tX8_land_76 {κ : KT} {p : Int32 × Mem} (O : OkK κ mX8_land) (hf : κ.2.2.2.2.2.2.2.2.2.2.2.2.2 = (some (.int p.1), p.2))  {x0 : Nat} {x1 : Int32} {x2 : Int32} {x3 : Int32} {x4 : Int32} {x5 : Int32} {x6 : Int32} {x7 : Int32} {x8 : Int32} {s0 : Int32} {M : Mem} (h : fX8_land_76  x0 x1 x2 x3 x4 x5 x6 x7 x8 s0 M = some p) : G κ mX8_land 0 0 76 [(0, .ref x0), (1, .int x1), (2, .int x2), (3, .int x3), (4, .int x4), (5, .int x5), (6, .int x6), (7, .int x7), (8, .int x8)] [.int s0] M := by
  unfold fX8_land_76 at h
  refine g_istore (lv' := [(9, .int s0), (0, .ref x0), (1, .int x1), (2, .int x2), (3, .int x3), (4, .int x4), (5, .int x5), (6, .int x6), (7, .int x7), (8, .int x8)]) (pc' := 78) O dX8_land_76 (by decide) rfl rfl ?_
  refine g_iload (pc' := 80) 6 O dX8_land_78 rfl rfl ?_
  refine g_bipush (v := 24) (pc' := 82) O dX8_land_80 (by decide) rfl ?_
  refine g_ishr (pc' := 83) O dX8_land_82 rfl ?_
  refine g_if_ne (tgt := 144) (pc' := 86) O dX8_land_83 (by decide) rfl (fun hc => ?_) (fun hc => ?_)
  · replace h := ine hc h
    refine g_sub (lv' := [(0, .ref x0), (1, .int x1), (2, .int x2), (3, .int x3), (4, .int x4), (5, .int x5), (6, .int x6), (7, .int x7), (8, .int x8), (9, .int s0)]) [1, 2, 3, 4, 5, 6, 7, 8, 9, 0] rfl ?_
    exact tX8_land_144 O hf h
  · replace h := ip hc h
    refine g_iload (pc' := 88) 6 O dX8_land_86 rfl rfl ?_
    refine g_bipush (v := 16) (pc' := 90) O dX8_land_88 (by decide) rfl ?_
    refine g_ishr (pc' := 91) O dX8_land_90 rfl ?_
    refine g_sipush (v := 255) (pc' := 94) O dX8_land_91 (by decide) rfl ?_
    refine g_iand (pc' := 95) O dX8_land_94 rfl ?_
    refine g_bipush (v := 65) (pc' := 97) O dX8_land_95 (by decide) rfl ?_
    refine g_bipush (v := 90) (pc' := 99) O dX8_land_97 (by decide) rfl ?_
    replace h := ob h; obtain ⟨r1, er1, h⟩ := h
    refine g_callS (y := yX8_in) (ν := mX8_in) (n := 3) (As := [.int ((x5 >>> ((16 : Int32) &&& 31)) &&& (255 : Int32)), .int (65 : Int32), .int (90 : Int32)]) (b := 0) (st := []) (M2 := r1.2) (r1 := (some (.int r1.1))) (pc' := 102) O dX8_land_99 tw_811 tw_58 tw_810 tw_809 hyX8_in rfl (okX8_in er1) (Nat.le_of_ble_eq_true rfl) ⟨Nat.le_of_ble_eq_true rfl, Nat.le_of_ble_eq_true rfl⟩ ⟨Nat.le_of_ble_eq_true rfl, Nat.le_of_ble_eq_true rfl⟩ rfl ?_
    show G κ mX8_land 0 0 102 [(9, .int s0), (0, .ref x0), (1, .int x1), (2, .int x2), (3, .int x3), (4, .int x4), (5, .int x5), (6, .int x6), (7, .int x7), (8, .int x8)] [.int r1.1] r1.2
    refine g_if_eq (tgt := 144) (pc' := 105) O dX8_land_102 (by decide) rfl (fun hc => ?_) (fun hc => ?_)
    · replace h := ip hc h
      refine g_sub (lv' := [(0, .ref x0), (1, .int x1), (2, .int x2), (3, .int x3), (4, .int x4), (5, .int x5), (6, .int x6), (7, .int x7), (8, .int x8), (9, .int s0)]) [1, 2, 3, 4, 5, 6, 7, 8, 9, 0] rfl ?_
      exact tX8_land_144 O hf h
    · replace h := ine hc h
      refine g_iload (pc' := 107) 6 O dX8_land_105 rfl rfl ?_
      refine g_bipush (v := 8) (pc' := 109) O dX8_land_107 (by decide) rfl ?_
      refine g_ishr (pc' := 110) O dX8_land_109 rfl ?_
      refine g_sipush (v := 255) (pc' := 113) O dX8_land_110 (by decide) rfl ?_
      refine g_iand (pc' := 114) O dX8_land_113 rfl ?_
      refine g_bipush (v := 65) (pc' := 116) O dX8_land_114 (by decide) rfl ?_
      refine g_bipush (v := 90) (pc' := 118) O dX8_land_116 (by decide) rfl ?_
      replace h := ob h; obtain ⟨r2, er2, h⟩ := h
      refine g_callS (y := yX8_in) (ν := mX8_in) (n := 3) (As := [.int ((x5 >>> ((8 : Int32) &&& 31)) &&& (255 : Int32)), .int (65 : Int32), .int (90 : Int32)]) (b := 0) (st := []) (M2 := r2.2) (r1 := (some (.int r2.1))) (pc' := 121) O dX8_land_118 tw_811 tw_58 tw_810 tw_809 hyX8_in rfl (okX8_in er2) (Nat.le_of_ble_eq_true rfl) ⟨Nat.le_of_ble_eq_true rfl, Nat.le_of_ble_eq_true rfl⟩ ⟨Nat.le_of_ble_eq_true rfl, Nat.le_of_ble_eq_true rfl⟩ rfl ?_
      show G κ mX8_land 0 0 121 [(9, .int s0), (0, .ref x0), (1, .int x1), (2, .int x2), (3, .int x3), (4, .int x4), (5, .int x5), (6, .int x6), (7, .int x7), (8, .int x8)] [.int r2.1] r2.2
      refine g_if_eq (tgt := 144) (pc' := 124) O dX8_land_121 (by decide) rfl (fun hc => ?_) (fun hc => ?_)
      · replace h := ip hc h
        refine g_sub (lv' := [(0, .ref x0), (1, .int x1), (2, .int x2), (3, .int x3), (4, .int x4), (5, .int x5), (6, .int x6), (7, .int x7), (8, .int x8), (9, .int s0)]) [1, 2, 3, 4, 5, 6, 7, 8, 9, 0] rfl ?_
        exact tX8_land_144 O hf h
      · replace h := ine hc h
        refine g_iload (pc' := 126) 6 O dX8_land_124 rfl rfl ?_
        refine g_sipush (v := 255) (pc' := 129) O dX8_land_126 (by decide) rfl ?_
        refine g_iand (pc' := 130) O dX8_land_129 rfl ?_
        refine g_bipush (v := 65) (pc' := 132) O dX8_land_130 (by decide) rfl ?_
        refine g_bipush (v := 90) (pc' := 134) O dX8_land_132 (by decide) rfl ?_
        replace h := ob h; obtain ⟨r3, er3, h⟩ := h
        refine g_callS (y := yX8_in) (ν := mX8_in) (n := 3) (As := [.int (x5 &&& (255 : Int32)), .int (65 : Int32), .int (90 : Int32)]) (b := 0) (st := []) (M2 := r3.2) (r1 := (some (.int r3.1))) (pc' := 137) O dX8_land_134 tw_811 tw_58 tw_810 tw_809 hyX8_in rfl (okX8_in er3) (Nat.le_of_ble_eq_true rfl) ⟨Nat.le_of_ble_eq_true rfl, Nat.le_of_ble_eq_true rfl⟩ ⟨Nat.le_of_ble_eq_true rfl, Nat.le_of_ble_eq_true rfl⟩ rfl ?_
        show G κ mX8_land 0 0 137 [(9, .int s0), (0, .ref x0), (1, .int x1), (2, .int x2), (3, .int x3), (4, .int x4), (5, .int x5), (6, .int x6), (7, .int x7), (8, .int x8)] [.int r3.1] r3.2
        refine g_if_eq (tgt := 144) (pc' := 140) O dX8_land_137 (by decide) rfl (fun hc => ?_) (fun hc => ?_)
        · replace h := ip hc h
          refine g_sub (lv' := [(0, .ref x0), (1, .int x1), (2, .int x2), (3, .int x3), (4, .int x4), (5, .int x5), (6, .int x6), (7, .int x7), (8, .int x8), (9, .int s0)]) [1, 2, 3, 4, 5, 6, 7, 8, 9, 0] rfl ?_
          exact tX8_land_144 O hf h
        · replace h := ine hc h
          refine g_iconst (v := 1) (pc' := 141) O dX8_land_140 (by decide) rfl ?_
          refine g_goto (pc' := 145) O dX8_land_141 (by decide) ?_
          refine g_sub (lv' := [(0, .ref x0), (1, .int x1), (2, .int x2), (3, .int x3), (4, .int x4), (5, .int x5), (6, .int x6), (7, .int x7), (8, .int x8), (9, .int s0)]) [1, 2, 3, 4, 5, 6, 7, 8, 9, 0] rfl ?_
          exact tX8_land_145 O hf h
def fX8_land_75  (x0 : Nat) (x1 : Int32) (x2 : Int32) (x3 : Int32) (x4 : Int32) (x5 : Int32) (x6 : Int32) (x7 : Int32) (x8 : Int32) (M : Mem) : Option (Int32 × Mem) :=
  fX8_land_76 x0 x1 x2 x3 x4 x5 x6 x7 x8 (0 : Int32) M
set_option maxHeartbeats 4000000 in
set_option maxRecDepth 100000 in
theorem tX8_land_75 {κ : KT} {p : Int32 × Mem} (O : OkK κ mX8_land) (hf : κ.2.2.2.2.2.2.2.2.2.2.2.2.2 = (some (.int p.1), p.2))  {x0 : Nat} {x1 : Int32} {x2 : Int32} {x3 : Int32} {x4 : Int32} {x5 : Int32} {x6 : Int32} {x7 : Int32} {x8 : Int32} {M : Mem} (h : fX8_land_75  x0 x1 x2 x3 x4 x5 x6 x7 x8 M = some p) : G κ mX8_land 0 0 75 [(0, .ref x0), (1, .int x1), (2, .int x2), (3, .int x3), (4, .int x4), (5, .int x5), (6, .int x6), (7, .int x7), (8, .int x8)] [] M := by
  unfold fX8_land_75 at h
  refine g_iconst (v := 0) (pc' := 76) O dX8_land_75 (by decide) rfl ?_
  exact tX8_land_76 O hf h
def fX8_land_71  (x0 : Nat) (x1 : Int32) (x2 : Int32) (x3 : Int32) (x4 : Int32) (x5 : Int32) (x6 : Int32) (x7 : Int32) (x8 : Int32) (M : Mem) : Option (Int32 × Mem) :=
  fX8_land_76 x0 x1 x2 x3 x4 x5 x6 x7 x8 (1 : Int32) M
set_option maxHeartbeats 4000000 in
set_option maxRecDepth 100000 in
theorem tX8_land_71 {κ : KT} {p : Int32 × Mem} (O : OkK κ mX8_land) (hf : κ.2.2.2.2.2.2.2.2.2.2.2.2.2 = (some (.int p.1), p.2))  {x0 : Nat} {x1 : Int32} {x2 : Int32} {x3 : Int32} {x4 : Int32} {x5 : Int32} {x6 : Int32} {x7 : Int32} {x8 : Int32} {M : Mem} (h : fX8_land_71  x0 x1 x2 x3 x4 x5 x6 x7 x8 M = some p) : G κ mX8_land 0 0 71 [(0, .ref x0), (1, .int x1), (2, .int x2), (3, .int x3), (4, .int x4), (5, .int x5), (6, .int x6), (7, .int x7), (8, .int x8)] [] M := by
  unfold fX8_land_71 at h
  refine g_iconst (v := 1) (pc' := 72) O dX8_land_71 (by decide) rfl ?_
  refine g_goto (pc' := 76) O dX8_land_72 (by decide) ?_
  exact tX8_land_76 O hf h
def fX8_land_45  (x0 : Nat) (x1 : Int32) (x2 : Int32) (x3 : Int32) (x4 : Int32) (x5 : Int32) (x6 : Int32) (x7 : Int32) (x8 : Int32) (M : Mem) : Option (Int32 × Mem) :=
  if x2 = x1 then (fX8_land_75 x0 x1 x2 x3 x4 x5 x6 x7 x8 M)
  else (if x8 = (47 : Int32) then (fX8_land_71 x0 x1 x2 x3 x4 x5 x6 x7 x8 M)
  else (if x8 = (46 : Int32) then (fX8_land_71 x0 x1 x2 x3 x4 x5 x6 x7 x8 M)
  else (if x8 = (45 : Int32) then (fX8_land_71 x0 x1 x2 x3 x4 x5 x6 x7 x8 M)
  else (fX8_land_75 x0 x1 x2 x3 x4 x5 x6 x7 x8 M))))
set_option maxHeartbeats 4000000 in
set_option maxRecDepth 100000 in
theorem tX8_land_45 {κ : KT} {p : Int32 × Mem} (O : OkK κ mX8_land) (hf : κ.2.2.2.2.2.2.2.2.2.2.2.2.2 = (some (.int p.1), p.2))  {x0 : Nat} {x1 : Int32} {x2 : Int32} {x3 : Int32} {x4 : Int32} {x5 : Int32} {x6 : Int32} {x7 : Int32} {x8 : Int32} {M : Mem} (h : fX8_land_45  x0 x1 x2 x3 x4 x5 x6 x7 x8 M = some p) : G κ mX8_land 0 0 45 [(0, .ref x0), (1, .int x1), (2, .int x2), (3, .int x3), (4, .int x4), (5, .int x5), (6, .int x6), (7, .int x7), (8, .int x8)] [] M := by
  unfold fX8_land_45 at h
  refine g_iload_n (pc' := 46) 2 O dX8_land_45 rfl rfl rfl ?_
  refine g_iload_n (pc' := 47) 1 O dX8_land_46 rfl rfl rfl ?_
  refine g_icmp_eq (tgt := 75) (pc' := 50) O dX8_land_47 (by decide) rfl (fun hc => ?_) (fun hc => ?_)
  · replace h := ip hc h
    exact tX8_land_75 O hf h
  · replace h := ine hc h
    refine g_iload (pc' := 52) 8 O dX8_land_50 rfl rfl ?_
    refine g_bipush (v := 47) (pc' := 54) O dX8_land_52 (by decide) rfl ?_
    refine g_icmp_eq (tgt := 71) (pc' := 57) O dX8_land_54 (by decide) rfl (fun hc => ?_) (fun hc => ?_)
    · replace h := ip hc h
      exact tX8_land_71 O hf h
    · replace h := ine hc h
      refine g_iload (pc' := 59) 8 O dX8_land_57 rfl rfl ?_
      refine g_bipush (v := 46) (pc' := 61) O dX8_land_59 (by decide) rfl ?_
      refine g_icmp_eq (tgt := 71) (pc' := 64) O dX8_land_61 (by decide) rfl (fun hc => ?_) (fun hc => ?_)
      · replace h := ip hc h
        exact tX8_land_71 O hf h
      · replace h := ine hc h
        refine g_iload (pc' := 66) 8 O dX8_land_64 rfl rfl ?_
        refine g_bipush (v := 45) (pc' := 68) O dX8_land_66 (by decide) rfl ?_
        refine g_icmp_ne (tgt := 75) (pc' := 71) O dX8_land_68 (by decide) rfl (fun hc => ?_) (fun hc => ?_)
        · replace h := ine hc h
          exact tX8_land_75 O hf h
        · replace h := ip hc h
          exact tX8_land_71 O hf h
def fX8_land_17  (x0 : Nat) (x1 : Int32) (x2 : Int32) (x3 : Int32) (x4 : Int32) (x5 : Int32) (x6 : Int32) (x7 : Int32) (x8 : Int32) (M : Mem) : Option (Int32 × Mem) :=
  if x2 = (44 : Int32) then (fX8_land_45 x0 x1 x2 x3 x4 x5 x6 x7 x8 M)
  else (if x2 = (46 : Int32) then (fX8_land_45 x0 x1 x2 x3 x4 x5 x6 x7 x8 M)
  else (if x2 = (32 : Int32) then (fX8_land_45 x0 x1 x2 x3 x4 x5 x6 x7 x8 M)
  else (if x2 = (39 : Int32) then (fX8_land_45 x0 x1 x2 x3 x4 x5 x6 x7 x8 M)
  else (if x2 = 0 then (fX8_land_45 x0 x1 x2 x3 x4 x5 x6 x7 x8 M)
  else (fX8_land_75 x0 x1 x2 x3 x4 x5 x6 x7 x8 M)))))
set_option maxHeartbeats 4000000 in
set_option maxRecDepth 100000 in
theorem tX8_land_17 {κ : KT} {p : Int32 × Mem} (O : OkK κ mX8_land) (hf : κ.2.2.2.2.2.2.2.2.2.2.2.2.2 = (some (.int p.1), p.2))  {x0 : Nat} {x1 : Int32} {x2 : Int32} {x3 : Int32} {x4 : Int32} {x5 : Int32} {x6 : Int32} {x7 : Int32} {x8 : Int32} {M : Mem} (h : fX8_land_17  x0 x1 x2 x3 x4 x5 x6 x7 x8 M = some p) : G κ mX8_land 0 0 17 [(0, .ref x0), (1, .int x1), (2, .int x2), (3, .int x3), (4, .int x4), (5, .int x5), (6, .int x6), (7, .int x7), (8, .int x8)] [] M := by
  unfold fX8_land_17 at h
  refine g_iload_n (pc' := 18) 2 O dX8_land_17 rfl rfl rfl ?_
  refine g_bipush (v := 44) (pc' := 20) O dX8_land_18 (by decide) rfl ?_
  refine g_icmp_eq (tgt := 45) (pc' := 23) O dX8_land_20 (by decide) rfl (fun hc => ?_) (fun hc => ?_)
  · replace h := ip hc h
    exact tX8_land_45 O hf h
  · replace h := ine hc h
    refine g_iload_n (pc' := 24) 2 O dX8_land_23 rfl rfl rfl ?_
    refine g_bipush (v := 46) (pc' := 26) O dX8_land_24 (by decide) rfl ?_
    refine g_icmp_eq (tgt := 45) (pc' := 29) O dX8_land_26 (by decide) rfl (fun hc => ?_) (fun hc => ?_)
    · replace h := ip hc h
      exact tX8_land_45 O hf h
    · replace h := ine hc h
      refine g_iload_n (pc' := 30) 2 O dX8_land_29 rfl rfl rfl ?_
      refine g_bipush (v := 32) (pc' := 32) O dX8_land_30 (by decide) rfl ?_
      refine g_icmp_eq (tgt := 45) (pc' := 35) O dX8_land_32 (by decide) rfl (fun hc => ?_) (fun hc => ?_)
      · replace h := ip hc h
        exact tX8_land_45 O hf h
      · replace h := ine hc h
        refine g_iload_n (pc' := 36) 2 O dX8_land_35 rfl rfl rfl ?_
        refine g_bipush (v := 39) (pc' := 38) O dX8_land_36 (by decide) rfl ?_
        refine g_icmp_eq (tgt := 45) (pc' := 41) O dX8_land_38 (by decide) rfl (fun hc => ?_) (fun hc => ?_)
        · replace h := ip hc h
          exact tX8_land_45 O hf h
        · replace h := ine hc h
          refine g_iload_n (pc' := 42) 2 O dX8_land_41 rfl rfl rfl ?_
          refine g_if_ne (tgt := 75) (pc' := 45) O dX8_land_42 (by decide) rfl (fun hc => ?_) (fun hc => ?_)
          · replace h := ine hc h
            exact tX8_land_75 O hf h
          · replace h := ip hc h
            exact tX8_land_45 O hf h
def fX8_land  (this : Nat) (p0 : Int32) (p1 : Int32) (p2 : Int32) (p3 : Int32) (p4 : Int32) (p5 : Int32) (p6 : Int32) (p7 : Int32) (M : Mem) : Option (Int32 × Mem) :=
  (pF M 5 this 0 (.int (0 : Int32))).bind fun M1 =>
  if p0 = (44 : Int32) then (fX8_land_17 this p0 p1 p2 p3 p4 p5 p6 p7 M1)
  else (if p0 = (46 : Int32) then (fX8_land_17 this p0 p1 p2 p3 p4 p5 p6 p7 M1)
  else (fX8_land_75 this p0 p1 p2 p3 p4 p5 p6 p7 M1))
set_option maxHeartbeats 4000000 in
set_option maxRecDepth 100000 in
theorem okX8_land {l : Launch} {p : Int32 × Mem} {this : Nat} {p0 : Int32} {p1 : Int32} {p2 : Int32} {p3 : Int32} {p4 : Int32} {p5 : Int32} {p6 : Int32} {p7 : Int32} {M : Mem} (h : fX8_land this p0 p1 p2 p3 p4 p5 p6 p7 M = some p) : Cn l yX8_land mX8_land [.ref this, .int p0, .int p1, .int p2, .int p3, .int p4, .int p5, .int p6, .int p7] M (some (.int p.1)) p.2 := by
  refine Cn.of [(0, .ref this), (1, .int p0), (2, .int p1), (3, .int p2), (4, .int p3), (5, .int p4), (6, .int p5), (7, .int p6), (8, .int p7)] (by decide) rfl rfl (Nat.le_of_ble_eq_true rfl) rfl (fun κ _ hf O => ?_)
  unfold fX8_land at h
  refine g_aload_n (pc' := 1) 0 O dX8_land_0 rfl rfl rfl ?_
  refine g_iconst (v := 0) (pc' := 2) O dX8_land_1 (by decide) rfl ?_
  replace h := ob h; obtain ⟨M1, eM1, h⟩ := h
  refine g_putF (C := RX8) (T := TX8) (N := 29) (ci := 5) (k := 0) (pc' := 5) O dX8_land_2 rfl inX8 (by decide) tw_716 tyX8 tyX8_ok nmX8 rfl rfl rfl rfl eM1 rfl ?_
  refine g_iload_n (pc' := 6) 1 O dX8_land_5 rfl rfl rfl ?_
  refine g_bipush (v := 44) (pc' := 8) O dX8_land_6 (by decide) rfl ?_
  refine g_icmp_eq (tgt := 17) (pc' := 11) O dX8_land_8 (by decide) rfl (fun hc => ?_) (fun hc => ?_)
  · replace h := ip hc h
    exact tX8_land_17 O hf h
  · replace h := ine hc h
    refine g_iload_n (pc' := 12) 1 O dX8_land_11 rfl rfl rfl ?_
    refine g_bipush (v := 46) (pc' := 14) O dX8_land_12 (by decide) rfl ?_
    refine g_icmp_ne (tgt := 75) (pc' := 17) O dX8_land_14 (by decide) rfl (fun hc => ?_) (fun hc => ?_)
    · replace h := ine hc h
      exact tX8_land_75 O hf h
    · replace h := ip hc h
      exact tX8_land_17 O hf h
abbrev mX8_key : MD := (cX8_key, 2, RX8, (some .int), { frames := 1, cells := 0, slots := 0, locals := 22 }, "key")
theorem hyX8_key : yX8_key.cls ≠ "java/lang/invoke/MethodHandle" ∧ yX8_key.cls ≠ "java/lang/invoke/VarHandle" ∧ (parseMethodDescriptor yX8_key.desc).map (fun d => d.parameters.length) = some 1 := by decide +kernel
def fX8_key_27  (M : Mem) : Option (Int32 × Mem) :=
  some ((-1 : Int32), M)
set_option maxHeartbeats 4000000 in
set_option maxRecDepth 100000 in
theorem tX8_key_27 {κ : KT} {p : Int32 × Mem} (O : OkK κ mX8_key) (hf : κ.2.2.2.2.2.2.2.2.2.2.2.2.2 = (some (.int p.1), p.2))  {M : Mem} (h : fX8_key_27  M = some p) : G κ mX8_key 0 0 27 [] [] M := by
  unfold fX8_key_27 at h
  refine g_iconst (v := -1) (pc' := 28) O dX8_key_27 (by decide) rfl ?_
  cases h
  exact g_ireturn O dX8_key_28 rfl rfl hf (by decide) (by decide)
def fX8_key  (this : Nat) (p0 : Int32) (M : Mem) : Option (Int32 × Mem) :=
  (pF M 5 this 0 (.int (0 : Int32))).bind fun M1 =>
  (fX8_in p0 (0 : Int32) (255 : Int32) M1).bind fun r2 =>
  if r2.1 = 0 then (fX8_key_27 r2.2)
  else ((gN r2.2 5 this 10).bind fun v3 =>
  (aI r2.2 v3 (0 : Int32)).bind fun v4 =>
  if v4 = (60 : Int32) then (fX8_key_27 r2.2)
  else ((gN r2.2 5 this 11).bind fun v5 =>
  (gN r2.2 5 this 10).bind fun v6 =>
  (aI r2.2 v6 (0 : Int32)).bind fun v7 =>
  (sI r2.2 v5 v7 p0).bind fun M8 =>
  (gN M8 5 this 10).bind fun v9 =>
  (aI M8 v9 (0 : Int32)).bind fun v10 =>
  (sI M8 v9 (0 : Int32) (v10 + (1 : Int32))).bind fun M11 =>
  (gN M11 5 this 10).bind fun v12 =>
  (aI M11 v12 (0 : Int32)).bind fun v13 =>
  some (v13, M11)))
set_option maxHeartbeats 4000000 in
set_option maxRecDepth 100000 in
theorem okX8_key {l : Launch} {p : Int32 × Mem} {this : Nat} {p0 : Int32} {M : Mem} (h : fX8_key this p0 M = some p) : Cn l yX8_key mX8_key [.ref this, .int p0] M (some (.int p.1)) p.2 := by
  refine Cn.of [(0, .ref this), (1, .int p0)] (by decide) rfl rfl (Nat.le_of_ble_eq_true rfl) rfl (fun κ _ hf O => ?_)
  unfold fX8_key at h
  refine g_aload_n (pc' := 1) 0 O dX8_key_0 rfl rfl rfl ?_
  refine g_iconst (v := 0) (pc' := 2) O dX8_key_1 (by decide) rfl ?_
  replace h := ob h; obtain ⟨M1, eM1, h⟩ := h
  refine g_putF (C := RX8) (T := TX8) (N := 29) (ci := 5) (k := 0) (pc' := 5) O dX8_key_2 rfl inX8 (by decide) tw_716 tyX8 tyX8_ok nmX8 rfl rfl rfl rfl eM1 rfl ?_
  refine g_iload_n (pc' := 6) 1 O dX8_key_5 rfl rfl rfl ?_
  refine g_iconst (v := 0) (pc' := 7) O dX8_key_6 (by decide) rfl ?_
  refine g_sipush (v := 255) (pc' := 10) O dX8_key_7 (by decide) rfl ?_
  replace h := ob h; obtain ⟨r2, er2, h⟩ := h
  refine g_callS (y := yX8_in) (ν := mX8_in) (n := 3) (As := [.int p0, .int (0 : Int32), .int (255 : Int32)]) (b := 0) (st := []) (M2 := r2.2) (r1 := (some (.int r2.1))) (pc' := 13) O dX8_key_10 tw_811 tw_58 tw_810 tw_809 hyX8_in rfl (okX8_in er2) (Nat.le_of_ble_eq_true rfl) ⟨Nat.le_of_ble_eq_true rfl, Nat.le_of_ble_eq_true rfl⟩ ⟨Nat.le_of_ble_eq_true rfl, Nat.le_of_ble_eq_true rfl⟩ rfl ?_
  show G κ mX8_key 0 0 13 [(0, .ref this), (1, .int p0)] [.int r2.1] r2.2
  refine g_if_eq (tgt := 27) (pc' := 16) O dX8_key_13 (by decide) rfl (fun hc => ?_) (fun hc => ?_)
  · replace h := ip hc h
    refine g_sub (lv' := []) [] rfl ?_
    exact tX8_key_27 O hf h
  · replace h := ine hc h
    refine g_aload_n (pc' := 17) 0 O dX8_key_16 rfl rfl rfl ?_
    replace h := ob h; obtain ⟨v3, ev3, h⟩ := h
    refine g_getF (C := RX8) (T := TX8) (N := 29) (ci := 5) (k := 10) (pc' := 20) O dX8_key_17 rfl inX8 (by decide) tw_726 (gN_F ev3) rfl ?_
    refine g_iconst (v := 0) (pc' := 21) O dX8_key_20 (by decide) rfl ?_
    replace h := ob h; obtain ⟨v4, ev4, h⟩ := h
    refine g_iald (pc' := 22) O dX8_key_21 ev4 rfl ?_
    refine g_bipush (v := 60) (pc' := 24) O dX8_key_22 (by decide) rfl ?_
    refine g_icmp_ne (tgt := 29) (pc' := 27) O dX8_key_24 (by decide) rfl (fun hc => ?_) (fun hc => ?_)
    · replace h := ine hc h
      refine g_aload_n (pc' := 30) 0 O dX8_key_29 rfl rfl rfl ?_
      replace h := ob h; obtain ⟨v5, ev5, h⟩ := h
      refine g_getF (C := RX8) (T := TX8) (N := 29) (ci := 5) (k := 11) (pc' := 33) O dX8_key_30 rfl inX8 (by decide) tw_727 (gN_F ev5) rfl ?_
      refine g_aload_n (pc' := 34) 0 O dX8_key_33 rfl rfl rfl ?_
      replace h := ob h; obtain ⟨v6, ev6, h⟩ := h
      refine g_getF (C := RX8) (T := TX8) (N := 29) (ci := 5) (k := 10) (pc' := 37) O dX8_key_34 rfl inX8 (by decide) tw_726 (gN_F ev6) rfl ?_
      refine g_iconst (v := 0) (pc' := 38) O dX8_key_37 (by decide) rfl ?_
      replace h := ob h; obtain ⟨v7, ev7, h⟩ := h
      refine g_iald (pc' := 39) O dX8_key_38 ev7 rfl ?_
      refine g_iload_n (pc' := 40) 1 O dX8_key_39 rfl rfl rfl ?_
      replace h := ob h; obtain ⟨M8, eM8, h⟩ := h
      refine g_iast (pc' := 41) O dX8_key_40 eM8 rfl ?_
      refine g_aload_n (pc' := 42) 0 O dX8_key_41 rfl rfl rfl ?_
      replace h := ob h; obtain ⟨v9, ev9, h⟩ := h
      refine g_getF (C := RX8) (T := TX8) (N := 29) (ci := 5) (k := 10) (pc' := 45) O dX8_key_42 rfl inX8 (by decide) tw_726 (gN_F ev9) rfl ?_
      refine g_iconst (v := 0) (pc' := 46) O dX8_key_45 (by decide) rfl ?_
      refine g_dup2 (pc' := 47) O dX8_key_46 rfl rfl rfl ?_
      replace h := ob h; obtain ⟨v10, ev10, h⟩ := h
      refine g_iald (pc' := 48) O dX8_key_47 ev10 rfl ?_
      refine g_iconst (v := 1) (pc' := 49) O dX8_key_48 (by decide) rfl ?_
      refine g_iadd (pc' := 50) O dX8_key_49 rfl ?_
      replace h := ob h; obtain ⟨M11, eM11, h⟩ := h
      refine g_iast (pc' := 51) O dX8_key_50 eM11 rfl ?_
      refine g_aload_n (pc' := 52) 0 O dX8_key_51 rfl rfl rfl ?_
      replace h := ob h; obtain ⟨v12, ev12, h⟩ := h
      refine g_getF (C := RX8) (T := TX8) (N := 29) (ci := 5) (k := 10) (pc' := 55) O dX8_key_52 rfl inX8 (by decide) tw_726 (gN_F ev12) rfl ?_
      refine g_iconst (v := 0) (pc' := 56) O dX8_key_55 (by decide) rfl ?_
      replace h := ob h; obtain ⟨v13, ev13, h⟩ := h
      refine g_iald (pc' := 57) O dX8_key_56 ev13 rfl ?_
      cases h
      exact g_ireturn O dX8_key_57 rfl rfl hf (by decide) (by decide)
    · replace h := ip hc h
      refine g_sub (lv' := []) [] rfl ?_
      exact tX8_key_27 O hf h
abbrev mX8_keys : MD := (cX8_keys, 4, RX8, (some .int), { frames := 0, cells := 0, slots := 0, locals := 0 }, "keys")
theorem hyX8_keys : yX8_keys.cls ≠ "java/lang/invoke/MethodHandle" ∧ yX8_keys.cls ≠ "java/lang/invoke/VarHandle" ∧ (parseMethodDescriptor yX8_keys.desc).map (fun d => d.parameters.length) = some 1 := by decide +kernel
def fX8_keys_51  : Nat → Nat → Int32 → Int32 → Int32 → Mem → Option (Int32 × Mem)
  | 0, _, _, _, _, _ => none
  | n + 1, x0, x1, x2, x3, M =>
    if x2 ≤ x3 then ((gN M 5 x0 10).bind fun v1 =>
    (aI M v1 (0 : Int32)).bind fun v2 =>
    some (v2, M))
    else ((gN M 5 x0 11).bind fun v3 =>
    (gN M 5 x0 10).bind fun v4 =>
    (aI M v4 (0 : Int32)).bind fun v5 =>
    (sI M v3 v5 ((x1 >>> (((24 : Int32) - ((8 : Int32) * x3)) &&& 31)) &&& (255 : Int32))).bind fun M6 =>
    (gN M6 5 x0 10).bind fun v7 =>
    (aI M6 v7 (0 : Int32)).bind fun v8 =>
    (sI M6 v7 (0 : Int32) (v8 + (1 : Int32))).bind fun M9 =>
    fX8_keys_51 n x0 x1 x2 (x3 + (1 : Int32)) M9)
set_option maxHeartbeats 4000000 in
set_option maxRecDepth 100000 in
theorem tX8_keys_51 {κ : KT} {p : Int32 × Mem} (O : OkK κ mX8_keys) (hf : κ.2.2.2.2.2.2.2.2.2.2.2.2.2 = (some (.int p.1), p.2))  : ∀ (n : Nat) (x0 : Nat) (x1 : Int32) (x2 : Int32) (x3 : Int32) (M : Mem), fX8_keys_51  n x0 x1 x2 x3 M = some p → G κ mX8_keys 0 0 51 [(0, .ref x0), (1, .int x1), (2, .int x2), (3, .int x3)] [] M := by
  intro n
  induction n with
  | zero => intro x0 x1 x2 x3 M h; cases h
  | succ n ih =>
    intro x0 x1 x2 x3 M h
    rw [fX8_keys_51] at h
    refine g_iload_n (pc' := 52) 3 O dX8_keys_51 rfl rfl rfl ?_
    refine g_iload_n (pc' := 53) 2 O dX8_keys_52 rfl rfl rfl ?_
    refine g_icmp_ge (tgt := 96) (pc' := 56) O dX8_keys_53 (by decide) rfl (fun hc => ?_) (fun hc => ?_)
    · replace h := ip hc h
      refine g_aload_n (pc' := 97) 0 O dX8_keys_96 rfl rfl rfl ?_
      replace h := ob h; obtain ⟨v1, ev1, h⟩ := h
      refine g_getF (C := RX8) (T := TX8) (N := 29) (ci := 5) (k := 10) (pc' := 100) O dX8_keys_97 rfl inX8 (by decide) tw_726 (gN_F ev1) rfl ?_
      refine g_iconst (v := 0) (pc' := 101) O dX8_keys_100 (by decide) rfl ?_
      replace h := ob h; obtain ⟨v2, ev2, h⟩ := h
      refine g_iald (pc' := 102) O dX8_keys_101 ev2 rfl ?_
      cases h
      exact g_ireturn O dX8_keys_102 rfl rfl hf (by decide) (by decide)
    · replace h := ine hc h
      refine g_aload_n (pc' := 57) 0 O dX8_keys_56 rfl rfl rfl ?_
      replace h := ob h; obtain ⟨v3, ev3, h⟩ := h
      refine g_getF (C := RX8) (T := TX8) (N := 29) (ci := 5) (k := 11) (pc' := 60) O dX8_keys_57 rfl inX8 (by decide) tw_727 (gN_F ev3) rfl ?_
      refine g_aload_n (pc' := 61) 0 O dX8_keys_60 rfl rfl rfl ?_
      replace h := ob h; obtain ⟨v4, ev4, h⟩ := h
      refine g_getF (C := RX8) (T := TX8) (N := 29) (ci := 5) (k := 10) (pc' := 64) O dX8_keys_61 rfl inX8 (by decide) tw_726 (gN_F ev4) rfl ?_
      refine g_iconst (v := 0) (pc' := 65) O dX8_keys_64 (by decide) rfl ?_
      replace h := ob h; obtain ⟨v5, ev5, h⟩ := h
      refine g_iald (pc' := 66) O dX8_keys_65 ev5 rfl ?_
      refine g_iload_n (pc' := 67) 1 O dX8_keys_66 rfl rfl rfl ?_
      refine g_bipush (v := 24) (pc' := 69) O dX8_keys_67 (by decide) rfl ?_
      refine g_bipush (v := 8) (pc' := 71) O dX8_keys_69 (by decide) rfl ?_
      refine g_iload_n (pc' := 72) 3 O dX8_keys_71 rfl rfl rfl ?_
      refine g_imul (pc' := 73) O dX8_keys_72 rfl ?_
      refine g_isub (pc' := 74) O dX8_keys_73 rfl ?_
      refine g_ishr (pc' := 75) O dX8_keys_74 rfl ?_
      refine g_sipush (v := 255) (pc' := 78) O dX8_keys_75 (by decide) rfl ?_
      refine g_iand (pc' := 79) O dX8_keys_78 rfl ?_
      replace h := ob h; obtain ⟨M6, eM6, h⟩ := h
      refine g_iast (pc' := 80) O dX8_keys_79 eM6 rfl ?_
      refine g_aload_n (pc' := 81) 0 O dX8_keys_80 rfl rfl rfl ?_
      replace h := ob h; obtain ⟨v7, ev7, h⟩ := h
      refine g_getF (C := RX8) (T := TX8) (N := 29) (ci := 5) (k := 10) (pc' := 84) O dX8_keys_81 rfl inX8 (by decide) tw_726 (gN_F ev7) rfl ?_
      refine g_iconst (v := 0) (pc' := 85) O dX8_keys_84 (by decide) rfl ?_
      refine g_dup2 (pc' := 86) O dX8_keys_85 rfl rfl rfl ?_
      replace h := ob h; obtain ⟨v8, ev8, h⟩ := h
      refine g_iald (pc' := 87) O dX8_keys_86 ev8 rfl ?_
      refine g_iconst (v := 1) (pc' := 88) O dX8_keys_87 (by decide) rfl ?_
      refine g_iadd (pc' := 89) O dX8_keys_88 rfl ?_
      replace h := ob h; obtain ⟨M9, eM9, h⟩ := h
      refine g_iast (pc' := 90) O dX8_keys_89 eM9 rfl ?_
      refine g_iinc (q := 3) (v := x3 + (1 : Int32)) (lv' := [(3, .int (x3 + (1 : Int32))), (0, .ref x0), (1, .int x1), (2, .int x2)]) (pc' := 93) O dX8_keys_90 rfl rfl (by decide) rfl rfl ?_
      refine g_goto (pc' := 51) O dX8_keys_93 (by decide) ?_
      refine g_sub (lv' := [(0, .ref x0), (1, .int x1), (2, .int x2), (3, .int (x3 + (1 : Int32)))]) [1, 2, 3, 0] rfl ?_
      exact ih x0 x1 x2 (x3 + (1 : Int32)) M9 h
def fX8_keys_34  (x0 : Nat) (x1 : Int32) (x2 : Int32) (M : Mem) : Option (Int32 × Mem) :=
  (gN M 5 x0 10).bind fun v1 =>
  (aI M v1 (0 : Int32)).bind fun v2 =>
  if (v2 + x2) ≤ (60 : Int32) then (fX8_keys_51 FU x0 x1 x2 (0 : Int32) M)
  else (some ((-1 : Int32), M))
set_option maxHeartbeats 4000000 in
set_option maxRecDepth 100000 in
theorem tX8_keys_34 {κ : KT} {p : Int32 × Mem} (O : OkK κ mX8_keys) (hf : κ.2.2.2.2.2.2.2.2.2.2.2.2.2 = (some (.int p.1), p.2))  {x0 : Nat} {x1 : Int32} {x2 : Int32} {M : Mem} (h : fX8_keys_34  x0 x1 x2 M = some p) : G κ mX8_keys 0 0 34 [(0, .ref x0), (1, .int x1), (2, .int x2)] [] M := by
  unfold fX8_keys_34 at h
  refine g_aload_n (pc' := 35) 0 O dX8_keys_34 rfl rfl rfl ?_
  replace h := ob h; obtain ⟨v1, ev1, h⟩ := h
  refine g_getF (C := RX8) (T := TX8) (N := 29) (ci := 5) (k := 10) (pc' := 38) O dX8_keys_35 rfl inX8 (by decide) tw_726 (gN_F ev1) rfl ?_
  refine g_iconst (v := 0) (pc' := 39) O dX8_keys_38 (by decide) rfl ?_
  replace h := ob h; obtain ⟨v2, ev2, h⟩ := h
  refine g_iald (pc' := 40) O dX8_keys_39 ev2 rfl ?_
  refine g_iload_n (pc' := 41) 2 O dX8_keys_40 rfl rfl rfl ?_
  refine g_iadd (pc' := 42) O dX8_keys_41 rfl ?_
  refine g_bipush (v := 60) (pc' := 44) O dX8_keys_42 (by decide) rfl ?_
  refine g_icmp_le (tgt := 49) (pc' := 47) O dX8_keys_44 (by decide) rfl (fun hc => ?_) (fun hc => ?_)
  · replace h := ip hc h
    refine g_iconst (v := 0) (pc' := 50) O dX8_keys_49 (by decide) rfl ?_
    refine g_istore_n (lv' := [(3, .int (0 : Int32)), (0, .ref x0), (1, .int x1), (2, .int x2)]) (pc' := 51) O dX8_keys_50 rfl (by decide) rfl rfl ?_
    refine g_sub (lv' := [(0, .ref x0), (1, .int x1), (2, .int x2), (3, .int (0 : Int32))]) [1, 2, 3, 0] rfl ?_
    exact tX8_keys_51 O hf FU x0 x1 x2 (0 : Int32) M h
  · replace h := ine hc h
    refine g_iconst (v := -1) (pc' := 48) O dX8_keys_47 (by decide) rfl ?_
    cases h
    exact g_ireturn O dX8_keys_48 rfl rfl hf (by decide) (by decide)
def fX8_keys_7  : Nat → Nat → Int32 → Int32 → Mem → Option (Int32 × Mem)
  | 0, _, _, _, _ => none
  | n + 1, x0, x1, x2, M =>
    if (4 : Int32) ≤ x2 then (fX8_keys_34 x0 x1 x2 M)
    else (if ((x1 >>> (((24 : Int32) - ((8 : Int32) * x2)) &&& 31)) &&& (255 : Int32)) = 0 then (fX8_keys_34 x0 x1 x2 M)
    else (fX8_keys_7 n x0 x1 (x2 + (1 : Int32)) M))
set_option maxHeartbeats 4000000 in
set_option maxRecDepth 100000 in
theorem tX8_keys_7 {κ : KT} {p : Int32 × Mem} (O : OkK κ mX8_keys) (hf : κ.2.2.2.2.2.2.2.2.2.2.2.2.2 = (some (.int p.1), p.2))  : ∀ (n : Nat) (x0 : Nat) (x1 : Int32) (x2 : Int32) (M : Mem), fX8_keys_7  n x0 x1 x2 M = some p → G κ mX8_keys 0 0 7 [(0, .ref x0), (1, .int x1), (2, .int x2)] [] M := by
  intro n
  induction n with
  | zero => intro x0 x1 x2 M h; cases h
  | succ n ih =>
    intro x0 x1 x2 M h
    rw [fX8_keys_7] at h
    refine g_iload_n (pc' := 8) 2 O dX8_keys_7 rfl rfl rfl ?_
    refine g_iconst (v := 4) (pc' := 9) O dX8_keys_8 (by decide) rfl ?_
    refine g_icmp_ge (tgt := 34) (pc' := 12) O dX8_keys_9 (by decide) rfl (fun hc => ?_) (fun hc => ?_)
    · replace h := ip hc h
      exact tX8_keys_34 O hf h
    · replace h := ine hc h
      refine g_iload_n (pc' := 13) 1 O dX8_keys_12 rfl rfl rfl ?_
      refine g_bipush (v := 24) (pc' := 15) O dX8_keys_13 (by decide) rfl ?_
      refine g_bipush (v := 8) (pc' := 17) O dX8_keys_15 (by decide) rfl ?_
      refine g_iload_n (pc' := 18) 2 O dX8_keys_17 rfl rfl rfl ?_
      refine g_imul (pc' := 19) O dX8_keys_18 rfl ?_
      refine g_isub (pc' := 20) O dX8_keys_19 rfl ?_
      refine g_ishr (pc' := 21) O dX8_keys_20 rfl ?_
      refine g_sipush (v := 255) (pc' := 24) O dX8_keys_21 (by decide) rfl ?_
      refine g_iand (pc' := 25) O dX8_keys_24 rfl ?_
      refine g_if_eq (tgt := 34) (pc' := 28) O dX8_keys_25 (by decide) rfl (fun hc => ?_) (fun hc => ?_)
      · replace h := ip hc h
        exact tX8_keys_34 O hf h
      · replace h := ine hc h
        refine g_iinc (q := 2) (v := x2 + (1 : Int32)) (lv' := [(2, .int (x2 + (1 : Int32))), (0, .ref x0), (1, .int x1)]) (pc' := 31) O dX8_keys_28 rfl rfl (by decide) rfl rfl ?_
        refine g_goto (pc' := 7) O dX8_keys_31 (by decide) ?_
        refine g_sub (lv' := [(0, .ref x0), (1, .int x1), (2, .int (x2 + (1 : Int32)))]) [1, 2, 0] rfl ?_
        exact ih x0 x1 (x2 + (1 : Int32)) M h
def fX8_keys  (this : Nat) (p0 : Int32) (M : Mem) : Option (Int32 × Mem) :=
  (pF M 5 this 0 (.int (0 : Int32))).bind fun M1 =>
  fX8_keys_7 FU this p0 (0 : Int32) M1
set_option maxHeartbeats 4000000 in
set_option maxRecDepth 100000 in
theorem okX8_keys {l : Launch} {p : Int32 × Mem} {this : Nat} {p0 : Int32} {M : Mem} (h : fX8_keys this p0 M = some p) : Cn l yX8_keys mX8_keys [.ref this, .int p0] M (some (.int p.1)) p.2 := by
  refine Cn.of [(0, .ref this), (1, .int p0)] (by decide) rfl rfl (Nat.le_of_ble_eq_true rfl) rfl (fun κ _ hf O => ?_)
  unfold fX8_keys at h
  refine g_aload_n (pc' := 1) 0 O dX8_keys_0 rfl rfl rfl ?_
  refine g_iconst (v := 0) (pc' := 2) O dX8_keys_1 (by decide) rfl ?_
  replace h := ob h; obtain ⟨M1, eM1, h⟩ := h
  refine g_putF (C := RX8) (T := TX8) (N := 29) (ci := 5) (k := 0) (pc' := 5) O dX8_keys_2 rfl inX8 (by decide) tw_716 tyX8 tyX8_ok nmX8 rfl rfl rfl rfl eM1 rfl ?_
  refine g_iconst (v := 0) (pc' := 6) O dX8_keys_5 (by decide) rfl ?_
  refine g_istore_n (lv' := [(2, .int (0 : Int32)), (0, .ref this), (1, .int p0)]) (pc' := 7) O dX8_keys_6 rfl (by decide) rfl rfl ?_
  refine g_sub (lv' := [(0, .ref this), (1, .int p0), (2, .int (0 : Int32))]) [1, 2, 0] rfl ?_
  exact tX8_keys_7 O hf FU this p0 (0 : Int32) M1 h
abbrev mX8_undo : MD := (cX8_undo, 2, RX8, (some .int), { frames := 1, cells := 0, slots := 0, locals := 22 }, "undo")
theorem hyX8_undo : yX8_undo.cls ≠ "java/lang/invoke/MethodHandle" ∧ yX8_undo.cls ≠ "java/lang/invoke/VarHandle" ∧ (parseMethodDescriptor yX8_undo.desc).map (fun d => d.parameters.length) = some 1 := by decide +kernel
def fX8_undo  (this : Nat) (p0 : Int32) (M : Mem) : Option (Int32 × Mem) :=
  (pF M 5 this 0 (.int (0 : Int32))).bind fun M1 =>
  (gN M1 5 this 10).bind fun v2 =>
  (aI M1 v2 (0 : Int32)).bind fun v3 =>
  (fX8_in p0 (0 : Int32) v3 M1).bind fun r4 =>
  if r4.1 = 0 then (some ((-1 : Int32), r4.2))
  else ((gN r4.2 5 this 10).bind fun v5 =>
  (aI r4.2 v5 (0 : Int32)).bind fun v6 =>
  (sI r4.2 v5 (0 : Int32) (v6 - p0)).bind fun M7 =>
  (gN M7 5 this 10).bind fun v8 =>
  (aI M7 v8 (0 : Int32)).bind fun v9 =>
  some (v9, M7))
set_option maxHeartbeats 4000000 in
set_option maxRecDepth 100000 in
theorem okX8_undo {l : Launch} {p : Int32 × Mem} {this : Nat} {p0 : Int32} {M : Mem} (h : fX8_undo this p0 M = some p) : Cn l yX8_undo mX8_undo [.ref this, .int p0] M (some (.int p.1)) p.2 := by
  refine Cn.of [(0, .ref this), (1, .int p0)] (by decide) rfl rfl (Nat.le_of_ble_eq_true rfl) rfl (fun κ _ hf O => ?_)
  unfold fX8_undo at h
  refine g_aload_n (pc' := 1) 0 O dX8_undo_0 rfl rfl rfl ?_
  refine g_iconst (v := 0) (pc' := 2) O dX8_undo_1 (by decide) rfl ?_
  replace h := ob h; obtain ⟨M1, eM1, h⟩ := h
  refine g_putF (C := RX8) (T := TX8) (N := 29) (ci := 5) (k := 0) (pc' := 5) O dX8_undo_2 rfl inX8 (by decide) tw_716 tyX8 tyX8_ok nmX8 rfl rfl rfl rfl eM1 rfl ?_
  refine g_iload_n (pc' := 6) 1 O dX8_undo_5 rfl rfl rfl ?_
  refine g_iconst (v := 0) (pc' := 7) O dX8_undo_6 (by decide) rfl ?_
  refine g_aload_n (pc' := 8) 0 O dX8_undo_7 rfl rfl rfl ?_
  replace h := ob h; obtain ⟨v2, ev2, h⟩ := h
  refine g_getF (C := RX8) (T := TX8) (N := 29) (ci := 5) (k := 10) (pc' := 11) O dX8_undo_8 rfl inX8 (by decide) tw_726 (gN_F ev2) rfl ?_
  refine g_iconst (v := 0) (pc' := 12) O dX8_undo_11 (by decide) rfl ?_
  replace h := ob h; obtain ⟨v3, ev3, h⟩ := h
  refine g_iald (pc' := 13) O dX8_undo_12 ev3 rfl ?_
  replace h := ob h; obtain ⟨r4, er4, h⟩ := h
  refine g_callS (y := yX8_in) (ν := mX8_in) (n := 3) (As := [.int p0, .int (0 : Int32), .int v3]) (b := 0) (st := []) (M2 := r4.2) (r1 := (some (.int r4.1))) (pc' := 16) O dX8_undo_13 tw_811 tw_58 tw_810 tw_809 hyX8_in rfl (okX8_in er4) (Nat.le_of_ble_eq_true rfl) ⟨Nat.le_of_ble_eq_true rfl, Nat.le_of_ble_eq_true rfl⟩ ⟨Nat.le_of_ble_eq_true rfl, Nat.le_of_ble_eq_true rfl⟩ rfl ?_
  show G κ mX8_undo 0 0 16 [(0, .ref this), (1, .int p0)] [.int r4.1] r4.2
  refine g_if_ne (tgt := 21) (pc' := 19) O dX8_undo_16 (by decide) rfl (fun hc => ?_) (fun hc => ?_)
  · replace h := ine hc h
    refine g_aload_n (pc' := 22) 0 O dX8_undo_21 rfl rfl rfl ?_
    replace h := ob h; obtain ⟨v5, ev5, h⟩ := h
    refine g_getF (C := RX8) (T := TX8) (N := 29) (ci := 5) (k := 10) (pc' := 25) O dX8_undo_22 rfl inX8 (by decide) tw_726 (gN_F ev5) rfl ?_
    refine g_iconst (v := 0) (pc' := 26) O dX8_undo_25 (by decide) rfl ?_
    refine g_dup2 (pc' := 27) O dX8_undo_26 rfl rfl rfl ?_
    replace h := ob h; obtain ⟨v6, ev6, h⟩ := h
    refine g_iald (pc' := 28) O dX8_undo_27 ev6 rfl ?_
    refine g_iload_n (pc' := 29) 1 O dX8_undo_28 rfl rfl rfl ?_
    refine g_isub (pc' := 30) O dX8_undo_29 rfl ?_
    replace h := ob h; obtain ⟨M7, eM7, h⟩ := h
    refine g_iast (pc' := 31) O dX8_undo_30 eM7 rfl ?_
    refine g_aload_n (pc' := 32) 0 O dX8_undo_31 rfl rfl rfl ?_
    replace h := ob h; obtain ⟨v8, ev8, h⟩ := h
    refine g_getF (C := RX8) (T := TX8) (N := 29) (ci := 5) (k := 10) (pc' := 35) O dX8_undo_32 rfl inX8 (by decide) tw_726 (gN_F ev8) rfl ?_
    refine g_iconst (v := 0) (pc' := 36) O dX8_undo_35 (by decide) rfl ?_
    replace h := ob h; obtain ⟨v9, ev9, h⟩ := h
    refine g_iald (pc' := 37) O dX8_undo_36 ev9 rfl ?_
    cases h
    exact g_ireturn O dX8_undo_37 rfl rfl hf (by decide) (by decide)
  · replace h := ip hc h
    refine g_iconst (v := -1) (pc' := 20) O dX8_undo_19 (by decide) rfl ?_
    cases h
    exact g_ireturn O dX8_undo_20 rfl rfl hf (by decide) (by decide)
abbrev mX8_bounds : MD := (cX8_bounds, 6, RX8, (some .boolean), { frames := 1, cells := 0, slots := 0, locals := 22 }, "bounds")
theorem hyX8_bounds : yX8_bounds.cls ≠ "java/lang/invoke/MethodHandle" ∧ yX8_bounds.cls ≠ "java/lang/invoke/VarHandle" ∧ (parseMethodDescriptor yX8_bounds.desc).map (fun d => d.parameters.length) = some 3 := by decide +kernel
def fX8_bounds_21  (M : Mem) : Option (Int32 × Mem) :=
  (nz (0 : Int32)).bind fun z1 =>
  some (z1, M)
set_option maxHeartbeats 4000000 in
set_option maxRecDepth 100000 in
theorem tX8_bounds_21 {κ : KT} {p : Int32 × Mem} (O : OkK κ mX8_bounds) (hf : κ.2.2.2.2.2.2.2.2.2.2.2.2.2 = (some (.int p.1), p.2))  {M : Mem} (h : fX8_bounds_21  M = some p) : G κ mX8_bounds 0 0 21 [] [] M := by
  unfold fX8_bounds_21 at h
  refine g_iconst (v := 0) (pc' := 22) O dX8_bounds_21 (by decide) rfl ?_
  replace h := ob h; obtain ⟨z1, ez1, h⟩ := h
  obtain ⟨hz1, ez1b⟩ := nz_spec ez1
  rw [ez1b] at h
  cases h
  exact g_ireturn O dX8_bounds_22 rfl (nz_nar hz1) hf (by decide) (by decide)
def fX8_bounds  (this : Nat) (p0 : Int32) (p1 : Int64) (p2 : Int64) (M : Mem) : Option (Int32 × Mem) :=
  (pF M 5 this 0 (.int (0 : Int32))).bind fun M1 =>
  (fX8_in p0 (0 : Int32) (2 : Int32) M1).bind fun r2 =>
  if r2.1 = 0 then (fX8_bounds_21 r2.2)
  else (if (lg_cmp p1 p2) ≤ 0 then ((gN r2.2 5 this 12).bind fun v3 =>
  (sL r2.2 v3 p0 p1).bind fun M4 =>
  (gN M4 5 this 13).bind fun v5 =>
  (sL M4 v5 p0 p2).bind fun M6 =>
  (nz (1 : Int32)).bind fun z7 =>
  some (z7, M6))
  else (fX8_bounds_21 r2.2))
set_option maxHeartbeats 4000000 in
set_option maxRecDepth 100000 in
theorem okX8_bounds {l : Launch} {p : Int32 × Mem} {this : Nat} {p0 : Int32} {p1 : Int64} {p2 : Int64} {M : Mem} (h : fX8_bounds this p0 p1 p2 M = some p) : Cn l yX8_bounds mX8_bounds [.ref this, .int p0, .long p1, .long p2] M (some (.int p.1)) p.2 := by
  refine Cn.of [(0, .ref this), (1, .int p0), (2, .long p1), (4, .long p2)] (by decide) rfl rfl (Nat.le_of_ble_eq_true rfl) rfl (fun κ _ hf O => ?_)
  unfold fX8_bounds at h
  refine g_aload_n (pc' := 1) 0 O dX8_bounds_0 rfl rfl rfl ?_
  refine g_iconst (v := 0) (pc' := 2) O dX8_bounds_1 (by decide) rfl ?_
  replace h := ob h; obtain ⟨M1, eM1, h⟩ := h
  refine g_putF (C := RX8) (T := TX8) (N := 29) (ci := 5) (k := 0) (pc' := 5) O dX8_bounds_2 rfl inX8 (by decide) tw_716 tyX8 tyX8_ok nmX8 rfl rfl rfl rfl eM1 rfl ?_
  refine g_iload_n (pc' := 6) 1 O dX8_bounds_5 rfl rfl rfl ?_
  refine g_iconst (v := 0) (pc' := 7) O dX8_bounds_6 (by decide) rfl ?_
  refine g_iconst (v := 2) (pc' := 8) O dX8_bounds_7 (by decide) rfl ?_
  replace h := ob h; obtain ⟨r2, er2, h⟩ := h
  refine g_callS (y := yX8_in) (ν := mX8_in) (n := 3) (As := [.int p0, .int (0 : Int32), .int (2 : Int32)]) (b := 0) (st := []) (M2 := r2.2) (r1 := (some (.int r2.1))) (pc' := 11) O dX8_bounds_8 tw_811 tw_58 tw_810 tw_809 hyX8_in rfl (okX8_in er2) (Nat.le_of_ble_eq_true rfl) ⟨Nat.le_of_ble_eq_true rfl, Nat.le_of_ble_eq_true rfl⟩ ⟨Nat.le_of_ble_eq_true rfl, Nat.le_of_ble_eq_true rfl⟩ rfl ?_
  show G κ mX8_bounds 0 0 11 [(0, .ref this), (1, .int p0), (2, .long p1), (4, .long p2)] [.int r2.1] r2.2
  refine g_if_eq (tgt := 21) (pc' := 14) O dX8_bounds_11 (by decide) rfl (fun hc => ?_) (fun hc => ?_)
  · replace h := ip hc h
    refine g_sub (lv' := []) [] rfl ?_
    exact tX8_bounds_21 O hf h
  · replace h := ine hc h
    refine g_lload_n (pc' := 15) 2 O dX8_bounds_14 rfl rfl rfl ?_
    refine g_lload (pc' := 17) 3 O dX8_bounds_15 rfl rfl ?_
    refine g_lcmp (pc' := 18) O dX8_bounds_17 rfl ?_
    refine g_if_le (tgt := 23) (pc' := 21) O dX8_bounds_18 (by decide) rfl (fun hc => ?_) (fun hc => ?_)
    · replace h := ip hc h
      refine g_aload_n (pc' := 24) 0 O dX8_bounds_23 rfl rfl rfl ?_
      replace h := ob h; obtain ⟨v3, ev3, h⟩ := h
      refine g_getF (C := RX8) (T := TX8) (N := 29) (ci := 5) (k := 12) (pc' := 27) O dX8_bounds_24 rfl inX8 (by decide) tw_728 (gN_F ev3) rfl ?_
      refine g_iload_n (pc' := 28) 1 O dX8_bounds_27 rfl rfl rfl ?_
      refine g_lload_n (pc' := 29) 2 O dX8_bounds_28 rfl rfl rfl ?_
      replace h := ob h; obtain ⟨M4, eM4, h⟩ := h
      refine g_last (pc' := 30) O dX8_bounds_29 eM4 rfl ?_
      refine g_aload_n (pc' := 31) 0 O dX8_bounds_30 rfl rfl rfl ?_
      replace h := ob h; obtain ⟨v5, ev5, h⟩ := h
      refine g_getF (C := RX8) (T := TX8) (N := 29) (ci := 5) (k := 13) (pc' := 34) O dX8_bounds_31 rfl inX8 (by decide) tw_729 (gN_F ev5) rfl ?_
      refine g_iload_n (pc' := 35) 1 O dX8_bounds_34 rfl rfl rfl ?_
      refine g_lload (pc' := 37) 3 O dX8_bounds_35 rfl rfl ?_
      replace h := ob h; obtain ⟨M6, eM6, h⟩ := h
      refine g_last (pc' := 38) O dX8_bounds_37 eM6 rfl ?_
      refine g_iconst (v := 1) (pc' := 39) O dX8_bounds_38 (by decide) rfl ?_
      replace h := ob h; obtain ⟨z7, ez7, h⟩ := h
      obtain ⟨hz7, ez7b⟩ := nz_spec ez7
      rw [ez7b] at h
      cases h
      exact g_ireturn O dX8_bounds_39 rfl (nz_nar hz7) hf (by decide) (by decide)
    · replace h := ine hc h
      refine g_sub (lv' := []) [] rfl ?_
      exact tX8_bounds_21 O hf h
