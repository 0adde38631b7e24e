abbrev mL_law : MD := (cL_law, 4, RL, (some .boolean), { frames := 11, cells := 600000, slots := 7302250, locals := 408 }, "law")
def FL : Nat := 1000
def fL_law_994 (k18 : Nat → Nat → Nat → Int32 → Mem → Option (Int32 × Mem)) (x0 : Nat) (x1 : Nat) (x2 : Nat) (x3 : Int32) (M : Mem) : Option (Int32 × Mem) :=
  k18 x0 x1 x2 (x3 + (9 : Int32)) M
set_option maxHeartbeats 4000000 in
set_option maxRecDepth 100000 in
theorem tL_law_994 {κ : KT} {p : Int32 × Mem} (O : OkK κ mL_law) (hf : κ.2.2.2.2.2.2.2.2.2.2.2.2.2 = (some (.int p.1), p.2)) {cb sb : Nat} (hcb : cb + 20 ≤ 600000) (hsb : sb + 4000 ≤ 7302250) {k18 : Nat → Nat → Nat → Int32 → Mem → Option (Int32 × Mem)} (hk18 : ∀ (x0 : Nat) (x1 : Nat) (x2 : Nat) (x3 : Int32) (M : Mem), k18 x0 x1 x2 x3 M = some p → G κ mL_law (cb + 20) (sb + 4000) 18 [(0, .ref x0), (1, .ref x1), (2, .ref x2), (3, .int x3)] [] M) {x0 : Nat} {x1 : Nat} {x2 : Nat} {x3 : Int32} {M : Mem} (h : fL_law_994 k18 x0 x1 x2 x3 M = some p) : G κ mL_law (cb + 10) (sb + 2055) 994 [(0, .ref x0), (1, .ref x1), (2, .ref x2), (3, .int x3)] [] M := by
  unfold fL_law_994 at h
  refine g_iinc (q := 3) (v := x3 + (9 : Int32)) (lv' := [(3, .int (x3 + (9 : Int32))), (0, .ref x0), (1, .ref x1), (2, .ref x2)]) (pc' := 997) O dL_law_994 rfl rfl (by decide) rfl rfl ?_
  refine g_goto (pc' := 18) O dL_law_997 (by decide) ?_
  refine g_sub (lv' := [(0, .ref x0), (1, .ref x1), (2, .ref x2), (3, .int (x3 + (9 : Int32)))]) [1, 2, 3, 0] rfl ?_
  refine g_widen (c2 := cb + 20) (s2 := sb + 4000) (by omega) (by omega) ?_
  exact hk18 x0 x1 x2 (x3 + (9 : Int32)) M h
def fL_law_235 (k18 : Nat → Nat → Nat → Int32 → Mem → Option (Int32 × Mem)) (x0 : Nat) (x1 : Nat) (x2 : Nat) (x3 : Int32) (s0 : Int32) (s1 : Int32) (s2 : Int32) (s3 : Int32) (s4 : Int32) (s5 : Int32) (s6 : Nat) (s7 : Int32) (M : Mem) : Option (Int32 × Mem) :=
  (kA M .int x0 (x3 + (7 : Int32))).bind fun v1 =>
  (kA M .int x0 (x3 + (8 : Int32))).bind fun v2 =>
  (ck M 5 s6).bind fun u3 =>
  (fX8_land s6 s5 s4 s3 s2 s1 s0 v1 v2 M).bind fun r4 =>
  if s7 = r4.1 then (fL_law_994 k18 x0 x1 x2 x3 r4.2)
  else ((nz (0 : Int32)).bind fun z5 =>
  some (z5, r4.2))
set_option maxHeartbeats 4000000 in
set_option maxRecDepth 100000 in
theorem tL_law_235 {κ : KT} {p : Int32 × Mem} (O : OkK κ mL_law) (hf : κ.2.2.2.2.2.2.2.2.2.2.2.2.2 = (some (.int p.1), p.2)) {cb sb : Nat} (hcb : cb + 20 ≤ 600000) (hsb : sb + 4000 ≤ 7302250) {k18 : Nat → Nat → Nat → Int32 → Mem → Option (Int32 × Mem)} (hk18 : ∀ (x0 : Nat) (x1 : Nat) (x2 : Nat) (x3 : Int32) (M : Mem), k18 x0 x1 x2 x3 M = some p → G κ mL_law (cb + 20) (sb + 4000) 18 [(0, .ref x0), (1, .ref x1), (2, .ref x2), (3, .int x3)] [] M) {x0 : Nat} {x1 : Nat} {x2 : Nat} {x3 : Int32} {s0 : Int32} {s1 : Int32} {s2 : Int32} {s3 : Int32} {s4 : Int32} {s5 : Int32} {s6 : Nat} {s7 : Int32} {M : Mem} (h : fL_law_235 k18 x0 x1 x2 x3 s0 s1 s2 s3 s4 s5 s6 s7 M = some p) : G κ mL_law (cb + 1) (sb + 8) 235 [(0, .ref x0), (1, .ref x1), (2, .ref x2), (3, .int x3)] [.int s0, .int s1, .int s2, .int s3, .int s4, .int s5, .ref s6, .int s7] M := by
  unfold fL_law_235 at h
  refine g_aload_n (pc' := 236) 0 O dL_law_235 rfl rfl rfl ?_
  refine g_iload_n (pc' := 237) 3 O dL_law_236 rfl rfl rfl ?_
  refine g_bipush (v := 7) (pc' := 239) O dL_law_237 (by decide) rfl ?_
  refine g_iadd (pc' := 240) O dL_law_239 rfl ?_
  replace h := ob h; obtain ⟨v1, ev1, h⟩ := h
  refine g_kiald (pc' := 241) O dL_law_240 ev1 rfl ?_
  refine g_aload_n (pc' := 242) 0 O dL_law_241 rfl rfl rfl ?_
  refine g_iload_n (pc' := 243) 3 O dL_law_242 rfl rfl rfl ?_
  refine g_bipush (v := 8) (pc' := 245) O dL_law_243 (by decide) rfl ?_
  refine g_iadd (pc' := 246) O dL_law_245 rfl ?_
  replace h := ob h; obtain ⟨v2, ev2, h⟩ := h
  refine g_kiald (pc' := 247) O dL_law_246 ev2 rfl ?_
  replace h := ob h; obtain ⟨u3, eu3, h⟩ := h
  replace h := ob h; obtain ⟨r4, er4, h⟩ := h
  refine g_callV (y := yX8_land) (ν := mX8_land) (n := 8) (As := [.int s5, .int s4, .int s3, .int s2, .int s1, .int s0, .int v1, .int v2]) (b := s6) (st := [.int s7]) (M2 := r4.2) (r1 := (some (.int r4.1))) (pc' := 250) O dL_law_247 tw_808 tw_58 tw_806 tw_807 tw_805 hyX8_land rfl rfl eu3 (okX8_land er4) (Nat.le_of_ble_eq_true rfl) ⟨Nat.le_of_ble_eq_true rfl, Nat.le_of_ble_eq_true rfl⟩ ⟨(by show cb + 1 + 0 ≤ 600000; omega), (by show sb + 8 + 0 ≤ 7302250; omega)⟩ rfl ?_
  show G κ mL_law (cb + 1) (sb + 8) 250 [(0, .ref x0), (1, .ref x1), (2, .ref x2), (3, .int x3)] [.int r4.1, .int s7] r4.2
  refine g_icmp_eq (tgt := 994) (pc' := 253) O dL_law_250 (by decide) rfl (fun hc => ?_) (fun hc => ?_)
  · replace h := ip hc h
    refine g_widen (c2 := cb + 10) (s2 := sb + 2055) (by omega) (by omega) ?_
    exact tL_law_994 O hf hcb hsb hk18 h
  · replace h := ine hc h
    refine g_iconst (v := 0) (pc' := 254) O dL_law_253 (by decide) rfl ?_
    replace h := ob h; obtain ⟨z5, ez5, h⟩ := h
    obtain ⟨hz5, ez5b⟩ := nz_spec ez5
    rw [ez5b] at h
    cases h
    exact g_ireturn O dL_law_254 rfl (nz_nar hz5) hf (by show cb + 1 ≤ 600000; omega) (by show sb + 8 ≤ 7302250; omega)
def fL_law_180 (k18 : Nat → Nat → Nat → Int32 → Mem → Option (Int32 × Mem)) (x0 : Nat) (x1 : Nat) (x2 : Nat) (x3 : Int32) (s0 : Int32) (s1 : Int32) (s2 : Int32) (s3 : Int32) (s4 : Int32) (s5 : Int32) (s6 : Nat) (M : Mem) : Option (Int32 × Mem) :=
  (kA M .int x0 (x3 + (7 : Int32))).bind fun v1 =>
  (kA M .int x0 (x3 + (8 : Int32))).bind fun v2 =>
  (ck M 4 s6).bind fun u3 =>
  (fX7_land s6 s5 s4 s3 s2 s1 s0 v1 v2 M).bind fun r4 =>
  (kA r4.2 .int x0 (x3 + (1 : Int32))).bind fun v5 =>
  (kA r4.2 .int x0 (x3 + (2 : Int32))).bind fun v6 =>
  (kA r4.2 .int x0 (x3 + (3 : Int32))).bind fun v7 =>
  (kA r4.2 .int x0 (x3 + (4 : Int32))).bind fun v8 =>
  (kA r4.2 .int x0 (x3 + (5 : Int32))).bind fun v9 =>
  (kA r4.2 .int x0 (x3 + (6 : Int32))).bind fun v10 =>
  if v10 = 0 then (fL_law_235 k18 x0 x1 x2 x3 (0 : Int32) v9 v8 v7 v6 v5 x2 r4.1 r4.2)
  else (fL_law_235 k18 x0 x1 x2 x3 (1 : Int32) v9 v8 v7 v6 v5 x2 r4.1 r4.2)
set_option maxHeartbeats 4000000 in
set_option maxRecDepth 100000 in
theorem tL_law_180 {κ : KT} {p : Int32 × Mem} (O : OkK κ mL_law) (hf : κ.2.2.2.2.2.2.2.2.2.2.2.2.2 = (some (.int p.1), p.2)) {cb sb : Nat} (hcb : cb + 20 ≤ 600000) (hsb : sb + 4000 ≤ 7302250) {k18 : Nat → Nat → Nat → Int32 → Mem → Option (Int32 × Mem)} (hk18 : ∀ (x0 : Nat) (x1 : Nat) (x2 : Nat) (x3 : Int32) (M : Mem), k18 x0 x1 x2 x3 M = some p → G κ mL_law (cb + 20) (sb + 4000) 18 [(0, .ref x0), (1, .ref x1), (2, .ref x2), (3, .int x3)] [] M) {x0 : Nat} {x1 : Nat} {x2 : Nat} {x3 : Int32} {s0 : Int32} {s1 : Int32} {s2 : Int32} {s3 : Int32} {s4 : Int32} {s5 : Int32} {s6 : Nat} {M : Mem} (h : fL_law_180 k18 x0 x1 x2 x3 s0 s1 s2 s3 s4 s5 s6 M = some p) : G κ mL_law (cb + 0) (sb + 0) 180 [(0, .ref x0), (1, .ref x1), (2, .ref x2), (3, .int x3)] [.int s0, .int s1, .int s2, .int s3, .int s4, .int s5, .ref s6] M := by
  unfold fL_law_180 at h
  refine g_aload_n (pc' := 181) 0 O dL_law_180 rfl rfl rfl ?_
  refine g_iload_n (pc' := 182) 3 O dL_law_181 rfl rfl rfl ?_
  refine g_bipush (v := 7) (pc' := 184) O dL_law_182 (by decide) rfl ?_
  refine g_iadd (pc' := 185) O dL_law_184 rfl ?_
  replace h := ob h; obtain ⟨v1, ev1, h⟩ := h
  refine g_kiald (pc' := 186) O dL_law_185 ev1 rfl ?_
  refine g_aload_n (pc' := 187) 0 O dL_law_186 rfl rfl rfl ?_
  refine g_iload_n (pc' := 188) 3 O dL_law_187 rfl rfl rfl ?_
  refine g_bipush (v := 8) (pc' := 190) O dL_law_188 (by decide) rfl ?_
  refine g_iadd (pc' := 191) O dL_law_190 rfl ?_
  replace h := ob h; obtain ⟨v2, ev2, h⟩ := h
  refine g_kiald (pc' := 192) O dL_law_191 ev2 rfl ?_
  replace h := ob h; obtain ⟨u3, eu3, h⟩ := h
  replace h := ob h; obtain ⟨r4, er4, h⟩ := h
  refine g_callV (y := yX7_land) (ν := mX7_land) (n := 8) (As := [.int s5, .int s4, .int s3, .int s2, .int s1, .int s0, .int v1, .int v2]) (b := s6) (st := []) (M2 := r4.2) (r1 := (some (.int r4.1))) (pc' := 195) O dL_law_192 tw_193 tw_53 tw_191 tw_192 tw_190 hyX7_land rfl rfl eu3 (okX7_land er4) (Nat.le_of_ble_eq_true rfl) ⟨Nat.le_of_ble_eq_true rfl, Nat.le_of_ble_eq_true rfl⟩ ⟨(by show cb + 0 + 1 ≤ 600000; omega), (by show sb + 0 + 8 ≤ 7302250; omega)⟩ rfl ?_
  show G κ mL_law (cb + 1) (sb + 8) 195 [(0, .ref x0), (1, .ref x1), (2, .ref x2), (3, .int x3)] [.int r4.1] r4.2
  refine g_aload_n (pc' := 196) 2 O dL_law_195 rfl rfl rfl ?_
  refine g_aload_n (pc' := 197) 0 O dL_law_196 rfl rfl rfl ?_
  refine g_iload_n (pc' := 198) 3 O dL_law_197 rfl rfl rfl ?_
  refine g_iconst (v := 1) (pc' := 199) O dL_law_198 (by decide) rfl ?_
  refine g_iadd (pc' := 200) O dL_law_199 rfl ?_
  replace h := ob h; obtain ⟨v5, ev5, h⟩ := h
  refine g_kiald (pc' := 201) O dL_law_200 ev5 rfl ?_
  refine g_aload_n (pc' := 202) 0 O dL_law_201 rfl rfl rfl ?_
  refine g_iload_n (pc' := 203) 3 O dL_law_202 rfl rfl rfl ?_
  refine g_iconst (v := 2) (pc' := 204) O dL_law_203 (by decide) rfl ?_
  refine g_iadd (pc' := 205) O dL_law_204 rfl ?_
  replace h := ob h; obtain ⟨v6, ev6, h⟩ := h
  refine g_kiald (pc' := 206) O dL_law_205 ev6 rfl ?_
  refine g_aload_n (pc' := 207) 0 O dL_law_206 rfl rfl rfl ?_
  refine g_iload_n (pc' := 208) 3 O dL_law_207 rfl rfl rfl ?_
  refine g_iconst (v := 3) (pc' := 209) O dL_law_208 (by decide) rfl ?_
  refine g_iadd (pc' := 210) O dL_law_209 rfl ?_
  replace h := ob h; obtain ⟨v7, ev7, h⟩ := h
  refine g_kiald (pc' := 211) O dL_law_210 ev7 rfl ?_
  refine g_aload_n (pc' := 212) 0 O dL_law_211 rfl rfl rfl ?_
  refine g_iload_n (pc' := 213) 3 O dL_law_212 rfl rfl rfl ?_
  refine g_iconst (v := 4) (pc' := 214) O dL_law_213 (by decide) rfl ?_
  refine g_iadd (pc' := 215) O dL_law_214 rfl ?_
  replace h := ob h; obtain ⟨v8, ev8, h⟩ := h
  refine g_kiald (pc' := 216) O dL_law_215 ev8 rfl ?_
  refine g_aload_n (pc' := 217) 0 O dL_law_216 rfl rfl rfl ?_
  refine g_iload_n (pc' := 218) 3 O dL_law_217 rfl rfl rfl ?_
  refine g_iconst (v := 5) (pc' := 219) O dL_law_218 (by decide) rfl ?_
  refine g_iadd (pc' := 220) O dL_law_219 rfl ?_
  replace h := ob h; obtain ⟨v9, ev9, h⟩ := h
  refine g_kiald (pc' := 221) O dL_law_220 ev9 rfl ?_
  refine g_aload_n (pc' := 222) 0 O dL_law_221 rfl rfl rfl ?_
  refine g_iload_n (pc' := 223) 3 O dL_law_222 rfl rfl rfl ?_
  refine g_bipush (v := 6) (pc' := 225) O dL_law_223 (by decide) rfl ?_
  refine g_iadd (pc' := 226) O dL_law_225 rfl ?_
  replace h := ob h; obtain ⟨v10, ev10, h⟩ := h
  refine g_kiald (pc' := 227) O dL_law_226 ev10 rfl ?_
  refine g_if_eq (tgt := 234) (pc' := 230) O dL_law_227 (by decide) rfl (fun hc => ?_) (fun hc => ?_)
  · replace h := ip hc h
    refine g_iconst (v := 0) (pc' := 235) O dL_law_234 (by decide) rfl ?_
    exact tL_law_235 O hf hcb hsb hk18 h
  · replace h := ine hc h
    refine g_iconst (v := 1) (pc' := 231) O dL_law_230 (by decide) rfl ?_
    refine g_goto (pc' := 235) O dL_law_231 (by decide) ?_
    exact tL_law_235 O hf hcb hsb hk18 h
def fL_law_18  : Nat → Nat → Nat → Nat → Int32 → Mem → Option (Int32 × Mem)
  | 0, _, _, _, _, _ => none
  | n + 1, x0, x1, x2, x3, M =>
    (kN M x0).bind fun v1 =>
    if (v1 - (9 : Int32)) < x3 then ((nz (1 : Int32)).bind fun z2 =>
    some (z2, M))
    else ((kA M .int x0 x3).bind fun v3 =>
    if (v3 &&& (31 : Int32)) = (0 : Int32) then ((kA M .int x0 (x3 + (1 : Int32))).bind fun v4 =>
    (kA M .int x0 (x3 + (2 : Int32))).bind fun v5 =>
    (kA M .int x0 (x3 + (3 : Int32))).bind fun v6 =>
    (kA M .int x0 (x3 + (4 : Int32))).bind fun v7 =>
    (kA M .int x0 (x3 + (5 : Int32))).bind fun v8 =>
    (kA M .int x0 (x3 + (6 : Int32))).bind fun v9 =>
    if v9 = 0 then (fL_law_180 (fL_law_18 n) x0 x1 x2 x3 (0 : Int32) v8 v7 v6 v5 v4 x1 M)
    else (fL_law_180 (fL_law_18 n) x0 x1 x2 x3 (1 : Int32) v8 v7 v6 v5 v4 x1 M))
    else (if (v3 &&& (31 : Int32)) = (1 : Int32) then ((kA M .int x0 (x3 + (1 : Int32))).bind fun v10 =>
    (ck M 4 x1).bind fun u11 =>
    (fX7_key x1 v10 M).bind fun r12 =>
    (kA r12.2 .int x0 (x3 + (1 : Int32))).bind fun v13 =>
    (ck r12.2 5 x2).bind fun u14 =>
    (fX8_key x2 v13 r12.2).bind fun r15 =>
    if r12.1 = r15.1 then (fL_law_994 (fL_law_18 n) x0 x1 x2 x3 r15.2)
    else ((nz (0 : Int32)).bind fun z16 =>
    some (z16, r15.2)))
    else (if (v3 &&& (31 : Int32)) = (2 : Int32) then ((kA M .int x0 (x3 + (1 : Int32))).bind fun v17 =>
    (ck M 4 x1).bind fun u18 =>
    (fX7_keys x1 v17 M).bind fun r19 =>
    (kA r19.2 .int x0 (x3 + (1 : Int32))).bind fun v20 =>
    (ck r19.2 5 x2).bind fun u21 =>
    (fX8_keys x2 v20 r19.2).bind fun r22 =>
    if r19.1 = r22.1 then (fL_law_994 (fL_law_18 n) x0 x1 x2 x3 r22.2)
    else ((nz (0 : Int32)).bind fun z23 =>
    some (z23, r22.2)))
    else (if (v3 &&& (31 : Int32)) = (3 : Int32) then ((kA M .int x0 (x3 + (1 : Int32))).bind fun v24 =>
    (ck M 4 x1).bind fun u25 =>
    (fX7_undo x1 v24 M).bind fun r26 =>
    (kA r26.2 .int x0 (x3 + (1 : Int32))).bind fun v27 =>
    (ck r26.2 5 x2).bind fun u28 =>
    (fX8_undo x2 v27 r26.2).bind fun r29 =>
    if r26.1 = r29.1 then (fL_law_994 (fL_law_18 n) x0 x1 x2 x3 r29.2)
    else ((nz (0 : Int32)).bind fun z30 =>
    some (z30, r29.2)))
    else (if (v3 &&& (31 : Int32)) = (4 : Int32) then ((kA M .int x0 (x3 + (1 : Int32))).bind fun v31 =>
    (kA M .int x0 (x3 + (2 : Int32))).bind fun v32 =>
    (kA M .int x0 (x3 + (3 : Int32))).bind fun v33 =>
    (kA M .int x0 (x3 + (4 : Int32))).bind fun v34 =>
    (kA M .int x0 (x3 + (5 : Int32))).bind fun v35 =>
    (ck M 4 x1).bind fun u36 =>
    (fX7_bounds x1 v31 (((v32.toInt64) <<< ((32 : Int32).toInt64 &&& 63)) ||| ((v33.toInt64) &&& (4294967295 : Int64))) (((v34.toInt64) <<< ((32 : Int32).toInt64 &&& 63)) ||| ((v35.toInt64) &&& (4294967295 : Int64))) M).bind fun r37 =>
    (kA r37.2 .int x0 (x3 + (1 : Int32))).bind fun v38 =>
    (kA r37.2 .int x0 (x3 + (2 : Int32))).bind fun v39 =>
    (kA r37.2 .int x0 (x3 + (3 : Int32))).bind fun v40 =>
    (kA r37.2 .int x0 (x3 + (4 : Int32))).bind fun v41 =>
    (kA r37.2 .int x0 (x3 + (5 : Int32))).bind fun v42 =>
    (ck r37.2 5 x2).bind fun u43 =>
    (fX8_bounds x2 v38 (((v39.toInt64) <<< ((32 : Int32).toInt64 &&& 63)) ||| ((v40.toInt64) &&& (4294967295 : Int64))) (((v41.toInt64) <<< ((32 : Int32).toInt64 &&& 63)) ||| ((v42.toInt64) &&& (4294967295 : Int64))) r37.2).bind fun r44 =>
    if r37.1 = r44.1 then (fL_law_994 (fL_law_18 n) x0 x1 x2 x3 r44.2)
    else ((nz (0 : Int32)).bind fun z45 =>
    some (z45, r44.2)))
    else (if (v3 &&& (31 : Int32)) = (5 : Int32) then ((kA M .int x0 (x3 + (1 : Int32))).bind fun v46 =>
    (kA M .int x0 (x3 + (2 : Int32))).bind fun v47 =>
    (ck M 4 x1).bind fun u48 =>
    (fX7_value x1 v46 v47 M).bind fun r49 =>
    (kA r49.2 .int x0 (x3 + (1 : Int32))).bind fun v50 =>
    (kA r49.2 .int x0 (x3 + (2 : Int32))).bind fun v51 =>
    (ck r49.2 5 x2).bind fun u52 =>
    (fX8_value x2 v50 v51 r49.2).bind fun r53 =>
    if (lg_cmp r49.1 r53.1) = 0 then (fL_law_994 (fL_law_18 n) x0 x1 x2 x3 r53.2)
    else ((nz (0 : Int32)).bind fun z54 =>
    some (z54, r53.2)))
    else (if (v3 &&& (31 : Int32)) = (6 : Int32) then ((kA M .int x0 (x3 + (1 : Int32))).bind fun v55 =>
    (kA M .int x0 (x3 + (2 : Int32))).bind fun v56 =>
    (ck M 4 x1).bind fun u57 =>
    (fX7_open x1 v55 v56 M).bind fun r58 =>
    (kA r58.2 .int x0 (x3 + (1 : Int32))).bind fun v59 =>
    (kA r58.2 .int x0 (x3 + (2 : Int32))).bind fun v60 =>
    (ck r58.2 5 x2).bind fun u61 =>
    (fX8_open x2 v59 v60 r58.2).bind fun r62 =>
    if r58.1 = r62.1 then (fL_law_994 (fL_law_18 n) x0 x1 x2 x3 r62.2)
    else ((nz (0 : Int32)).bind fun z63 =>
    some (z63, r62.2)))
    else (if (v3 &&& (31 : Int32)) = (7 : Int32) then ((kA M .int x0 (x3 + (1 : Int32))).bind fun v64 =>
    (kA M .int x0 (x3 + (2 : Int32))).bind fun v65 =>
    (ck M 4 x1).bind fun u66 =>
    (fX7_good x1 v64 v65 M).bind fun r67 =>
    (kA r67.2 .int x0 (x3 + (1 : Int32))).bind fun v68 =>
    (kA r67.2 .int x0 (x3 + (2 : Int32))).bind fun v69 =>
    (ck r67.2 5 x2).bind fun u70 =>
    (fX8_good x2 v68 v69 r67.2).bind fun r71 =>
    if r67.1 = r71.1 then (fL_law_994 (fL_law_18 n) x0 x1 x2 x3 r71.2)
    else ((nz (0 : Int32)).bind fun z72 =>
    some (z72, r71.2)))
    else (if (v3 &&& (31 : Int32)) = (8 : Int32) then ((kA M .int x0 (x3 + (1 : Int32))).bind fun v73 =>
    (kA M .int x0 (x3 + (2 : Int32))).bind fun v74 =>
    (ck M 4 x1).bind fun u75 =>
    (fX7_state x1 v73 v74 M).bind fun r76 =>
    (kA r76.2 .int x0 (x3 + (1 : Int32))).bind fun v77 =>
    (kA r76.2 .int x0 (x3 + (2 : Int32))).bind fun v78 =>
    (ck r76.2 5 x2).bind fun u79 =>
    (fX8_state x2 v77 v78 r76.2).bind fun r80 =>
    if r76.1 = r80.1 then (fL_law_994 (fL_law_18 n) x0 x1 x2 x3 r80.2)
    else ((nz (0 : Int32)).bind fun z81 =>
    some (z81, r80.2)))
    else (if (v3 &&& (31 : Int32)) = (9 : Int32) then ((kA M .int x0 (x3 + (1 : Int32))).bind fun v82 =>
    (kA M .int x0 (x3 + (2 : Int32))).bind fun v83 =>
    (kA M .int x0 (x3 + (3 : Int32))).bind fun v84 =>
    (kA M .int x0 (x3 + (4 : Int32))).bind fun v85 =>
    (kA M .int x0 (x3 + (5 : Int32))).bind fun v86 =>
    (ck M 4 x1).bind fun u87 =>
    (fX7_show x1 v82 v83 (((v84.toInt64) <<< ((32 : Int32).toInt64 &&& 63)) ||| ((v85.toInt64) &&& (4294967295 : Int64))) v86 M).bind fun r88 =>
    (kA r88.2 .int x0 (x3 + (1 : Int32))).bind fun v89 =>
    (kA r88.2 .int x0 (x3 + (2 : Int32))).bind fun v90 =>
    (kA r88.2 .int x0 (x3 + (3 : Int32))).bind fun v91 =>
    (kA r88.2 .int x0 (x3 + (4 : Int32))).bind fun v92 =>
    (kA r88.2 .int x0 (x3 + (5 : Int32))).bind fun v93 =>
    (ck r88.2 5 x2).bind fun u94 =>
    (fX8_show x2 v89 v90 (((v91.toInt64) <<< ((32 : Int32).toInt64 &&& 63)) ||| ((v92.toInt64) &&& (4294967295 : Int64))) v93 r88.2).bind fun r95 =>
    if r88.1 = r95.1 then (fL_law_994 (fL_law_18 n) x0 x1 x2 x3 r95.2)
    else ((nz (0 : Int32)).bind fun z96 =>
    some (z96, r95.2)))
    else (if (v3 &&& (31 : Int32)) = (10 : Int32) then ((kA M .int x0 (x3 + (1 : Int32))).bind fun v97 =>
    (ck M 4 x1).bind fun u98 =>
    (fX7_words x1 v97 M).bind fun r99 =>
    (kA r99.2 .int x0 (x3 + (1 : Int32))).bind fun v100 =>
    (ck r99.2 5 x2).bind fun u101 =>
    (fX8_words x2 v100 r99.2).bind fun r102 =>
    if r99.1 = r102.1 then (fL_law_994 (fL_law_18 n) x0 x1 x2 x3 r102.2)
    else ((nz (0 : Int32)).bind fun z103 =>
    some (z103, r102.2)))
    else (if (v3 &&& (31 : Int32)) = (11 : Int32) then ((kA M .int x0 (x3 + (1 : Int32))).bind fun v104 =>
    (ck M 4 x1).bind fun u105 =>
    (fX7_shown x1 v104 M).bind fun r106 =>
    (kA r106.2 .int x0 (x3 + (1 : Int32))).bind fun v107 =>
    (ck r106.2 5 x2).bind fun u108 =>
    (fX8_shown x2 v107 r106.2).bind fun r109 =>
    if r106.1 = r109.1 then (fL_law_994 (fL_law_18 n) x0 x1 x2 x3 r109.2)
    else ((nz (0 : Int32)).bind fun z110 =>
    some (z110, r109.2)))
    else (if (v3 &&& (31 : Int32)) = (12 : Int32) then ((ck M 4 x1).bind fun u111 =>
    (fX7_take x1 M).bind fun r112 =>
    (ck r112.2 5 x2).bind fun u113 =>
    (fX8_take x2 r112.2).bind fun r114 =>
    if r112.1 = r114.1 then (fL_law_994 (fL_law_18 n) x0 x1 x2 x3 r114.2)
    else ((nz (0 : Int32)).bind fun z115 =>
    some (z115, r114.2)))
    else (if (v3 &&& (31 : Int32)) = (13 : Int32) then ((ck M 4 x1).bind fun u116 =>
    (fX7_spoken x1 M).bind fun r117 =>
    (ck r117.2 5 x2).bind fun u118 =>
    (fX8_spoken x2 r117.2).bind fun r119 =>
    if r117.1 = r119.1 then (fL_law_994 (fL_law_18 n) x0 x1 x2 x3 r119.2)
    else ((nz (0 : Int32)).bind fun z120 =>
    some (z120, r119.2)))
    else (if (v3 &&& (31 : Int32)) = (14 : Int32) then ((kA M .int x0 (x3 + (1 : Int32))).bind fun v121 =>
    (kA M .int x0 (x3 + (2 : Int32))).bind fun v122 =>
    (kA M .int x0 (x3 + (3 : Int32))).bind fun v123 =>
    (kA M .int x0 (x3 + (4 : Int32))).bind fun v124 =>
    (kA M .int x0 (x3 + (5 : Int32))).bind fun v125 =>
    (kA M .int x0 (x3 + (6 : Int32))).bind fun v126 =>
    (ck M 4 x1).bind fun u127 =>
    (fX7_other x1 v121 v122 v123 (((v124.toInt64) <<< ((32 : Int32).toInt64 &&& 63)) ||| ((v125.toInt64) &&& (4294967295 : Int64))) v126 M).bind fun r128 =>
    (kA r128.2 .int x0 (x3 + (1 : Int32))).bind fun v129 =>
    (kA r128.2 .int x0 (x3 + (2 : Int32))).bind fun v130 =>
    (kA r128.2 .int x0 (x3 + (3 : Int32))).bind fun v131 =>
    (kA r128.2 .int x0 (x3 + (4 : Int32))).bind fun v132 =>
    (kA r128.2 .int x0 (x3 + (5 : Int32))).bind fun v133 =>
    (kA r128.2 .int x0 (x3 + (6 : Int32))).bind fun v134 =>
    (ck r128.2 5 x2).bind fun u135 =>
    (fX8_other x2 v129 v130 v131 (((v132.toInt64) <<< ((32 : Int32).toInt64 &&& 63)) ||| ((v133.toInt64) &&& (4294967295 : Int64))) v134 r128.2).bind fun r136 =>
    if (lg_cmp r128.1 r136.1) = 0 then (fL_law_994 (fL_law_18 n) x0 x1 x2 x3 r136.2)
    else ((nz (0 : Int32)).bind fun z137 =>
    some (z137, r136.2)))
    else (if (v3 &&& (31 : Int32)) = (15 : Int32) then ((ck M 4 x1).bind fun u138 =>
    (fX7_row x1 M).bind fun r139 =>
    (ck r139.2 5 x2).bind fun u140 =>
    (fX8_row x2 r139.2).bind fun r141 =>
    if r139.1 = r141.1 then (fL_law_994 (fL_law_18 n) x0 x1 x2 x3 r141.2)
    else ((nz (0 : Int32)).bind fun z142 =>
    some (z142, r141.2)))
    else (if (v3 &&& (31 : Int32)) = (16 : Int32) then ((ck M 4 x1).bind fun u143 =>
    (fX7_clear x1 M).bind fun r144 =>
    (ck r144 5 x2).bind fun u145 =>
    (fX8_clear x2 r144).bind fun r146 =>
    fL_law_994 (fL_law_18 n) x0 x1 x2 x3 r146)
    else (if (v3 &&& (31 : Int32)) = (17 : Int32) then ((kA M .int x0 (x3 + (1 : Int32))).bind fun v147 =>
    (ck M 4 x1).bind fun u148 =>
    (fX7_fit x1 v147 M).bind fun r149 =>
    (kA r149.2 .int x0 (x3 + (1 : Int32))).bind fun v150 =>
    (ck r149.2 5 x2).bind fun u151 =>
    (fX8_fit x2 v150 r149.2).bind fun r152 =>
    if r149.1 = r152.1 then (fL_law_994 (fL_law_18 n) x0 x1 x2 x3 r152.2)
    else ((nz (0 : Int32)).bind fun z153 =>
    some (z153, r152.2)))
    else (if (v3 &&& (31 : Int32)) = (18 : Int32) then ((kA M .int x0 (x3 + (1 : Int32))).bind fun v154 =>
    (kA M .int x0 (x3 + (2 : Int32))).bind fun v155 =>
    (ck M 4 x1).bind fun u156 =>
    (fX7_misfit x1 v154 v155 M).bind fun r157 =>
    (kA r157.2 .int x0 (x3 + (1 : Int32))).bind fun v158 =>
    (kA r157.2 .int x0 (x3 + (2 : Int32))).bind fun v159 =>
    (ck r157.2 5 x2).bind fun u160 =>
    (fX8_misfit x2 v158 v159 r157.2).bind fun r161 =>
    if r157.1 = r161.1 then (fL_law_994 (fL_law_18 n) x0 x1 x2 x3 r161.2)
    else ((nz (0 : Int32)).bind fun z162 =>
    some (z162, r161.2)))
    else (if (v3 &&& (31 : Int32)) = (19 : Int32) then ((kA M .int x0 (x3 + (1 : Int32))).bind fun v163 =>
    (kA M .int x0 (x3 + (2 : Int32))).bind fun v164 =>
    (ck M 4 x1).bind fun u165 =>
    (fX7_sum x1 v163 v164 M).bind fun r166 =>
    (kA r166.2 .int x0 (x3 + (1 : Int32))).bind fun v167 =>
    (kA r166.2 .int x0 (x3 + (2 : Int32))).bind fun v168 =>
    (ck r166.2 5 x2).bind fun u169 =>
    (fX8_sum x2 v167 v168 r166.2).bind fun r170 =>
    if (lg_cmp r166.1 r170.1) = 0 then (fL_law_994 (fL_law_18 n) x0 x1 x2 x3 r170.2)
    else ((nz (0 : Int32)).bind fun z171 =>
    some (z171, r170.2)))
    else (if (v3 &&& (31 : Int32)) = (20 : Int32) then ((kA M .int x0 (x3 + (1 : Int32))).bind fun v172 =>
    (ck M 4 x1).bind fun u173 =>
    (fX7_count x1 v172 M).bind fun r174 =>
    (kA r174.2 .int x0 (x3 + (1 : Int32))).bind fun v175 =>
    (ck r174.2 5 x2).bind fun u176 =>
    (fX8_count x2 v175 r174.2).bind fun r177 =>
    if r174.1 = r177.1 then (fL_law_994 (fL_law_18 n) x0 x1 x2 x3 r177.2)
    else ((nz (0 : Int32)).bind fun z178 =>
    some (z178, r177.2)))
    else (if (v3 &&& (31 : Int32)) = (21 : Int32) then ((kA M .int x0 (x3 + (1 : Int32))).bind fun v179 =>
    (ck M 4 x1).bind fun u180 =>
    (fX7_image x1 v179 M).bind fun r181 =>
    (kA r181.2 .int x0 (x3 + (1 : Int32))).bind fun v182 =>
    (ck r181.2 5 x2).bind fun u183 =>
    (fX8_image x2 v182 r181.2).bind fun r184 =>
    if r181.1 = r184.1 then (fL_law_994 (fL_law_18 n) x0 x1 x2 x3 r184.2)
    else ((nz (0 : Int32)).bind fun z185 =>
    some (z185, r184.2)))
    else (if (v3 &&& (31 : Int32)) = (22 : Int32) then ((kA M .int x0 (x3 + (1 : Int32))).bind fun v186 =>
    (ck M 4 x1).bind fun u187 =>
    (fX7_again x1 v186 M).bind fun r188 =>
    (kA r188.2 .int x0 (x3 + (1 : Int32))).bind fun v189 =>
    (ck r188.2 5 x2).bind fun u190 =>
    (fX8_again x2 v189 r188.2).bind fun r191 =>
    if r188.1 = r191.1 then (fL_law_994 (fL_law_18 n) x0 x1 x2 x3 r191.2)
    else ((nz (0 : Int32)).bind fun z192 =>
    some (z192, r191.2)))
    else (fL_law_994 (fL_law_18 n) x0 x1 x2 x3 M))))))))))))))))))))))))
set_option maxHeartbeats 4000000 in
set_option maxRecDepth 100000 in
theorem tL_law_18 {κ : KT} {p : Int32 × Mem} (O : OkK κ mL_law) (hf : κ.2.2.2.2.2.2.2.2.2.2.2.2.2 = (some (.int p.1), p.2))  : ∀ (n : Nat) (x0 : Nat) (x1 : Nat) (x2 : Nat) (x3 : Int32) (M : Mem) (cb sb : Nat) (_ : cb + 20 * n ≤ 600000) (_ : sb + 4000 * n ≤ 7302250), fL_law_18  n x0 x1 x2 x3 M = some p → G κ mL_law cb sb 18 [(0, .ref x0), (1, .ref x1), (2, .ref x2), (3, .int x3)] [] M := by
  intro n
  induction n with
  | zero => intro x0 x1 x2 x3 M cb sb hcb0 hsb0 h; cases h
  | succ n ih =>
    intro x0 x1 x2 x3 M cb sb hcb0 hsb0 h
    have hcb : cb + 20 ≤ 600000 := by omega
    have hsb : sb + 4000 ≤ 7302250 := by omega
    show G κ mL_law (cb + 0) (sb + 0) 18 [(0, .ref x0), (1, .ref x1), (2, .ref x2), (3, .int x3)] [] M
    rw [fL_law_18] at h
    refine g_iload_n (pc' := 19) 3 O dL_law_18 rfl rfl rfl ?_
    refine g_aload_n (pc' := 20) 0 O dL_law_19 rfl rfl rfl ?_
    replace h := ob h; obtain ⟨v1, ev1, h⟩ := h
    refine g_kalen (pc' := 21) O dL_law_20 ev1 rfl ?_
    refine g_bipush (v := 9) (pc' := 23) O dL_law_21 (by decide) rfl ?_
    refine g_isub (pc' := 24) O dL_law_23 rfl ?_
    refine g_icmp_gt (tgt := 1000) (pc' := 27) O dL_law_24 (by decide) rfl (fun hc => ?_) (fun hc => ?_)
    · replace h := ip hc h
      refine g_iconst (v := 1) (pc' := 1001) O dL_law_1000 (by decide) rfl ?_
      replace h := ob h; obtain ⟨z2, ez2, h⟩ := h
      obtain ⟨hz2, ez2b⟩ := nz_spec ez2
      rw [ez2b] at h
      cases h
      exact g_ireturn O dL_law_1001 rfl (nz_nar hz2) hf (by show cb + 0 ≤ 600000; omega) (by show sb + 0 ≤ 7302250; omega)
    · replace h := ine hc h
      refine g_aload_n (pc' := 28) 0 O dL_law_27 rfl rfl rfl ?_
      refine g_iload_n (pc' := 29) 3 O dL_law_28 rfl rfl rfl ?_
      replace h := ob h; obtain ⟨v3, ev3, h⟩ := h
      refine g_kiald (pc' := 30) O dL_law_29 ev3 rfl ?_
      refine g_bipush (v := 31) (pc' := 32) O dL_law_30 (by decide) rfl ?_
      refine g_iand (pc' := 33) O dL_law_32 rfl ?_
      by_cases hs0 : (v3 &&& (31 : Int32)) = (0 : Int32)
      · replace h := ip hs0 h
        refine g_tableIn (off := 107) (pc' := 140) O dL_law_33 (by rw [hs0]; decide) (by rw [hs0]; decide) (by rw [hs0]; decide) (by decide) ?_
        refine g_aload_n (pc' := 141) 1 O dL_law_140 rfl rfl rfl ?_
        refine g_aload_n (pc' := 142) 0 O dL_law_141 rfl rfl rfl ?_
        refine g_iload_n (pc' := 143) 3 O dL_law_142 rfl rfl rfl ?_
        refine g_iconst (v := 1) (pc' := 144) O dL_law_143 (by decide) rfl ?_
        refine g_iadd (pc' := 145) O dL_law_144 rfl ?_
        replace h := ob h; obtain ⟨v4, ev4, h⟩ := h
        refine g_kiald (pc' := 146) O dL_law_145 ev4 rfl ?_
        refine g_aload_n (pc' := 147) 0 O dL_law_146 rfl rfl rfl ?_
        refine g_iload_n (pc' := 148) 3 O dL_law_147 rfl rfl rfl ?_
        refine g_iconst (v := 2) (pc' := 149) O dL_law_148 (by decide) rfl ?_
        refine g_iadd (pc' := 150) O dL_law_149 rfl ?_
        replace h := ob h; obtain ⟨v5, ev5, h⟩ := h
        refine g_kiald (pc' := 151) O dL_law_150 ev5 rfl ?_
        refine g_aload_n (pc' := 152) 0 O dL_law_151 rfl rfl rfl ?_
        refine g_iload_n (pc' := 153) 3 O dL_law_152 rfl rfl rfl ?_
        refine g_iconst (v := 3) (pc' := 154) O dL_law_153 (by decide) rfl ?_
        refine g_iadd (pc' := 155) O dL_law_154 rfl ?_
        replace h := ob h; obtain ⟨v6, ev6, h⟩ := h
        refine g_kiald (pc' := 156) O dL_law_155 ev6 rfl ?_
        refine g_aload_n (pc' := 157) 0 O dL_law_156 rfl rfl rfl ?_
        refine g_iload_n (pc' := 158) 3 O dL_law_157 rfl rfl rfl ?_
        refine g_iconst (v := 4) (pc' := 159) O dL_law_158 (by decide) rfl ?_
        refine g_iadd (pc' := 160) O dL_law_159 rfl ?_
        replace h := ob h; obtain ⟨v7, ev7, h⟩ := h
        refine g_kiald (pc' := 161) O dL_law_160 ev7 rfl ?_
        refine g_aload_n (pc' := 162) 0 O dL_law_161 rfl rfl rfl ?_
        refine g_iload_n (pc' := 163) 3 O dL_law_162 rfl rfl rfl ?_
        refine g_iconst (v := 5) (pc' := 164) O dL_law_163 (by decide) rfl ?_
        refine g_iadd (pc' := 165) O dL_law_164 rfl ?_
        replace h := ob h; obtain ⟨v8, ev8, h⟩ := h
        refine g_kiald (pc' := 166) O dL_law_165 ev8 rfl ?_
        refine g_aload_n (pc' := 167) 0 O dL_law_166 rfl rfl rfl ?_
        refine g_iload_n (pc' := 168) 3 O dL_law_167 rfl rfl rfl ?_
        refine g_bipush (v := 6) (pc' := 170) O dL_law_168 (by decide) rfl ?_
        refine g_iadd (pc' := 171) O dL_law_170 rfl ?_
        replace h := ob h; obtain ⟨v9, ev9, h⟩ := h
        refine g_kiald (pc' := 172) O dL_law_171 ev9 rfl ?_
        refine g_if_eq (tgt := 179) (pc' := 175) O dL_law_172 (by decide) rfl (fun hc => ?_) (fun hc => ?_)
        · replace h := ip hc h
          refine g_iconst (v := 0) (pc' := 180) O dL_law_179 (by decide) rfl ?_
          exact tL_law_180 O hf hcb hsb (fun a1 a2 a3 a4 a5 hh => ih a1 a2 a3 a4 a5 (cb + 20) (sb + 4000) (by omega) (by omega) hh) h
        · replace h := ine hc h
          refine g_iconst (v := 1) (pc' := 176) O dL_law_175 (by decide) rfl ?_
          refine g_goto (pc' := 180) O dL_law_176 (by decide) ?_
          exact tL_law_180 O hf hcb hsb (fun a1 a2 a3 a4 a5 hh => ih a1 a2 a3 a4 a5 (cb + 20) (sb + 4000) (by omega) (by omega) hh) h
      replace h := ine hs0 h
      by_cases hs1 : (v3 &&& (31 : Int32)) = (1 : Int32)
      · replace h := ip hs1 h
        refine g_tableIn (off := 222) (pc' := 255) O dL_law_33 (by rw [hs1]; decide) (by rw [hs1]; decide) (by rw [hs1]; decide) (by decide) ?_
        refine g_aload_n (pc' := 256) 1 O dL_law_255 rfl rfl rfl ?_
        refine g_aload_n (pc' := 257) 0 O dL_law_256 rfl rfl rfl ?_
        refine g_iload_n (pc' := 258) 3 O dL_law_257 rfl rfl rfl ?_
        refine g_iconst (v := 1) (pc' := 259) O dL_law_258 (by decide) rfl ?_
        refine g_iadd (pc' := 260) O dL_law_259 rfl ?_
        replace h := ob h; obtain ⟨v10, ev10, h⟩ := h
        refine g_kiald (pc' := 261) O dL_law_260 ev10 rfl ?_
        replace h := ob h; obtain ⟨u11, eu11, h⟩ := h
        replace h := ob h; obtain ⟨r12, er12, h⟩ := h
        refine g_callV (y := yX7_key) (ν := mX7_key) (n := 1) (As := [.int v10]) (b := x1) (st := []) (M2 := r12.2) (r1 := (some (.int r12.1))) (pc' := 264) O dL_law_261 tw_256 tw_53 tw_254 tw_255 tw_253 hyX7_key rfl rfl eu11 (okX7_key er12) (Nat.le_of_ble_eq_true rfl) ⟨Nat.le_of_ble_eq_true rfl, Nat.le_of_ble_eq_true rfl⟩ ⟨(by show cb + 0 + 0 ≤ 600000; omega), (by show sb + 0 + 0 ≤ 7302250; omega)⟩ rfl ?_
        show G κ mL_law (cb + 0) (sb + 0) 264 [(0, .ref x0), (1, .ref x1), (2, .ref x2), (3, .int x3)] [.int r12.1] r12.2
        refine g_aload_n (pc' := 265) 2 O dL_law_264 rfl rfl rfl ?_
        refine g_aload_n (pc' := 266) 0 O dL_law_265 rfl rfl rfl ?_
        refine g_iload_n (pc' := 267) 3 O dL_law_266 rfl rfl rfl ?_
        refine g_iconst (v := 1) (pc' := 268) O dL_law_267 (by decide) rfl ?_
        refine g_iadd (pc' := 269) O dL_law_268 rfl ?_
        replace h := ob h; obtain ⟨v13, ev13, h⟩ := h
        refine g_kiald (pc' := 270) O dL_law_269 ev13 rfl ?_
        replace h := ob h; obtain ⟨u14, eu14, h⟩ := h
        replace h := ob h; obtain ⟨r15, er15, h⟩ := h
        refine g_callV (y := yX8_key) (ν := mX8_key) (n := 1) (As := [.int v13]) (b := x2) (st := [.int r12.1]) (M2 := r15.2) (r1 := (some (.int r15.1))) (pc' := 273) O dL_law_270 tw_815 tw_58 tw_813 tw_814 tw_812 hyX8_key rfl rfl eu14 (okX8_key er15) (Nat.le_of_ble_eq_true rfl) ⟨Nat.le_of_ble_eq_true rfl, Nat.le_of_ble_eq_true rfl⟩ ⟨(by show cb + 0 + 0 ≤ 600000; omega), (by show sb + 0 + 0 ≤ 7302250; omega)⟩ rfl ?_
        show G κ mL_law (cb + 0) (sb + 0) 273 [(0, .ref x0), (1, .ref x1), (2, .ref x2), (3, .int x3)] [.int r15.1, .int r12.1] r15.2
        refine g_icmp_eq (tgt := 994) (pc' := 276) O dL_law_273 (by decide) rfl (fun hc => ?_) (fun hc => ?_)
        · replace h := ip hc h
          refine g_widen (c2 := cb + 10) (s2 := sb + 2055) (by omega) (by omega) ?_
          exact tL_law_994 O hf hcb hsb (fun a1 a2 a3 a4 a5 hh => ih a1 a2 a3 a4 a5 (cb + 20) (sb + 4000) (by omega) (by omega) hh) h
        · replace h := ine hc h
          refine g_iconst (v := 0) (pc' := 277) O dL_law_276 (by decide) rfl ?_
          replace h := ob h; obtain ⟨z16, ez16, h⟩ := h
          obtain ⟨hz16, ez16b⟩ := nz_spec ez16
          rw [ez16b] at h
          cases h
          exact g_ireturn O dL_law_277 rfl (nz_nar hz16) hf (by show cb + 0 ≤ 600000; omega) (by show sb + 0 ≤ 7302250; omega)
      replace h := ine hs1 h
      by_cases hs2 : (v3 &&& (31 : Int32)) = (2 : Int32)
      · replace h := ip hs2 h
        refine g_tableIn (off := 245) (pc' := 278) O dL_law_33 (by rw [hs2]; decide) (by rw [hs2]; decide) (by rw [hs2]; decide) (by decide) ?_
        refine g_aload_n (pc' := 279) 1 O dL_law_278 rfl rfl rfl ?_
        refine g_aload_n (pc' := 280) 0 O dL_law_279 rfl rfl rfl ?_
        refine g_iload_n (pc' := 281) 3 O dL_law_280 rfl rfl rfl ?_
        refine g_iconst (v := 1) (pc' := 282) O dL_law_281 (by decide) rfl ?_
        refine g_iadd (pc' := 283) O dL_law_282 rfl ?_
        replace h := ob h; obtain ⟨v17, ev17, h⟩ := h
        refine g_kiald (pc' := 284) O dL_law_283 ev17 rfl ?_
        replace h := ob h; obtain ⟨u18, eu18, h⟩ := h
        replace h := ob h; obtain ⟨r19, er19, h⟩ := h
        refine g_callV (y := yX7_keys) (ν := mX7_keys) (n := 1) (As := [.int v17]) (b := x1) (st := []) (M2 := r19.2) (r1 := (some (.int r19.1))) (pc' := 287) O dL_law_284 tw_268 tw_53 tw_266 tw_267 tw_265 hyX7_keys rfl rfl eu18 (okX7_keys er19) (Nat.le_of_ble_eq_true rfl) ⟨Nat.le_of_ble_eq_true rfl, Nat.le_of_ble_eq_true rfl⟩ ⟨(by show cb + 0 + 0 ≤ 600000; omega), (by show sb + 0 + 0 ≤ 7302250; omega)⟩ rfl ?_
        show G κ mL_law (cb + 0) (sb + 0) 287 [(0, .ref x0), (1, .ref x1), (2, .ref x2), (3, .int x3)] [.int r19.1] r19.2
        refine g_aload_n (pc' := 288) 2 O dL_law_287 rfl rfl rfl ?_
        refine g_aload_n (pc' := 289) 0 O dL_law_288 rfl rfl rfl ?_
        refine g_iload_n (pc' := 290) 3 O dL_law_289 rfl rfl rfl ?_
        refine g_iconst (v := 1) (pc' := 291) O dL_law_290 (by decide) rfl ?_
        refine g_iadd (pc' := 292) O dL_law_291 rfl ?_
        replace h := ob h; obtain ⟨v20, ev20, h⟩ := h
        refine g_kiald (pc' := 293) O dL_law_292 ev20 rfl ?_
        replace h := ob h; obtain ⟨u21, eu21, h⟩ := h
        replace h := ob h; obtain ⟨r22, er22, h⟩ := h
        refine g_callV (y := yX8_keys) (ν := mX8_keys) (n := 1) (As := [.int v20]) (b := x2) (st := [.int r19.1]) (M2 := r22.2) (r1 := (some (.int r22.1))) (pc' := 296) O dL_law_293 tw_819 tw_58 tw_817 tw_818 tw_816 hyX8_keys rfl rfl eu21 (okX8_keys er22) (Nat.le_of_ble_eq_true rfl) ⟨Nat.le_of_ble_eq_true rfl, Nat.le_of_ble_eq_true rfl⟩ ⟨(by show cb + 0 + 0 ≤ 600000; omega), (by show sb + 0 + 0 ≤ 7302250; omega)⟩ rfl ?_
        show G κ mL_law (cb + 0) (sb + 0) 296 [(0, .ref x0), (1, .ref x1), (2, .ref x2), (3, .int x3)] [.int r22.1, .int r19.1] r22.2
        refine g_icmp_eq (tgt := 994) (pc' := 299) O dL_law_296 (by decide) rfl (fun hc => ?_) (fun hc => ?_)
        · replace h := ip hc h
          refine g_widen (c2 := cb + 10) (s2 := sb + 2055) (by omega) (by omega) ?_
          exact tL_law_994 O hf hcb hsb (fun a1 a2 a3 a4 a5 hh => ih a1 a2 a3 a4 a5 (cb + 20) (sb + 4000) (by omega) (by omega) hh) h
        · replace h := ine hc h
          refine g_iconst (v := 0) (pc' := 300) O dL_law_299 (by decide) rfl ?_
          replace h := ob h; obtain ⟨z23, ez23, h⟩ := h
          obtain ⟨hz23, ez23b⟩ := nz_spec ez23
          rw [ez23b] at h
          cases h
          exact g_ireturn O dL_law_300 rfl (nz_nar hz23) hf (by show cb + 0 ≤ 600000; omega) (by show sb + 0 ≤ 7302250; omega)
      replace h := ine hs2 h
      by_cases hs3 : (v3 &&& (31 : Int32)) = (3 : Int32)
      · replace h := ip hs3 h
        refine g_tableIn (off := 268) (pc' := 301) O dL_law_33 (by rw [hs3]; decide) (by rw [hs3]; decide) (by rw [hs3]; decide) (by decide) ?_
        refine g_aload_n (pc' := 302) 1 O dL_law_301 rfl rfl rfl ?_
        refine g_aload_n (pc' := 303) 0 O dL_law_302 rfl rfl rfl ?_
        refine g_iload_n (pc' := 304) 3 O dL_law_303 rfl rfl rfl ?_
        refine g_iconst (v := 1) (pc' := 305) O dL_law_304 (by decide) rfl ?_
        refine g_iadd (pc' := 306) O dL_law_305 rfl ?_
        replace h := ob h; obtain ⟨v24, ev24, h⟩ := h
        refine g_kiald (pc' := 307) O dL_law_306 ev24 rfl ?_
        replace h := ob h; obtain ⟨u25, eu25, h⟩ := h
        replace h := ob h; obtain ⟨r26, er26, h⟩ := h
        refine g_callV (y := yX7_undo) (ν := mX7_undo) (n := 1) (As := [.int v24]) (b := x1) (st := []) (M2 := r26.2) (r1 := (some (.int r26.1))) (pc' := 310) O dL_law_307 tw_275 tw_53 tw_273 tw_274 tw_272 hyX7_undo rfl rfl eu25 (okX7_undo er26) (Nat.le_of_ble_eq_true rfl) ⟨Nat.le_of_ble_eq_true rfl, Nat.le_of_ble_eq_true rfl⟩ ⟨(by show cb + 0 + 0 ≤ 600000; omega), (by show sb + 0 + 0 ≤ 7302250; omega)⟩ rfl ?_
        show G κ mL_law (cb + 0) (sb + 0) 310 [(0, .ref x0), (1, .ref x1), (2, .ref x2), (3, .int x3)] [.int r26.1] r26.2
        refine g_aload_n (pc' := 311) 2 O dL_law_310 rfl rfl rfl ?_
        refine g_aload_n (pc' := 312) 0 O dL_law_311 rfl rfl rfl ?_
        refine g_iload_n (pc' := 313) 3 O dL_law_312 rfl rfl rfl ?_
        refine g_iconst (v := 1) (pc' := 314) O dL_law_313 (by decide) rfl ?_
        refine g_iadd (pc' := 315) O dL_law_314 rfl ?_
        replace h := ob h; obtain ⟨v27, ev27, h⟩ := h
        refine g_kiald (pc' := 316) O dL_law_315 ev27 rfl ?_
        replace h := ob h; obtain ⟨u28, eu28, h⟩ := h
        replace h := ob h; obtain ⟨r29, er29, h⟩ := h
        refine g_callV (y := yX8_undo) (ν := mX8_undo) (n := 1) (As := [.int v27]) (b := x2) (st := [.int r26.1]) (M2 := r29.2) (r1 := (some (.int r29.1))) (pc' := 319) O dL_law_316 tw_823 tw_58 tw_821 tw_822 tw_820 hyX8_undo rfl rfl eu28 (okX8_undo er29) (Nat.le_of_ble_eq_true rfl) ⟨Nat.le_of_ble_eq_true rfl, Nat.le_of_ble_eq_true rfl⟩ ⟨(by show cb + 0 + 0 ≤ 600000; omega), (by show sb + 0 + 0 ≤ 7302250; omega)⟩ rfl ?_
        show G κ mL_law (cb + 0) (sb + 0) 319 [(0, .ref x0), (1, .ref x1), (2, .ref x2), (3, .int x3)] [.int r29.1, .int r26.1] r29.2
        refine g_icmp_eq (tgt := 994) (pc' := 322) O dL_law_319 (by decide) rfl (fun hc => ?_) (fun hc => ?_)
        · replace h := ip hc h
          refine g_widen (c2 := cb + 10) (s2 := sb + 2055) (by omega) (by omega) ?_
          exact tL_law_994 O hf hcb hsb (fun a1 a2 a3 a4 a5 hh => ih a1 a2 a3 a4 a5 (cb + 20) (sb + 4000) (by omega) (by omega) hh) h
        · replace h := ine hc h
          refine g_iconst (v := 0) (pc' := 323) O dL_law_322 (by decide) rfl ?_
          replace h := ob h; obtain ⟨z30, ez30, h⟩ := h
          obtain ⟨hz30, ez30b⟩ := nz_spec ez30
          rw [ez30b] at h
          cases h
          exact g_ireturn O dL_law_323 rfl (nz_nar hz30) hf (by show cb + 0 ≤ 600000; omega) (by show sb + 0 ≤ 7302250; omega)
      replace h := ine hs3 h
      by_cases hs4 : (v3 &&& (31 : Int32)) = (4 : Int32)
      · replace h := ip hs4 h
        refine g_tableIn (off := 291) (pc' := 324) O dL_law_33 (by rw [hs4]; decide) (by rw [hs4]; decide) (by rw [hs4]; decide) (by decide) ?_
        refine g_aload_n (pc' := 325) 1 O dL_law_324 rfl rfl rfl ?_
        refine g_aload_n (pc' := 326) 0 O dL_law_325 rfl rfl rfl ?_
        refine g_iload_n (pc' := 327) 3 O dL_law_326 rfl rfl rfl ?_
        refine g_iconst (v := 1) (pc' := 328) O dL_law_327 (by decide) rfl ?_
        refine g_iadd (pc' := 329) O dL_law_328 rfl ?_
        replace h := ob h; obtain ⟨v31, ev31, h⟩ := h
        refine g_kiald (pc' := 330) O dL_law_329 ev31 rfl ?_
        refine g_aload_n (pc' := 331) 0 O dL_law_330 rfl rfl rfl ?_
        refine g_iload_n (pc' := 332) 3 O dL_law_331 rfl rfl rfl ?_
        refine g_iconst (v := 2) (pc' := 333) O dL_law_332 (by decide) rfl ?_
        refine g_iadd (pc' := 334) O dL_law_333 rfl ?_
        replace h := ob h; obtain ⟨v32, ev32, h⟩ := h
        refine g_kiald (pc' := 335) O dL_law_334 ev32 rfl ?_
        refine g_i2l (pc' := 336) O dL_law_335 rfl ?_
        refine g_bipush (v := 32) (pc' := 338) O dL_law_336 (by decide) rfl ?_
        refine g_lshl (pc' := 339) O dL_law_338 rfl ?_
        refine g_aload_n (pc' := 340) 0 O dL_law_339 rfl rfl rfl ?_
        refine g_iload_n (pc' := 341) 3 O dL_law_340 rfl rfl rfl ?_
        refine g_iconst (v := 3) (pc' := 342) O dL_law_341 (by decide) rfl ?_
        refine g_iadd (pc' := 343) O dL_law_342 rfl ?_
        replace h := ob h; obtain ⟨v33, ev33, h⟩ := h
        refine g_kiald (pc' := 344) O dL_law_343 ev33 rfl ?_
        refine g_i2l (pc' := 345) O dL_law_344 rfl ?_
        refine g_ldc2 (v := 4294967295) (pc' := 348) O dL_law_345 tw_1090 rfl ?_
        refine g_land (pc' := 349) O dL_law_348 rfl ?_
        refine g_lor (pc' := 350) O dL_law_349 rfl ?_
        refine g_aload_n (pc' := 351) 0 O dL_law_350 rfl rfl rfl ?_
        refine g_iload_n (pc' := 352) 3 O dL_law_351 rfl rfl rfl ?_
        refine g_iconst (v := 4) (pc' := 353) O dL_law_352 (by decide) rfl ?_
        refine g_iadd (pc' := 354) O dL_law_353 rfl ?_
        replace h := ob h; obtain ⟨v34, ev34, h⟩ := h
        refine g_kiald (pc' := 355) O dL_law_354 ev34 rfl ?_
        refine g_i2l (pc' := 356) O dL_law_355 rfl ?_
        refine g_bipush (v := 32) (pc' := 358) O dL_law_356 (by decide) rfl ?_
        refine g_lshl (pc' := 359) O dL_law_358 rfl ?_
        refine g_aload_n (pc' := 360) 0 O dL_law_359 rfl rfl rfl ?_
        refine g_iload_n (pc' := 361) 3 O dL_law_360 rfl rfl rfl ?_
        refine g_iconst (v := 5) (pc' := 362) O dL_law_361 (by decide) rfl ?_
        refine g_iadd (pc' := 363) O dL_law_362 rfl ?_
        replace h := ob h; obtain ⟨v35, ev35, h⟩ := h
        refine g_kiald (pc' := 364) O dL_law_363 ev35 rfl ?_
        refine g_i2l (pc' := 365) O dL_law_364 rfl ?_
        refine g_ldc2 (v := 4294967295) (pc' := 368) O dL_law_365 tw_1090 rfl ?_
        refine g_land (pc' := 369) O dL_law_368 rfl ?_
        refine g_lor (pc' := 370) O dL_law_369 rfl ?_
        replace h := ob h; obtain ⟨u36, eu36, h⟩ := h
        replace h := ob h; obtain ⟨r37, er37, h⟩ := h
        refine g_callV (y := yX7_bounds) (ν := mX7_bounds) (n := 3) (As := [.int v31, .long (((v32.toInt64) <<< ((32 : Int32).toInt64 &&& 63)) ||| ((v33.toInt64) &&& (4294967295 : Int64))), .long (((v34.toInt64) <<< ((32 : Int32).toInt64 &&& 63)) ||| ((v35.toInt64) &&& (4294967295 : Int64)))]) (b := x1) (st := []) (M2 := r37.2) (r1 := (some (.int r37.1))) (pc' := 373) O dL_law_370 tw_283 tw_53 tw_281 tw_282 tw_280 hyX7_bounds rfl rfl eu36 (okX7_bounds er37) (Nat.le_of_ble_eq_true rfl) ⟨Nat.le_of_ble_eq_true rfl, Nat.le_of_ble_eq_true rfl⟩ ⟨(by show cb + 0 + 0 ≤ 600000; omega), (by show sb + 0 + 0 ≤ 7302250; omega)⟩ rfl ?_
        show G κ mL_law (cb + 0) (sb + 0) 373 [(0, .ref x0), (1, .ref x1), (2, .ref x2), (3, .int x3)] [.int r37.1] r37.2
        refine g_aload_n (pc' := 374) 2 O dL_law_373 rfl rfl rfl ?_
        refine g_aload_n (pc' := 375) 0 O dL_law_374 rfl rfl rfl ?_
        refine g_iload_n (pc' := 376) 3 O dL_law_375 rfl rfl rfl ?_
        refine g_iconst (v := 1) (pc' := 377) O dL_law_376 (by decide) rfl ?_
        refine g_iadd (pc' := 378) O dL_law_377 rfl ?_
        replace h := ob h; obtain ⟨v38, ev38, h⟩ := h
        refine g_kiald (pc' := 379) O dL_law_378 ev38 rfl ?_
        refine g_aload_n (pc' := 380) 0 O dL_law_379 rfl rfl rfl ?_
        refine g_iload_n (pc' := 381) 3 O dL_law_380 rfl rfl rfl ?_
        refine g_iconst (v := 2) (pc' := 382) O dL_law_381 (by decide) rfl ?_
        refine g_iadd (pc' := 383) O dL_law_382 rfl ?_
        replace h := ob h; obtain ⟨v39, ev39, h⟩ := h
        refine g_kiald (pc' := 384) O dL_law_383 ev39 rfl ?_
        refine g_i2l (pc' := 385) O dL_law_384 rfl ?_
        refine g_bipush (v := 32) (pc' := 387) O dL_law_385 (by decide) rfl ?_
        refine g_lshl (pc' := 388) O dL_law_387 rfl ?_
        refine g_aload_n (pc' := 389) 0 O dL_law_388 rfl rfl rfl ?_
        refine g_iload_n (pc' := 390) 3 O dL_law_389 rfl rfl rfl ?_
        refine g_iconst (v := 3) (pc' := 391) O dL_law_390 (by decide) rfl ?_
        refine g_iadd (pc' := 392) O dL_law_391 rfl ?_
        replace h := ob h; obtain ⟨v40, ev40, h⟩ := h
        refine g_kiald (pc' := 393) O dL_law_392 ev40 rfl ?_
        refine g_i2l (pc' := 394) O dL_law_393 rfl ?_
        refine g_ldc2 (v := 4294967295) (pc' := 397) O dL_law_394 tw_1090 rfl ?_
        refine g_land (pc' := 398) O dL_law_397 rfl ?_
        refine g_lor (pc' := 399) O dL_law_398 rfl ?_
        refine g_aload_n (pc' := 400) 0 O dL_law_399 rfl rfl rfl ?_
        refine g_iload_n (pc' := 401) 3 O dL_law_400 rfl rfl rfl ?_
        refine g_iconst (v := 4) (pc' := 402) O dL_law_401 (by decide) rfl ?_
        refine g_iadd (pc' := 403) O dL_law_402 rfl ?_
        replace h := ob h; obtain ⟨v41, ev41, h⟩ := h
        refine g_kiald (pc' := 404) O dL_law_403 ev41 rfl ?_
        refine g_i2l (pc' := 405) O dL_law_404 rfl ?_
        refine g_bipush (v := 32) (pc' := 407) O dL_law_405 (by decide) rfl ?_
        refine g_lshl (pc' := 408) O dL_law_407 rfl ?_
        refine g_aload_n (pc' := 409) 0 O dL_law_408 rfl rfl rfl ?_
        refine g_iload_n (pc' := 410) 3 O dL_law_409 rfl rfl rfl ?_
        refine g_iconst (v := 5) (pc' := 411) O dL_law_410 (by decide) rfl ?_
        refine g_iadd (pc' := 412) O dL_law_411 rfl ?_
        replace h := ob h; obtain ⟨v42, ev42, h⟩ := h
        refine g_kiald (pc' := 413) O dL_law_412 ev42 rfl ?_
        refine g_i2l (pc' := 414) O dL_law_413 rfl ?_
        refine g_ldc2 (v := 4294967295) (pc' := 417) O dL_law_414 tw_1090 rfl ?_
        refine g_land (pc' := 418) O dL_law_417 rfl ?_
        refine g_lor (pc' := 419) O dL_law_418 rfl ?_
        replace h := ob h; obtain ⟨u43, eu43, h⟩ := h
        replace h := ob h; obtain ⟨r44, er44, h⟩ := h
        refine g_callV (y := yX8_bounds) (ν := mX8_bounds) (n := 3) (As := [.int v38, .long (((v39.toInt64) <<< ((32 : Int32).toInt64 &&& 63)) ||| ((v40.toInt64) &&& (4294967295 : Int64))), .long (((v41.toInt64) <<< ((32 : Int32).toInt64 &&& 63)) ||| ((v42.toInt64) &&& (4294967295 : Int64)))]) (b := x2) (st := [.int r37.1]) (M2 := r44.2) (r1 := (some (.int r44.1))) (pc' := 422) O dL_law_419 tw_827 tw_58 tw_825 tw_826 tw_824 hyX8_bounds rfl rfl eu43 (okX8_bounds er44) (Nat.le_of_ble_eq_true rfl) ⟨Nat.le_of_ble_eq_true rfl, Nat.le_of_ble_eq_true rfl⟩ ⟨(by show cb + 0 + 0 ≤ 600000; omega), (by show sb + 0 + 0 ≤ 7302250; omega)⟩ rfl ?_
        show G κ mL_law (cb + 0) (sb + 0) 422 [(0, .ref x0), (1, .ref x1), (2, .ref x2), (3, .int x3)] [.int r44.1, .int r37.1] r44.2
        refine g_icmp_eq (tgt := 994) (pc' := 425) O dL_law_422 (by decide) rfl (fun hc => ?_) (fun hc => ?_)
        · replace h := ip hc h
          refine g_widen (c2 := cb + 10) (s2 := sb + 2055) (by omega) (by omega) ?_
          exact tL_law_994 O hf hcb hsb (fun a1 a2 a3 a4 a5 hh => ih a1 a2 a3 a4 a5 (cb + 20) (sb + 4000) (by omega) (by omega) hh) h
        · replace h := ine hc h
          refine g_iconst (v := 0) (pc' := 426) O dL_law_425 (by decide) rfl ?_
          replace h := ob h; obtain ⟨z45, ez45, h⟩ := h
          obtain ⟨hz45, ez45b⟩ := nz_spec ez45
          rw [ez45b] at h
          cases h
          exact g_ireturn O dL_law_426 rfl (nz_nar hz45) hf (by show cb + 0 ≤ 600000; omega) (by show sb + 0 ≤ 7302250; omega)
      replace h := ine hs4 h
      by_cases hs5 : (v3 &&& (31 : Int32)) = (5 : Int32)
      · replace h := ip hs5 h
        refine g_tableIn (off := 394) (pc' := 427) O dL_law_33 (by rw [hs5]; decide) (by rw [hs5]; decide) (by rw [hs5]; decide) (by decide) ?_
        refine g_aload_n (pc' := 428) 1 O dL_law_427 rfl rfl rfl ?_
        refine g_aload_n (pc' := 429) 0 O dL_law_428 rfl rfl rfl ?_
        refine g_iload_n (pc' := 430) 3 O dL_law_429 rfl rfl rfl ?_
        refine g_iconst (v := 1) (pc' := 431) O dL_law_430 (by decide) rfl ?_
        refine g_iadd (pc' := 432) O dL_law_431 rfl ?_
        replace h := ob h; obtain ⟨v46, ev46, h⟩ := h
        refine g_kiald (pc' := 433) O dL_law_432 ev46 rfl ?_
        refine g_aload_n (pc' := 434) 0 O dL_law_433 rfl rfl rfl ?_
        refine g_iload_n (pc' := 435) 3 O dL_law_434 rfl rfl rfl ?_
        refine g_iconst (v := 2) (pc' := 436) O dL_law_435 (by decide) rfl ?_
        refine g_iadd (pc' := 437) O dL_law_436 rfl ?_
        replace h := ob h; obtain ⟨v47, ev47, h⟩ := h
        refine g_kiald (pc' := 438) O dL_law_437 ev47 rfl ?_
        replace h := ob h; obtain ⟨u48, eu48, h⟩ := h
        replace h := ob h; obtain ⟨r49, er49, h⟩ := h
        refine g_callV (y := yX7_value) (ν := mX7_value) (n := 2) (As := [.int v46, .int v47]) (b := x1) (st := []) (M2 := r49.2) (r1 := (some (.long r49.1))) (pc' := 441) O dL_law_438 tw_295 tw_53 tw_293 tw_294 tw_292 hyX7_value rfl rfl eu48 (okX7_value er49) (Nat.le_of_ble_eq_true rfl) ⟨Nat.le_of_ble_eq_true rfl, Nat.le_of_ble_eq_true rfl⟩ ⟨(by show cb + 0 + 0 ≤ 600000; omega), (by show sb + 0 + 0 ≤ 7302250; omega)⟩ rfl ?_
        show G κ mL_law (cb + 0) (sb + 0) 441 [(0, .ref x0), (1, .ref x1), (2, .ref x2), (3, .int x3)] [.long r49.1] r49.2
        refine g_aload_n (pc' := 442) 2 O dL_law_441 rfl rfl rfl ?_
        refine g_aload_n (pc' := 443) 0 O dL_law_442 rfl rfl rfl ?_
        refine g_iload_n (pc' := 444) 3 O dL_law_443 rfl rfl rfl ?_
        refine g_iconst (v := 1) (pc' := 445) O dL_law_444 (by decide) rfl ?_
        refine g_iadd (pc' := 446) O dL_law_445 rfl ?_
        replace h := ob h; obtain ⟨v50, ev50, h⟩ := h
        refine g_kiald (pc' := 447) O dL_law_446 ev50 rfl ?_
        refine g_aload_n (pc' := 448) 0 O dL_law_447 rfl rfl rfl ?_
        refine g_iload_n (pc' := 449) 3 O dL_law_448 rfl rfl rfl ?_
        refine g_iconst (v := 2) (pc' := 450) O dL_law_449 (by decide) rfl ?_
        refine g_iadd (pc' := 451) O dL_law_450 rfl ?_
        replace h := ob h; obtain ⟨v51, ev51, h⟩ := h
        refine g_kiald (pc' := 452) O dL_law_451 ev51 rfl ?_
        replace h := ob h; obtain ⟨u52, eu52, h⟩ := h
        replace h := ob h; obtain ⟨r53, er53, h⟩ := h
        refine g_callV (y := yX8_value) (ν := mX8_value) (n := 2) (As := [.int v50, .int v51]) (b := x2) (st := [.long r49.1]) (M2 := r53.2) (r1 := (some (.long r53.1))) (pc' := 455) O dL_law_452 tw_831 tw_58 tw_829 tw_830 tw_828 hyX8_value rfl rfl eu52 (okX8_value er53) (Nat.le_of_ble_eq_true rfl) ⟨Nat.le_of_ble_eq_true rfl, Nat.le_of_ble_eq_true rfl⟩ ⟨(by show cb + 0 + 0 ≤ 600000; omega), (by show sb + 0 + 0 ≤ 7302250; omega)⟩ rfl ?_
        show G κ mL_law (cb + 0) (sb + 0) 455 [(0, .ref x0), (1, .ref x1), (2, .ref x2), (3, .int x3)] [.long r53.1, .long r49.1] r53.2
        refine g_lcmp (pc' := 456) O dL_law_455 rfl ?_
        refine g_if_eq (tgt := 994) (pc' := 459) O dL_law_456 (by decide) rfl (fun hc => ?_) (fun hc => ?_)
        · replace h := ip hc h
          refine g_widen (c2 := cb + 10) (s2 := sb + 2055) (by omega) (by omega) ?_
          exact tL_law_994 O hf hcb hsb (fun a1 a2 a3 a4 a5 hh => ih a1 a2 a3 a4 a5 (cb + 20) (sb + 4000) (by omega) (by omega) hh) h
        · replace h := ine hc h
          refine g_iconst (v := 0) (pc' := 460) O dL_law_459 (by decide) rfl ?_
          replace h := ob h; obtain ⟨z54, ez54, h⟩ := h
          obtain ⟨hz54, ez54b⟩ := nz_spec ez54
          rw [ez54b] at h
          cases h
          exact g_ireturn O dL_law_460 rfl (nz_nar hz54) hf (by show cb + 0 ≤ 600000; omega) (by show sb + 0 ≤ 7302250; omega)
      replace h := ine hs5 h
      by_cases hs6 : (v3 &&& (31 : Int32)) = (6 : Int32)
      · replace h := ip hs6 h
        refine g_tableIn (off := 428) (pc' := 461) O dL_law_33 (by rw [hs6]; decide) (by rw [hs6]; decide) (by rw [hs6]; decide) (by decide) ?_
        refine g_aload_n (pc' := 462) 1 O dL_law_461 rfl rfl rfl ?_
        refine g_aload_n (pc' := 463) 0 O dL_law_462 rfl rfl rfl ?_
        refine g_iload_n (pc' := 464) 3 O dL_law_463 rfl rfl rfl ?_
        refine g_iconst (v := 1) (pc' := 465) O dL_law_464 (by decide) rfl ?_
        refine g_iadd (pc' := 466) O dL_law_465 rfl ?_
        replace h := ob h; obtain ⟨v55, ev55, h⟩ := h
        refine g_kiald (pc' := 467) O dL_law_466 ev55 rfl ?_
        refine g_aload_n (pc' := 468) 0 O dL_law_467 rfl rfl rfl ?_
        refine g_iload_n (pc' := 469) 3 O dL_law_468 rfl rfl rfl ?_
        refine g_iconst (v := 2) (pc' := 470) O dL_law_469 (by decide) rfl ?_
        refine g_iadd (pc' := 471) O dL_law_470 rfl ?_
        replace h := ob h; obtain ⟨v56, ev56, h⟩ := h
        refine g_kiald (pc' := 472) O dL_law_471 ev56 rfl ?_
        replace h := ob h; obtain ⟨u57, eu57, h⟩ := h
        replace h := ob h; obtain ⟨r58, er58, h⟩ := h
        refine g_callV (y := yX7_open) (ν := mX7_open) (n := 2) (As := [.int v55, .int v56]) (b := x1) (st := []) (M2 := r58.2) (r1 := (some (.int r58.1))) (pc' := 475) O dL_law_472 tw_432 tw_53 tw_430 tw_431 tw_429 hyX7_open rfl rfl eu57 (okX7_open er58) (Nat.le_of_ble_eq_true rfl) ⟨Nat.le_of_ble_eq_true rfl, Nat.le_of_ble_eq_true rfl⟩ ⟨(by show cb + 0 + 0 ≤ 600000; omega), (by show sb + 0 + 0 ≤ 7302250; omega)⟩ rfl ?_
        show G κ mL_law (cb + 0) (sb + 0) 475 [(0, .ref x0), (1, .ref x1), (2, .ref x2), (3, .int x3)] [.int r58.1] r58.2
        refine g_aload_n (pc' := 476) 2 O dL_law_475 rfl rfl rfl ?_
        refine g_aload_n (pc' := 477) 0 O dL_law_476 rfl rfl rfl ?_
        refine g_iload_n (pc' := 478) 3 O dL_law_477 rfl rfl rfl ?_
        refine g_iconst (v := 1) (pc' := 479) O dL_law_478 (by decide) rfl ?_
        refine g_iadd (pc' := 480) O dL_law_479 rfl ?_
        replace h := ob h; obtain ⟨v59, ev59, h⟩ := h
        refine g_kiald (pc' := 481) O dL_law_480 ev59 rfl ?_
        refine g_aload_n (pc' := 482) 0 O dL_law_481 rfl rfl rfl ?_
        refine g_iload_n (pc' := 483) 3 O dL_law_482 rfl rfl rfl ?_
        refine g_iconst (v := 2) (pc' := 484) O dL_law_483 (by decide) rfl ?_
        refine g_iadd (pc' := 485) O dL_law_484 rfl ?_
        replace h := ob h; obtain ⟨v60, ev60, h⟩ := h
        refine g_kiald (pc' := 486) O dL_law_485 ev60 rfl ?_
        replace h := ob h; obtain ⟨u61, eu61, h⟩ := h
        replace h := ob h; obtain ⟨r62, er62, h⟩ := h
        refine g_callV (y := yX8_open) (ν := mX8_open) (n := 2) (As := [.int v59, .int v60]) (b := x2) (st := [.int r58.1]) (M2 := r62.2) (r1 := (some (.int r62.1))) (pc' := 489) O dL_law_486 tw_910 tw_58 tw_908 tw_909 tw_907 hyX8_open rfl rfl eu61 (okX8_open er62) (Nat.le_of_ble_eq_true rfl) ⟨Nat.le_of_ble_eq_true rfl, Nat.le_of_ble_eq_true rfl⟩ ⟨(by show cb + 0 + 0 ≤ 600000; omega), (by show sb + 0 + 0 ≤ 7302250; omega)⟩ rfl ?_
        show G κ mL_law (cb + 0) (sb + 0) 489 [(0, .ref x0), (1, .ref x1), (2, .ref x2), (3, .int x3)] [.int r62.1, .int r58.1] r62.2
        refine g_icmp_eq (tgt := 994) (pc' := 492) O dL_law_489 (by decide) rfl (fun hc => ?_) (fun hc => ?_)
        · replace h := ip hc h
          refine g_widen (c2 := cb + 10) (s2 := sb + 2055) (by omega) (by omega) ?_
          exact tL_law_994 O hf hcb hsb (fun a1 a2 a3 a4 a5 hh => ih a1 a2 a3 a4 a5 (cb + 20) (sb + 4000) (by omega) (by omega) hh) h
        · replace h := ine hc h
          refine g_iconst (v := 0) (pc' := 493) O dL_law_492 (by decide) rfl ?_
          replace h := ob h; obtain ⟨z63, ez63, h⟩ := h
          obtain ⟨hz63, ez63b⟩ := nz_spec ez63
          rw [ez63b] at h
          cases h
          exact g_ireturn O dL_law_493 rfl (nz_nar hz63) hf (by show cb + 0 ≤ 600000; omega) (by show sb + 0 ≤ 7302250; omega)
      replace h := ine hs6 h
      by_cases hs7 : (v3 &&& (31 : Int32)) = (7 : Int32)
      · replace h := ip hs7 h
        refine g_tableIn (off := 461) (pc' := 494) O dL_law_33 (by rw [hs7]; decide) (by rw [hs7]; decide) (by rw [hs7]; decide) (by decide) ?_
        refine g_aload_n (pc' := 495) 1 O dL_law_494 rfl rfl rfl ?_
        refine g_aload_n (pc' := 496) 0 O dL_law_495 rfl rfl rfl ?_
        refine g_iload_n (pc' := 497) 3 O dL_law_496 rfl rfl rfl ?_
        refine g_iconst (v := 1) (pc' := 498) O dL_law_497 (by decide) rfl ?_
        refine g_iadd (pc' := 499) O dL_law_498 rfl ?_
        replace h := ob h; obtain ⟨v64, ev64, h⟩ := h
        refine g_kiald (pc' := 500) O dL_law_499 ev64 rfl ?_
        refine g_aload_n (pc' := 501) 0 O dL_law_500 rfl rfl rfl ?_
        refine g_iload_n (pc' := 502) 3 O dL_law_501 rfl rfl rfl ?_
        refine g_iconst (v := 2) (pc' := 503) O dL_law_502 (by decide) rfl ?_
        refine g_iadd (pc' := 504) O dL_law_503 rfl ?_
        replace h := ob h; obtain ⟨v65, ev65, h⟩ := h
        refine g_kiald (pc' := 505) O dL_law_504 ev65 rfl ?_
        replace h := ob h; obtain ⟨u66, eu66, h⟩ := h
        replace h := ob h; obtain ⟨r67, er67, h⟩ := h
        refine g_callV (y := yX7_good) (ν := mX7_good) (n := 2) (As := [.int v64, .int v65]) (b := x1) (st := []) (M2 := r67.2) (r1 := (some (.int r67.1))) (pc' := 508) O dL_law_505 tw_436 tw_53 tw_434 tw_435 tw_433 hyX7_good rfl rfl eu66 (okX7_good er67) (Nat.le_of_ble_eq_true rfl) ⟨Nat.le_of_ble_eq_true rfl, Nat.le_of_ble_eq_true rfl⟩ ⟨(by show cb + 0 + 0 ≤ 600000; omega), (by show sb + 0 + 0 ≤ 7302250; omega)⟩ rfl ?_
        show G κ mL_law (cb + 0) (sb + 0) 508 [(0, .ref x0), (1, .ref x1), (2, .ref x2), (3, .int x3)] [.int r67.1] r67.2
        refine g_aload_n (pc' := 509) 2 O dL_law_508 rfl rfl rfl ?_
        refine g_aload_n (pc' := 510) 0 O dL_law_509 rfl rfl rfl ?_
        refine g_iload_n (pc' := 511) 3 O dL_law_510 rfl rfl rfl ?_
        refine g_iconst (v := 1) (pc' := 512) O dL_law_511 (by decide) rfl ?_
        refine g_iadd (pc' := 513) O dL_law_512 rfl ?_
        replace h := ob h; obtain ⟨v68, ev68, h⟩ := h
        refine g_kiald (pc' := 514) O dL_law_513 ev68 rfl ?_
        refine g_aload_n (pc' := 515) 0 O dL_law_514 rfl rfl rfl ?_
        refine g_iload_n (pc' := 516) 3 O dL_law_515 rfl rfl rfl ?_
        refine g_iconst (v := 2) (pc' := 517) O dL_law_516 (by decide) rfl ?_
        refine g_iadd (pc' := 518) O dL_law_517 rfl ?_
        replace h := ob h; obtain ⟨v69, ev69, h⟩ := h
        refine g_kiald (pc' := 519) O dL_law_518 ev69 rfl ?_
        replace h := ob h; obtain ⟨u70, eu70, h⟩ := h
        replace h := ob h; obtain ⟨r71, er71, h⟩ := h
        refine g_callV (y := yX8_good) (ν := mX8_good) (n := 2) (As := [.int v68, .int v69]) (b := x2) (st := [.int r67.1]) (M2 := r71.2) (r1 := (some (.int r71.1))) (pc' := 522) O dL_law_519 tw_914 tw_58 tw_912 tw_913 tw_911 hyX8_good rfl rfl eu70 (okX8_good er71) (Nat.le_of_ble_eq_true rfl) ⟨Nat.le_of_ble_eq_true rfl, Nat.le_of_ble_eq_true rfl⟩ ⟨(by show cb + 0 + 0 ≤ 600000; omega), (by show sb + 0 + 0 ≤ 7302250; omega)⟩ rfl ?_
        show G κ mL_law (cb + 0) (sb + 0) 522 [(0, .ref x0), (1, .ref x1), (2, .ref x2), (3, .int x3)] [.int r71.1, .int r67.1] r71.2
        refine g_icmp_eq (tgt := 994) (pc' := 525) O dL_law_522 (by decide) rfl (fun hc => ?_) (fun hc => ?_)
        · replace h := ip hc h
          refine g_widen (c2 := cb + 10) (s2 := sb + 2055) (by omega) (by omega) ?_
          exact tL_law_994 O hf hcb hsb (fun a1 a2 a3 a4 a5 hh => ih a1 a2 a3 a4 a5 (cb + 20) (sb + 4000) (by omega) (by omega) hh) h
        · replace h := ine hc h
          refine g_iconst (v := 0) (pc' := 526) O dL_law_525 (by decide) rfl ?_
          replace h := ob h; obtain ⟨z72, ez72, h⟩ := h
          obtain ⟨hz72, ez72b⟩ := nz_spec ez72
          rw [ez72b] at h
          cases h
          exact g_ireturn O dL_law_526 rfl (nz_nar hz72) hf (by show cb + 0 ≤ 600000; omega) (by show sb + 0 ≤ 7302250; omega)
      replace h := ine hs7 h
      by_cases hs8 : (v3 &&& (31 : Int32)) = (8 : Int32)
      · replace h := ip hs8 h
        refine g_tableIn (off := 494) (pc' := 527) O dL_law_33 (by rw [hs8]; decide) (by rw [hs8]; decide) (by rw [hs8]; decide) (by decide) ?_
        refine g_aload_n (pc' := 528) 1 O dL_law_527 rfl rfl rfl ?_
        refine g_aload_n (pc' := 529) 0 O dL_law_528 rfl rfl rfl ?_
        refine g_iload_n (pc' := 530) 3 O dL_law_529 rfl rfl rfl ?_
        refine g_iconst (v := 1) (pc' := 531) O dL_law_530 (by decide) rfl ?_
        refine g_iadd (pc' := 532) O dL_law_531 rfl ?_
        replace h := ob h; obtain ⟨v73, ev73, h⟩ := h
        refine g_kiald (pc' := 533) O dL_law_532 ev73 rfl ?_
        refine g_aload_n (pc' := 534) 0 O dL_law_533 rfl rfl rfl ?_
        refine g_iload_n (pc' := 535) 3 O dL_law_534 rfl rfl rfl ?_
        refine g_iconst (v := 2) (pc' := 536) O dL_law_535 (by decide) rfl ?_
        refine g_iadd (pc' := 537) O dL_law_536 rfl ?_
        replace h := ob h; obtain ⟨v74, ev74, h⟩ := h
        refine g_kiald (pc' := 538) O dL_law_537 ev74 rfl ?_
        replace h := ob h; obtain ⟨u75, eu75, h⟩ := h
        replace h := ob h; obtain ⟨r76, er76, h⟩ := h
        refine g_callV (y := yX7_state) (ν := mX7_state) (n := 2) (As := [.int v73, .int v74]) (b := x1) (st := []) (M2 := r76.2) (r1 := (some (.int r76.1))) (pc' := 541) O dL_law_538 tw_440 tw_53 tw_438 tw_439 tw_437 hyX7_state rfl rfl eu75 (okX7_state er76) (Nat.le_of_ble_eq_true rfl) ⟨Nat.le_of_ble_eq_true rfl, Nat.le_of_ble_eq_true rfl⟩ ⟨(by show cb + 0 + 0 ≤ 600000; omega), (by show sb + 0 + 0 ≤ 7302250; omega)⟩ rfl ?_
        show G κ mL_law (cb + 0) (sb + 0) 541 [(0, .ref x0), (1, .ref x1), (2, .ref x2), (3, .int x3)] [.int r76.1] r76.2
        refine g_aload_n (pc' := 542) 2 O dL_law_541 rfl rfl rfl ?_
        refine g_aload_n (pc' := 543) 0 O dL_law_542 rfl rfl rfl ?_
        refine g_iload_n (pc' := 544) 3 O dL_law_543 rfl rfl rfl ?_
        refine g_iconst (v := 1) (pc' := 545) O dL_law_544 (by decide) rfl ?_
        refine g_iadd (pc' := 546) O dL_law_545 rfl ?_
        replace h := ob h; obtain ⟨v77, ev77, h⟩ := h
        refine g_kiald (pc' := 547) O dL_law_546 ev77 rfl ?_
        refine g_aload_n (pc' := 548) 0 O dL_law_547 rfl rfl rfl ?_
        refine g_iload_n (pc' := 549) 3 O dL_law_548 rfl rfl rfl ?_
        refine g_iconst (v := 2) (pc' := 550) O dL_law_549 (by decide) rfl ?_
        refine g_iadd (pc' := 551) O dL_law_550 rfl ?_
        replace h := ob h; obtain ⟨v78, ev78, h⟩ := h
        refine g_kiald (pc' := 552) O dL_law_551 ev78 rfl ?_
        replace h := ob h; obtain ⟨u79, eu79, h⟩ := h
        replace h := ob h; obtain ⟨r80, er80, h⟩ := h
        refine g_callV (y := yX8_state) (ν := mX8_state) (n := 2) (As := [.int v77, .int v78]) (b := x2) (st := [.int r76.1]) (M2 := r80.2) (r1 := (some (.int r80.1))) (pc' := 555) O dL_law_552 tw_918 tw_58 tw_916 tw_917 tw_915 hyX8_state rfl rfl eu79 (okX8_state er80) (Nat.le_of_ble_eq_true rfl) ⟨Nat.le_of_ble_eq_true rfl, Nat.le_of_ble_eq_true rfl⟩ ⟨(by show cb + 0 + 0 ≤ 600000; omega), (by show sb + 0 + 0 ≤ 7302250; omega)⟩ rfl ?_
        show G κ mL_law (cb + 0) (sb + 0) 555 [(0, .ref x0), (1, .ref x1), (2, .ref x2), (3, .int x3)] [.int r80.1, .int r76.1] r80.2
        refine g_icmp_eq (tgt := 994) (pc' := 558) O dL_law_555 (by decide) rfl (fun hc => ?_) (fun hc => ?_)
        · replace h := ip hc h
          refine g_widen (c2 := cb + 10) (s2 := sb + 2055) (by omega) (by omega) ?_
          exact tL_law_994 O hf hcb hsb (fun a1 a2 a3 a4 a5 hh => ih a1 a2 a3 a4 a5 (cb + 20) (sb + 4000) (by omega) (by omega) hh) h
        · replace h := ine hc h
          refine g_iconst (v := 0) (pc' := 559) O dL_law_558 (by decide) rfl ?_
          replace h := ob h; obtain ⟨z81, ez81, h⟩ := h
          obtain ⟨hz81, ez81b⟩ := nz_spec ez81
          rw [ez81b] at h
          cases h
          exact g_ireturn O dL_law_559 rfl (nz_nar hz81) hf (by show cb + 0 ≤ 600000; omega) (by show sb + 0 ≤ 7302250; omega)
      replace h := ine hs8 h
      by_cases hs9 : (v3 &&& (31 : Int32)) = (9 : Int32)
      · replace h := ip hs9 h
        refine g_tableIn (off := 527) (pc' := 560) O dL_law_33 (by rw [hs9]; decide) (by rw [hs9]; decide) (by rw [hs9]; decide) (by decide) ?_
        refine g_aload_n (pc' := 561) 1 O dL_law_560 rfl rfl rfl ?_
        refine g_aload_n (pc' := 562) 0 O dL_law_561 rfl rfl rfl ?_
        refine g_iload_n (pc' := 563) 3 O dL_law_562 rfl rfl rfl ?_
        refine g_iconst (v := 1) (pc' := 564) O dL_law_563 (by decide) rfl ?_
        refine g_iadd (pc' := 565) O dL_law_564 rfl ?_
        replace h := ob h; obtain ⟨v82, ev82, h⟩ := h
        refine g_kiald (pc' := 566) O dL_law_565 ev82 rfl ?_
        refine g_aload_n (pc' := 567) 0 O dL_law_566 rfl rfl rfl ?_
        refine g_iload_n (pc' := 568) 3 O dL_law_567 rfl rfl rfl ?_
        refine g_iconst (v := 2) (pc' := 569) O dL_law_568 (by decide) rfl ?_
        refine g_iadd (pc' := 570) O dL_law_569 rfl ?_
        replace h := ob h; obtain ⟨v83, ev83, h⟩ := h
        refine g_kiald (pc' := 571) O dL_law_570 ev83 rfl ?_
        refine g_aload_n (pc' := 572) 0 O dL_law_571 rfl rfl rfl ?_
        refine g_iload_n (pc' := 573) 3 O dL_law_572 rfl rfl rfl ?_
        refine g_iconst (v := 3) (pc' := 574) O dL_law_573 (by decide) rfl ?_
        refine g_iadd (pc' := 575) O dL_law_574 rfl ?_
        replace h := ob h; obtain ⟨v84, ev84, h⟩ := h
        refine g_kiald (pc' := 576) O dL_law_575 ev84 rfl ?_
        refine g_i2l (pc' := 577) O dL_law_576 rfl ?_
        refine g_bipush (v := 32) (pc' := 579) O dL_law_577 (by decide) rfl ?_
        refine g_lshl (pc' := 580) O dL_law_579 rfl ?_
        refine g_aload_n (pc' := 581) 0 O dL_law_580 rfl rfl rfl ?_
        refine g_iload_n (pc' := 582) 3 O dL_law_581 rfl rfl rfl ?_
        refine g_iconst (v := 4) (pc' := 583) O dL_law_582 (by decide) rfl ?_
        refine g_iadd (pc' := 584) O dL_law_583 rfl ?_
        replace h := ob h; obtain ⟨v85, ev85, h⟩ := h
        refine g_kiald (pc' := 585) O dL_law_584 ev85 rfl ?_
        refine g_i2l (pc' := 586) O dL_law_585 rfl ?_
        refine g_ldc2 (v := 4294967295) (pc' := 589) O dL_law_586 tw_1090 rfl ?_
        refine g_land (pc' := 590) O dL_law_589 rfl ?_
        refine g_lor (pc' := 591) O dL_law_590 rfl ?_
        refine g_aload_n (pc' := 592) 0 O dL_law_591 rfl rfl rfl ?_
        refine g_iload_n (pc' := 593) 3 O dL_law_592 rfl rfl rfl ?_
        refine g_iconst (v := 5) (pc' := 594) O dL_law_593 (by decide) rfl ?_
        refine g_iadd (pc' := 595) O dL_law_594 rfl ?_
        replace h := ob h; obtain ⟨v86, ev86, h⟩ := h
        refine g_kiald (pc' := 596) O dL_law_595 ev86 rfl ?_
        replace h := ob h; obtain ⟨u87, eu87, h⟩ := h
        replace h := ob h; obtain ⟨r88, er88, h⟩ := h
        refine g_callV (y := yX7_show) (ν := mX7_show) (n := 4) (As := [.int v82, .int v83, .long (((v84.toInt64) <<< ((32 : Int32).toInt64 &&& 63)) ||| ((v85.toInt64) &&& (4294967295 : Int64))), .int v86]) (b := x1) (st := []) (M2 := r88.2) (r1 := (some (.int r88.1))) (pc' := 599) O dL_law_596 tw_444 tw_53 tw_442 tw_443 tw_441 hyX7_show rfl rfl eu87 (okX7_show er88) (Nat.le_of_ble_eq_true rfl) ⟨Nat.le_of_ble_eq_true rfl, Nat.le_of_ble_eq_true rfl⟩ ⟨(by show cb + 0 + 0 ≤ 600000; omega), (by show sb + 0 + 0 ≤ 7302250; omega)⟩ rfl ?_
        show G κ mL_law (cb + 0) (sb + 0) 599 [(0, .ref x0), (1, .ref x1), (2, .ref x2), (3, .int x3)] [.int r88.1] r88.2
        refine g_aload_n (pc' := 600) 2 O dL_law_599 rfl rfl rfl ?_
        refine g_aload_n (pc' := 601) 0 O dL_law_600 rfl rfl rfl ?_
        refine g_iload_n (pc' := 602) 3 O dL_law_601 rfl rfl rfl ?_
        refine g_iconst (v := 1) (pc' := 603) O dL_law_602 (by decide) rfl ?_
        refine g_iadd (pc' := 604) O dL_law_603 rfl ?_
        replace h := ob h; obtain ⟨v89, ev89, h⟩ := h
        refine g_kiald (pc' := 605) O dL_law_604 ev89 rfl ?_
        refine g_aload_n (pc' := 606) 0 O dL_law_605 rfl rfl rfl ?_
        refine g_iload_n (pc' := 607) 3 O dL_law_606 rfl rfl rfl ?_
        refine g_iconst (v := 2) (pc' := 608) O dL_law_607 (by decide) rfl ?_
        refine g_iadd (pc' := 609) O dL_law_608 rfl ?_
        replace h := ob h; obtain ⟨v90, ev90, h⟩ := h
        refine g_kiald (pc' := 610) O dL_law_609 ev90 rfl ?_
        refine g_aload_n (pc' := 611) 0 O dL_law_610 rfl rfl rfl ?_
        refine g_iload_n (pc' := 612) 3 O dL_law_611 rfl rfl rfl ?_
        refine g_iconst (v := 3) (pc' := 613) O dL_law_612 (by decide) rfl ?_
        refine g_iadd (pc' := 614) O dL_law_613 rfl ?_
        replace h := ob h; obtain ⟨v91, ev91, h⟩ := h
        refine g_kiald (pc' := 615) O dL_law_614 ev91 rfl ?_
        refine g_i2l (pc' := 616) O dL_law_615 rfl ?_
        refine g_bipush (v := 32) (pc' := 618) O dL_law_616 (by decide) rfl ?_
        refine g_lshl (pc' := 619) O dL_law_618 rfl ?_
        refine g_aload_n (pc' := 620) 0 O dL_law_619 rfl rfl rfl ?_
        refine g_iload_n (pc' := 621) 3 O dL_law_620 rfl rfl rfl ?_
        refine g_iconst (v := 4) (pc' := 622) O dL_law_621 (by decide) rfl ?_
        refine g_iadd (pc' := 623) O dL_law_622 rfl ?_
        replace h := ob h; obtain ⟨v92, ev92, h⟩ := h
        refine g_kiald (pc' := 624) O dL_law_623 ev92 rfl ?_
        refine g_i2l (pc' := 625) O dL_law_624 rfl ?_
        refine g_ldc2 (v := 4294967295) (pc' := 628) O dL_law_625 tw_1090 rfl ?_
        refine g_land (pc' := 629) O dL_law_628 rfl ?_
        refine g_lor (pc' := 630) O dL_law_629 rfl ?_
        refine g_aload_n (pc' := 631) 0 O dL_law_630 rfl rfl rfl ?_
        refine g_iload_n (pc' := 632) 3 O dL_law_631 rfl rfl rfl ?_
        refine g_iconst (v := 5) (pc' := 633) O dL_law_632 (by decide) rfl ?_
        refine g_iadd (pc' := 634) O dL_law_633 rfl ?_
        replace h := ob h; obtain ⟨v93, ev93, h⟩ := h
        refine g_kiald (pc' := 635) O dL_law_634 ev93 rfl ?_
        replace h := ob h; obtain ⟨u94, eu94, h⟩ := h
        replace h := ob h; obtain ⟨r95, er95, h⟩ := h
        refine g_callV (y := yX8_show) (ν := mX8_show) (n := 4) (As := [.int v89, .int v90, .long (((v91.toInt64) <<< ((32 : Int32).toInt64 &&& 63)) ||| ((v92.toInt64) &&& (4294967295 : Int64))), .int v93]) (b := x2) (st := [.int r88.1]) (M2 := r95.2) (r1 := (some (.int r95.1))) (pc' := 638) O dL_law_635 tw_922 tw_58 tw_920 tw_921 tw_919 hyX8_show rfl rfl eu94 (okX8_show er95) (Nat.le_of_ble_eq_true rfl) ⟨Nat.le_of_ble_eq_true rfl, Nat.le_of_ble_eq_true rfl⟩ ⟨(by show cb + 0 + 0 ≤ 600000; omega), (by show sb + 0 + 0 ≤ 7302250; omega)⟩ rfl ?_
        show G κ mL_law (cb + 0) (sb + 0) 638 [(0, .ref x0), (1, .ref x1), (2, .ref x2), (3, .int x3)] [.int r95.1, .int r88.1] r95.2
        refine g_icmp_eq (tgt := 994) (pc' := 641) O dL_law_638 (by decide) rfl (fun hc => ?_) (fun hc => ?_)
        · replace h := ip hc h
          refine g_widen (c2 := cb + 10) (s2 := sb + 2055) (by omega) (by omega) ?_
          exact tL_law_994 O hf hcb hsb (fun a1 a2 a3 a4 a5 hh => ih a1 a2 a3 a4 a5 (cb + 20) (sb + 4000) (by omega) (by omega) hh) h
        · replace h := ine hc h
          refine g_iconst (v := 0) (pc' := 642) O dL_law_641 (by decide) rfl ?_
          replace h := ob h; obtain ⟨z96, ez96, h⟩ := h
          obtain ⟨hz96, ez96b⟩ := nz_spec ez96
          rw [ez96b] at h
          cases h
          exact g_ireturn O dL_law_642 rfl (nz_nar hz96) hf (by show cb + 0 ≤ 600000; omega) (by show sb + 0 ≤ 7302250; omega)
      replace h := ine hs9 h
      by_cases hs10 : (v3 &&& (31 : Int32)) = (10 : Int32)
      · replace h := ip hs10 h
        refine g_tableIn (off := 610) (pc' := 643) O dL_law_33 (by rw [hs10]; decide) (by rw [hs10]; decide) (by rw [hs10]; decide) (by decide) ?_
        refine g_aload_n (pc' := 644) 1 O dL_law_643 rfl rfl rfl ?_
        refine g_aload_n (pc' := 645) 0 O dL_law_644 rfl rfl rfl ?_
        refine g_iload_n (pc' := 646) 3 O dL_law_645 rfl rfl rfl ?_
        refine g_iconst (v := 1) (pc' := 647) O dL_law_646 (by decide) rfl ?_
        refine g_iadd (pc' := 648) O dL_law_647 rfl ?_
        replace h := ob h; obtain ⟨v97, ev97, h⟩ := h
        refine g_kiald (pc' := 649) O dL_law_648 ev97 rfl ?_
        replace h := ob h; obtain ⟨u98, eu98, h⟩ := h
        replace h := ob h; obtain ⟨r99, er99, h⟩ := h
        refine g_callV (y := yX7_words) (ν := mX7_words) (n := 1) (As := [.int v97]) (b := x1) (st := []) (M2 := r99.2) (r1 := (some (.int r99.1))) (pc' := 652) O dL_law_649 tw_509 tw_53 tw_507 tw_508 tw_506 hyX7_words rfl rfl eu98 (okX7_words er99) (Nat.le_of_ble_eq_true rfl) ⟨Nat.le_of_ble_eq_true rfl, Nat.le_of_ble_eq_true rfl⟩ ⟨(by show cb + 0 + 0 ≤ 600000; omega), (by show sb + 0 + 0 ≤ 7302250; omega)⟩ rfl ?_
        show G κ mL_law (cb + 0) (sb + 0) 652 [(0, .ref x0), (1, .ref x1), (2, .ref x2), (3, .int x3)] [.int r99.1] r99.2
        refine g_aload_n (pc' := 653) 2 O dL_law_652 rfl rfl rfl ?_
        refine g_aload_n (pc' := 654) 0 O dL_law_653 rfl rfl rfl ?_
        refine g_iload_n (pc' := 655) 3 O dL_law_654 rfl rfl rfl ?_
        refine g_iconst (v := 1) (pc' := 656) O dL_law_655 (by decide) rfl ?_
        refine g_iadd (pc' := 657) O dL_law_656 rfl ?_
        replace h := ob h; obtain ⟨v100, ev100, h⟩ := h
        refine g_kiald (pc' := 658) O dL_law_657 ev100 rfl ?_
        replace h := ob h; obtain ⟨u101, eu101, h⟩ := h
        replace h := ob h; obtain ⟨r102, er102, h⟩ := h
        refine g_callV (y := yX8_words) (ν := mX8_words) (n := 1) (As := [.int v100]) (b := x2) (st := [.int r99.1]) (M2 := r102.2) (r1 := (some (.int r102.1))) (pc' := 661) O dL_law_658 tw_959 tw_58 tw_957 tw_958 tw_956 hyX8_words rfl rfl eu101 (okX8_words er102) (Nat.le_of_ble_eq_true rfl) ⟨Nat.le_of_ble_eq_true rfl, Nat.le_of_ble_eq_true rfl⟩ ⟨(by show cb + 0 + 0 ≤ 600000; omega), (by show sb + 0 + 0 ≤ 7302250; omega)⟩ rfl ?_
        show G κ mL_law (cb + 0) (sb + 0) 661 [(0, .ref x0), (1, .ref x1), (2, .ref x2), (3, .int x3)] [.int r102.1, .int r99.1] r102.2
        refine g_icmp_eq (tgt := 994) (pc' := 664) O dL_law_661 (by decide) rfl (fun hc => ?_) (fun hc => ?_)
        · replace h := ip hc h
          refine g_widen (c2 := cb + 10) (s2 := sb + 2055) (by omega) (by omega) ?_
          exact tL_law_994 O hf hcb hsb (fun a1 a2 a3 a4 a5 hh => ih a1 a2 a3 a4 a5 (cb + 20) (sb + 4000) (by omega) (by omega) hh) h
        · replace h := ine hc h
          refine g_iconst (v := 0) (pc' := 665) O dL_law_664 (by decide) rfl ?_
          replace h := ob h; obtain ⟨z103, ez103, h⟩ := h
          obtain ⟨hz103, ez103b⟩ := nz_spec ez103
          rw [ez103b] at h
          cases h
          exact g_ireturn O dL_law_665 rfl (nz_nar hz103) hf (by show cb + 0 ≤ 600000; omega) (by show sb + 0 ≤ 7302250; omega)
      replace h := ine hs10 h
      by_cases hs11 : (v3 &&& (31 : Int32)) = (11 : Int32)
      · replace h := ip hs11 h
        refine g_tableIn (off := 633) (pc' := 666) O dL_law_33 (by rw [hs11]; decide) (by rw [hs11]; decide) (by rw [hs11]; decide) (by decide) ?_
        refine g_aload_n (pc' := 667) 1 O dL_law_666 rfl rfl rfl ?_
        refine g_aload_n (pc' := 668) 0 O dL_law_667 rfl rfl rfl ?_
        refine g_iload_n (pc' := 669) 3 O dL_law_668 rfl rfl rfl ?_
        refine g_iconst (v := 1) (pc' := 670) O dL_law_669 (by decide) rfl ?_
        refine g_iadd (pc' := 671) O dL_law_670 rfl ?_
        replace h := ob h; obtain ⟨v104, ev104, h⟩ := h
        refine g_kiald (pc' := 672) O dL_law_671 ev104 rfl ?_
        replace h := ob h; obtain ⟨u105, eu105, h⟩ := h
        replace h := ob h; obtain ⟨r106, er106, h⟩ := h
        refine g_callV (y := yX7_shown) (ν := mX7_shown) (n := 1) (As := [.int v104]) (b := x1) (st := []) (M2 := r106.2) (r1 := (some (.int r106.1))) (pc' := 675) O dL_law_672 tw_611 tw_53 tw_609 tw_610 tw_608 hyX7_shown rfl rfl eu105 (okX7_shown er106) (Nat.le_of_ble_eq_true rfl) ⟨Nat.le_of_ble_eq_true rfl, Nat.le_of_ble_eq_true rfl⟩ ⟨(by show cb + 0 + 0 ≤ 600000; omega), (by show sb + 0 + 0 ≤ 7302250; omega)⟩ rfl ?_
        show G κ mL_law (cb + 0) (sb + 0) 675 [(0, .ref x0), (1, .ref x1), (2, .ref x2), (3, .int x3)] [.int r106.1] r106.2
        refine g_aload_n (pc' := 676) 2 O dL_law_675 rfl rfl rfl ?_
        refine g_aload_n (pc' := 677) 0 O dL_law_676 rfl rfl rfl ?_
        refine g_iload_n (pc' := 678) 3 O dL_law_677 rfl rfl rfl ?_
        refine g_iconst (v := 1) (pc' := 679) O dL_law_678 (by decide) rfl ?_
        refine g_iadd (pc' := 680) O dL_law_679 rfl ?_
        replace h := ob h; obtain ⟨v107, ev107, h⟩ := h
        refine g_kiald (pc' := 681) O dL_law_680 ev107 rfl ?_
        replace h := ob h; obtain ⟨u108, eu108, h⟩ := h
        replace h := ob h; obtain ⟨r109, er109, h⟩ := h
        refine g_callV (y := yX8_shown) (ν := mX8_shown) (n := 1) (As := [.int v107]) (b := x2) (st := [.int r106.1]) (M2 := r109.2) (r1 := (some (.int r109.1))) (pc' := 684) O dL_law_681 tw_1018 tw_58 tw_1016 tw_1017 tw_1015 hyX8_shown rfl rfl eu108 (okX8_shown er109) (Nat.le_of_ble_eq_true rfl) ⟨Nat.le_of_ble_eq_true rfl, Nat.le_of_ble_eq_true rfl⟩ ⟨(by show cb + 0 + 0 ≤ 600000; omega), (by show sb + 0 + 0 ≤ 7302250; omega)⟩ rfl ?_
        show G κ mL_law (cb + 0) (sb + 0) 684 [(0, .ref x0), (1, .ref x1), (2, .ref x2), (3, .int x3)] [.int r109.1, .int r106.1] r109.2
        refine g_icmp_eq (tgt := 994) (pc' := 687) O dL_law_684 (by decide) rfl (fun hc => ?_) (fun hc => ?_)
        · replace h := ip hc h
          refine g_widen (c2 := cb + 10) (s2 := sb + 2055) (by omega) (by omega) ?_
          exact tL_law_994 O hf hcb hsb (fun a1 a2 a3 a4 a5 hh => ih a1 a2 a3 a4 a5 (cb + 20) (sb + 4000) (by omega) (by omega) hh) h
        · replace h := ine hc h
          refine g_iconst (v := 0) (pc' := 688) O dL_law_687 (by decide) rfl ?_
          replace h := ob h; obtain ⟨z110, ez110, h⟩ := h
          obtain ⟨hz110, ez110b⟩ := nz_spec ez110
          rw [ez110b] at h
          cases h
          exact g_ireturn O dL_law_688 rfl (nz_nar hz110) hf (by show cb + 0 ≤ 600000; omega) (by show sb + 0 ≤ 7302250; omega)
      replace h := ine hs11 h
      by_cases hs12 : (v3 &&& (31 : Int32)) = (12 : Int32)
      · replace h := ip hs12 h
        refine g_tableIn (off := 656) (pc' := 689) O dL_law_33 (by rw [hs12]; decide) (by rw [hs12]; decide) (by rw [hs12]; decide) (by decide) ?_
        refine g_aload_n (pc' := 690) 1 O dL_law_689 rfl rfl rfl ?_
        replace h := ob h; obtain ⟨u111, eu111, h⟩ := h
        replace h := ob h; obtain ⟨r112, er112, h⟩ := h
        refine g_callV (y := yX7_take) (ν := mX7_take) (n := 0) (As := []) (b := x1) (st := []) (M2 := r112.2) (r1 := (some (.int r112.1))) (pc' := 693) O dL_law_690 tw_619 tw_53 tw_617 tw_618 tw_616 hyX7_take rfl rfl eu111 (okX7_take er112) (Nat.le_of_ble_eq_true rfl) ⟨Nat.le_of_ble_eq_true rfl, Nat.le_of_ble_eq_true rfl⟩ ⟨(by show cb + 0 + 0 ≤ 600000; omega), (by show sb + 0 + 0 ≤ 7302250; omega)⟩ rfl ?_
        show G κ mL_law (cb + 0) (sb + 0) 693 [(0, .ref x0), (1, .ref x1), (2, .ref x2), (3, .int x3)] [.int r112.1] r112.2
        refine g_aload_n (pc' := 694) 2 O dL_law_693 rfl rfl rfl ?_
        replace h := ob h; obtain ⟨u113, eu113, h⟩ := h
        replace h := ob h; obtain ⟨r114, er114, h⟩ := h
        refine g_callV (y := yX8_take) (ν := mX8_take) (n := 0) (As := []) (b := x2) (st := [.int r112.1]) (M2 := r114.2) (r1 := (some (.int r114.1))) (pc' := 697) O dL_law_694 tw_1022 tw_58 tw_1020 tw_1021 tw_1019 hyX8_take rfl rfl eu113 (okX8_take er114) (Nat.le_of_ble_eq_true rfl) ⟨Nat.le_of_ble_eq_true rfl, Nat.le_of_ble_eq_true rfl⟩ ⟨(by show cb + 0 + 0 ≤ 600000; omega), (by show sb + 0 + 0 ≤ 7302250; omega)⟩ rfl ?_
        show G κ mL_law (cb + 0) (sb + 0) 697 [(0, .ref x0), (1, .ref x1), (2, .ref x2), (3, .int x3)] [.int r114.1, .int r112.1] r114.2
        refine g_icmp_eq (tgt := 994) (pc' := 700) O dL_law_697 (by decide) rfl (fun hc => ?_) (fun hc => ?_)
        · replace h := ip hc h
          refine g_widen (c2 := cb + 10) (s2 := sb + 2055) (by omega) (by omega) ?_
          exact tL_law_994 O hf hcb hsb (fun a1 a2 a3 a4 a5 hh => ih a1 a2 a3 a4 a5 (cb + 20) (sb + 4000) (by omega) (by omega) hh) h
        · replace h := ine hc h
          refine g_iconst (v := 0) (pc' := 701) O dL_law_700 (by decide) rfl ?_
          replace h := ob h; obtain ⟨z115, ez115, h⟩ := h
          obtain ⟨hz115, ez115b⟩ := nz_spec ez115
          rw [ez115b] at h
          cases h
          exact g_ireturn O dL_law_701 rfl (nz_nar hz115) hf (by show cb + 0 ≤ 600000; omega) (by show sb + 0 ≤ 7302250; omega)
      replace h := ine hs12 h
      by_cases hs13 : (v3 &&& (31 : Int32)) = (13 : Int32)
      · replace h := ip hs13 h
        refine g_tableIn (off := 669) (pc' := 702) O dL_law_33 (by rw [hs13]; decide) (by rw [hs13]; decide) (by rw [hs13]; decide) (by decide) ?_
        refine g_aload_n (pc' := 703) 1 O dL_law_702 rfl rfl rfl ?_
        replace h := ob h; obtain ⟨u116, eu116, h⟩ := h
        replace h := ob h; obtain ⟨r117, er117, h⟩ := h
        refine g_callV (y := yX7_spoken) (ν := mX7_spoken) (n := 0) (As := []) (b := x1) (st := []) (M2 := r117.2) (r1 := (some (.int r117.1))) (pc' := 706) O dL_law_703 tw_631 tw_53 tw_629 tw_630 tw_628 hyX7_spoken rfl rfl eu116 (okX7_spoken er117) (Nat.le_of_ble_eq_true rfl) ⟨Nat.le_of_ble_eq_true rfl, Nat.le_of_ble_eq_true rfl⟩ ⟨(by show cb + 0 + 0 ≤ 600000; omega), (by show sb + 0 + 0 ≤ 7302250; omega)⟩ rfl ?_
        show G κ mL_law (cb + 0) (sb + 0) 706 [(0, .ref x0), (1, .ref x1), (2, .ref x2), (3, .int x3)] [.int r117.1] r117.2
        refine g_aload_n (pc' := 707) 2 O dL_law_706 rfl rfl rfl ?_
        replace h := ob h; obtain ⟨u118, eu118, h⟩ := h
        replace h := ob h; obtain ⟨r119, er119, h⟩ := h
        refine g_callV (y := yX8_spoken) (ν := mX8_spoken) (n := 0) (As := []) (b := x2) (st := [.int r117.1]) (M2 := r119.2) (r1 := (some (.int r119.1))) (pc' := 710) O dL_law_707 tw_1026 tw_58 tw_1024 tw_1025 tw_1023 hyX8_spoken rfl rfl eu118 (okX8_spoken er119) (Nat.le_of_ble_eq_true rfl) ⟨Nat.le_of_ble_eq_true rfl, Nat.le_of_ble_eq_true rfl⟩ ⟨(by show cb + 0 + 0 ≤ 600000; omega), (by show sb + 0 + 0 ≤ 7302250; omega)⟩ rfl ?_
        show G κ mL_law (cb + 0) (sb + 0) 710 [(0, .ref x0), (1, .ref x1), (2, .ref x2), (3, .int x3)] [.int r119.1, .int r117.1] r119.2
        refine g_icmp_eq (tgt := 994) (pc' := 713) O dL_law_710 (by decide) rfl (fun hc => ?_) (fun hc => ?_)
        · replace h := ip hc h
          refine g_widen (c2 := cb + 10) (s2 := sb + 2055) (by omega) (by omega) ?_
          exact tL_law_994 O hf hcb hsb (fun a1 a2 a3 a4 a5 hh => ih a1 a2 a3 a4 a5 (cb + 20) (sb + 4000) (by omega) (by omega) hh) h
        · replace h := ine hc h
          refine g_iconst (v := 0) (pc' := 714) O dL_law_713 (by decide) rfl ?_
          replace h := ob h; obtain ⟨z120, ez120, h⟩ := h
          obtain ⟨hz120, ez120b⟩ := nz_spec ez120
          rw [ez120b] at h
          cases h
          exact g_ireturn O dL_law_714 rfl (nz_nar hz120) hf (by show cb + 0 ≤ 600000; omega) (by show sb + 0 ≤ 7302250; omega)
      replace h := ine hs13 h
      by_cases hs14 : (v3 &&& (31 : Int32)) = (14 : Int32)
      · replace h := ip hs14 h
        refine g_tableIn (off := 682) (pc' := 715) O dL_law_33 (by rw [hs14]; decide) (by rw [hs14]; decide) (by rw [hs14]; decide) (by decide) ?_
        refine g_aload_n (pc' := 716) 1 O dL_law_715 rfl rfl rfl ?_
        refine g_aload_n (pc' := 717) 0 O dL_law_716 rfl rfl rfl ?_
        refine g_iload_n (pc' := 718) 3 O dL_law_717 rfl rfl rfl ?_
        refine g_iconst (v := 1) (pc' := 719) O dL_law_718 (by decide) rfl ?_
        refine g_iadd (pc' := 720) O dL_law_719 rfl ?_
        replace h := ob h; obtain ⟨v121, ev121, h⟩ := h
        refine g_kiald (pc' := 721) O dL_law_720 ev121 rfl ?_
        refine g_aload_n (pc' := 722) 0 O dL_law_721 rfl rfl rfl ?_
        refine g_iload_n (pc' := 723) 3 O dL_law_722 rfl rfl rfl ?_
        refine g_iconst (v := 2) (pc' := 724) O dL_law_723 (by decide) rfl ?_
        refine g_iadd (pc' := 725) O dL_law_724 rfl ?_
        replace h := ob h; obtain ⟨v122, ev122, h⟩ := h
        refine g_kiald (pc' := 726) O dL_law_725 ev122 rfl ?_
        refine g_aload_n (pc' := 727) 0 O dL_law_726 rfl rfl rfl ?_
        refine g_iload_n (pc' := 728) 3 O dL_law_727 rfl rfl rfl ?_
        refine g_iconst (v := 3) (pc' := 729) O dL_law_728 (by decide) rfl ?_
        refine g_iadd (pc' := 730) O dL_law_729 rfl ?_
        replace h := ob h; obtain ⟨v123, ev123, h⟩ := h
        refine g_kiald (pc' := 731) O dL_law_730 ev123 rfl ?_
        refine g_aload_n (pc' := 732) 0 O dL_law_731 rfl rfl rfl ?_
        refine g_iload_n (pc' := 733) 3 O dL_law_732 rfl rfl rfl ?_
        refine g_iconst (v := 4) (pc' := 734) O dL_law_733 (by decide) rfl ?_
        refine g_iadd (pc' := 735) O dL_law_734 rfl ?_
        replace h := ob h; obtain ⟨v124, ev124, h⟩ := h
        refine g_kiald (pc' := 736) O dL_law_735 ev124 rfl ?_
        refine g_i2l (pc' := 737) O dL_law_736 rfl ?_
        refine g_bipush (v := 32) (pc' := 739) O dL_law_737 (by decide) rfl ?_
        refine g_lshl (pc' := 740) O dL_law_739 rfl ?_
        refine g_aload_n (pc' := 741) 0 O dL_law_740 rfl rfl rfl ?_
        refine g_iload_n (pc' := 742) 3 O dL_law_741 rfl rfl rfl ?_
        refine g_iconst (v := 5) (pc' := 743) O dL_law_742 (by decide) rfl ?_
        refine g_iadd (pc' := 744) O dL_law_743 rfl ?_
        replace h := ob h; obtain ⟨v125, ev125, h⟩ := h
        refine g_kiald (pc' := 745) O dL_law_744 ev125 rfl ?_
        refine g_i2l (pc' := 746) O dL_law_745 rfl ?_
        refine g_ldc2 (v := 4294967295) (pc' := 749) O dL_law_746 tw_1090 rfl ?_
        refine g_land (pc' := 750) O dL_law_749 rfl ?_
        refine g_lor (pc' := 751) O dL_law_750 rfl ?_
        refine g_aload_n (pc' := 752) 0 O dL_law_751 rfl rfl rfl ?_
        refine g_iload_n (pc' := 753) 3 O dL_law_752 rfl rfl rfl ?_
        refine g_bipush (v := 6) (pc' := 755) O dL_law_753 (by decide) rfl ?_
        refine g_iadd (pc' := 756) O dL_law_755 rfl ?_
        replace h := ob h; obtain ⟨v126, ev126, h⟩ := h
        refine g_kiald (pc' := 757) O dL_law_756 ev126 rfl ?_
        replace h := ob h; obtain ⟨u127, eu127, h⟩ := h
        replace h := ob h; obtain ⟨r128, er128, h⟩ := h
        refine g_callV (y := yX7_other) (ν := mX7_other) (n := 5) (As := [.int v121, .int v122, .int v123, .long (((v124.toInt64) <<< ((32 : Int32).toInt64 &&& 63)) ||| ((v125.toInt64) &&& (4294967295 : Int64))), .int v126]) (b := x1) (st := []) (M2 := r128.2) (r1 := (some (.long r128.1))) (pc' := 760) O dL_law_757 tw_650 tw_53 tw_648 tw_649 tw_647 hyX7_other rfl rfl eu127 (okX7_other er128) (Nat.le_of_ble_eq_true rfl) ⟨Nat.le_of_ble_eq_true rfl, Nat.le_of_ble_eq_true rfl⟩ ⟨(by show cb + 0 + 0 ≤ 600000; omega), (by show sb + 0 + 0 ≤ 7302250; omega)⟩ rfl ?_
        show G κ mL_law (cb + 0) (sb + 0) 760 [(0, .ref x0), (1, .ref x1), (2, .ref x2), (3, .int x3)] [.long r128.1] r128.2
        refine g_aload_n (pc' := 761) 2 O dL_law_760 rfl rfl rfl ?_
        refine g_aload_n (pc' := 762) 0 O dL_law_761 rfl rfl rfl ?_
        refine g_iload_n (pc' := 763) 3 O dL_law_762 rfl rfl rfl ?_
        refine g_iconst (v := 1) (pc' := 764) O dL_law_763 (by decide) rfl ?_
        refine g_iadd (pc' := 765) O dL_law_764 rfl ?_
        replace h := ob h; obtain ⟨v129, ev129, h⟩ := h
        refine g_kiald (pc' := 766) O dL_law_765 ev129 rfl ?_
        refine g_aload_n (pc' := 767) 0 O dL_law_766 rfl rfl rfl ?_
        refine g_iload_n (pc' := 768) 3 O dL_law_767 rfl rfl rfl ?_
        refine g_iconst (v := 2) (pc' := 769) O dL_law_768 (by decide) rfl ?_
        refine g_iadd (pc' := 770) O dL_law_769 rfl ?_
        replace h := ob h; obtain ⟨v130, ev130, h⟩ := h
        refine g_kiald (pc' := 771) O dL_law_770 ev130 rfl ?_
        refine g_aload_n (pc' := 772) 0 O dL_law_771 rfl rfl rfl ?_
        refine g_iload_n (pc' := 773) 3 O dL_law_772 rfl rfl rfl ?_
        refine g_iconst (v := 3) (pc' := 774) O dL_law_773 (by decide) rfl ?_
        refine g_iadd (pc' := 775) O dL_law_774 rfl ?_
        replace h := ob h; obtain ⟨v131, ev131, h⟩ := h
        refine g_kiald (pc' := 776) O dL_law_775 ev131 rfl ?_
        refine g_aload_n (pc' := 777) 0 O dL_law_776 rfl rfl rfl ?_
        refine g_iload_n (pc' := 778) 3 O dL_law_777 rfl rfl rfl ?_
        refine g_iconst (v := 4) (pc' := 779) O dL_law_778 (by decide) rfl ?_
        refine g_iadd (pc' := 780) O dL_law_779 rfl ?_
        replace h := ob h; obtain ⟨v132, ev132, h⟩ := h
        refine g_kiald (pc' := 781) O dL_law_780 ev132 rfl ?_
        refine g_i2l (pc' := 782) O dL_law_781 rfl ?_
        refine g_bipush (v := 32) (pc' := 784) O dL_law_782 (by decide) rfl ?_
        refine g_lshl (pc' := 785) O dL_law_784 rfl ?_
        refine g_aload_n (pc' := 786) 0 O dL_law_785 rfl rfl rfl ?_
        refine g_iload_n (pc' := 787) 3 O dL_law_786 rfl rfl rfl ?_
        refine g_iconst (v := 5) (pc' := 788) O dL_law_787 (by decide) rfl ?_
        refine g_iadd (pc' := 789) O dL_law_788 rfl ?_
        replace h := ob h; obtain ⟨v133, ev133, h⟩ := h
        refine g_kiald (pc' := 790) O dL_law_789 ev133 rfl ?_
        refine g_i2l (pc' := 791) O dL_law_790 rfl ?_
        refine g_ldc2 (v := 4294967295) (pc' := 794) O dL_law_791 tw_1090 rfl ?_
        refine g_land (pc' := 795) O dL_law_794 rfl ?_
        refine g_lor (pc' := 796) O dL_law_795 rfl ?_
        refine g_aload_n (pc' := 797) 0 O dL_law_796 rfl rfl rfl ?_
        refine g_iload_n (pc' := 798) 3 O dL_law_797 rfl rfl rfl ?_
        refine g_bipush (v := 6) (pc' := 800) O dL_law_798 (by decide) rfl ?_
        refine g_iadd (pc' := 801) O dL_law_800 rfl ?_
        replace h := ob h; obtain ⟨v134, ev134, h⟩ := h
        refine g_kiald (pc' := 802) O dL_law_801 ev134 rfl ?_
        replace h := ob h; obtain ⟨u135, eu135, h⟩ := h
        replace h := ob h; obtain ⟨r136, er136, h⟩ := h
        refine g_callV (y := yX8_other) (ν := mX8_other) (n := 5) (As := [.int v129, .int v130, .int v131, .long (((v132.toInt64) <<< ((32 : Int32).toInt64 &&& 63)) ||| ((v133.toInt64) &&& (4294967295 : Int64))), .int v134]) (b := x2) (st := [.long r128.1]) (M2 := r136.2) (r1 := (some (.long r136.1))) (pc' := 805) O dL_law_802 tw_1042 tw_58 tw_1040 tw_1041 tw_1039 hyX8_other rfl rfl eu135 (okX8_other er136) (Nat.le_of_ble_eq_true rfl) ⟨Nat.le_of_ble_eq_true rfl, Nat.le_of_ble_eq_true rfl⟩ ⟨(by show cb + 0 + 0 ≤ 600000; omega), (by show sb + 0 + 0 ≤ 7302250; omega)⟩ rfl ?_
        show G κ mL_law (cb + 0) (sb + 0) 805 [(0, .ref x0), (1, .ref x1), (2, .ref x2), (3, .int x3)] [.long r136.1, .long r128.1] r136.2
        refine g_lcmp (pc' := 806) O dL_law_805 rfl ?_
        refine g_if_eq (tgt := 994) (pc' := 809) O dL_law_806 (by decide) rfl (fun hc => ?_) (fun hc => ?_)
        · replace h := ip hc h
          refine g_widen (c2 := cb + 10) (s2 := sb + 2055) (by omega) (by omega) ?_
          exact tL_law_994 O hf hcb hsb (fun a1 a2 a3 a4 a5 hh => ih a1 a2 a3 a4 a5 (cb + 20) (sb + 4000) (by omega) (by omega) hh) h
        · replace h := ine hc h
          refine g_iconst (v := 0) (pc' := 810) O dL_law_809 (by decide) rfl ?_
          replace h := ob h; obtain ⟨z137, ez137, h⟩ := h
          obtain ⟨hz137, ez137b⟩ := nz_spec ez137
          rw [ez137b] at h
          cases h
          exact g_ireturn O dL_law_810 rfl (nz_nar hz137) hf (by show cb + 0 ≤ 600000; omega) (by show sb + 0 ≤ 7302250; omega)
      replace h := ine hs14 h
      by_cases hs15 : (v3 &&& (31 : Int32)) = (15 : Int32)
      · replace h := ip hs15 h
        refine g_tableIn (off := 778) (pc' := 811) O dL_law_33 (by rw [hs15]; decide) (by rw [hs15]; decide) (by rw [hs15]; decide) (by decide) ?_
        refine g_aload_n (pc' := 812) 1 O dL_law_811 rfl rfl rfl ?_
        replace h := ob h; obtain ⟨u138, eu138, h⟩ := h
        replace h := ob h; obtain ⟨r139, er139, h⟩ := h
        refine g_callV (y := yX7_row) (ν := mX7_row) (n := 0) (As := []) (b := x1) (st := []) (M2 := r139.2) (r1 := (some (.int r139.1))) (pc' := 815) O dL_law_812 tw_654 tw_53 tw_652 tw_653 tw_651 hyX7_row rfl rfl eu138 (okX7_row er139) (Nat.le_of_ble_eq_true rfl) ⟨Nat.le_of_ble_eq_true rfl, Nat.le_of_ble_eq_true rfl⟩ ⟨(by show cb + 0 + 0 ≤ 600000; omega), (by show sb + 0 + 0 ≤ 7302250; omega)⟩ rfl ?_
        show G κ mL_law (cb + 0) (sb + 0) 815 [(0, .ref x0), (1, .ref x1), (2, .ref x2), (3, .int x3)] [.int r139.1] r139.2
        refine g_aload_n (pc' := 816) 2 O dL_law_815 rfl rfl rfl ?_
        replace h := ob h; obtain ⟨u140, eu140, h⟩ := h
        replace h := ob h; obtain ⟨r141, er141, h⟩ := h
        refine g_callV (y := yX8_row) (ν := mX8_row) (n := 0) (As := []) (b := x2) (st := [.int r139.1]) (M2 := r141.2) (r1 := (some (.int r141.1))) (pc' := 819) O dL_law_816 tw_1046 tw_58 tw_1044 tw_1045 tw_1043 hyX8_row rfl rfl eu140 (okX8_row er141) (Nat.le_of_ble_eq_true rfl) ⟨Nat.le_of_ble_eq_true rfl, Nat.le_of_ble_eq_true rfl⟩ ⟨(by show cb + 0 + 0 ≤ 600000; omega), (by show sb + 0 + 0 ≤ 7302250; omega)⟩ rfl ?_
        show G κ mL_law (cb + 0) (sb + 0) 819 [(0, .ref x0), (1, .ref x1), (2, .ref x2), (3, .int x3)] [.int r141.1, .int r139.1] r141.2
        refine g_icmp_eq (tgt := 994) (pc' := 822) O dL_law_819 (by decide) rfl (fun hc => ?_) (fun hc => ?_)
        · replace h := ip hc h
          refine g_widen (c2 := cb + 10) (s2 := sb + 2055) (by omega) (by omega) ?_
          exact tL_law_994 O hf hcb hsb (fun a1 a2 a3 a4 a5 hh => ih a1 a2 a3 a4 a5 (cb + 20) (sb + 4000) (by omega) (by omega) hh) h
        · replace h := ine hc h
          refine g_iconst (v := 0) (pc' := 823) O dL_law_822 (by decide) rfl ?_
          replace h := ob h; obtain ⟨z142, ez142, h⟩ := h
          obtain ⟨hz142, ez142b⟩ := nz_spec ez142
          rw [ez142b] at h
          cases h
          exact g_ireturn O dL_law_823 rfl (nz_nar hz142) hf (by show cb + 0 ≤ 600000; omega) (by show sb + 0 ≤ 7302250; omega)
      replace h := ine hs15 h
      by_cases hs16 : (v3 &&& (31 : Int32)) = (16 : Int32)
      · replace h := ip hs16 h
        refine g_tableIn (off := 791) (pc' := 824) O dL_law_33 (by rw [hs16]; decide) (by rw [hs16]; decide) (by rw [hs16]; decide) (by decide) ?_
        refine g_aload_n (pc' := 825) 1 O dL_law_824 rfl rfl rfl ?_
        replace h := ob h; obtain ⟨u143, eu143, h⟩ := h
        replace h := ob h; obtain ⟨r144, er144, h⟩ := h
        refine g_callV (y := yX7_clear) (ν := mX7_clear) (n := 0) (As := []) (b := x1) (st := []) (M2 := r144) (r1 := none) (pc' := 828) O dL_law_825 tw_669 tw_53 tw_667 tw_668 tw_666 hyX7_clear rfl rfl eu143 (okX7_clear er144) (Nat.le_of_ble_eq_true rfl) ⟨Nat.le_of_ble_eq_true rfl, Nat.le_of_ble_eq_true rfl⟩ ⟨(by show cb + 0 + 0 ≤ 600000; omega), (by show sb + 0 + 0 ≤ 7302250; omega)⟩ rfl ?_
        show G κ mL_law (cb + 0) (sb + 0) 828 [(0, .ref x0), (1, .ref x1), (2, .ref x2), (3, .int x3)] [] r144
        refine g_aload_n (pc' := 829) 2 O dL_law_828 rfl rfl rfl ?_
        replace h := ob h; obtain ⟨u145, eu145, h⟩ := h
        replace h := ob h; obtain ⟨r146, er146, h⟩ := h
        refine g_callV (y := yX8_clear) (ν := mX8_clear) (n := 0) (As := []) (b := x2) (st := []) (M2 := r146) (r1 := none) (pc' := 832) O dL_law_829 tw_1050 tw_58 tw_1048 tw_1049 tw_1047 hyX8_clear rfl rfl eu145 (okX8_clear er146) (Nat.le_of_ble_eq_true rfl) ⟨Nat.le_of_ble_eq_true rfl, Nat.le_of_ble_eq_true rfl⟩ ⟨(by show cb + 0 + 0 ≤ 600000; omega), (by show sb + 0 + 0 ≤ 7302250; omega)⟩ rfl ?_
        show G κ mL_law (cb + 0) (sb + 0) 832 [(0, .ref x0), (1, .ref x1), (2, .ref x2), (3, .int x3)] [] r146
        refine g_goto (pc' := 994) O dL_law_832 (by decide) ?_
        refine g_widen (c2 := cb + 10) (s2 := sb + 2055) (by omega) (by omega) ?_
        exact tL_law_994 O hf hcb hsb (fun a1 a2 a3 a4 a5 hh => ih a1 a2 a3 a4 a5 (cb + 20) (sb + 4000) (by omega) (by omega) hh) h
      replace h := ine hs16 h
      by_cases hs17 : (v3 &&& (31 : Int32)) = (17 : Int32)
      · replace h := ip hs17 h
        refine g_tableIn (off := 802) (pc' := 835) O dL_law_33 (by rw [hs17]; decide) (by rw [hs17]; decide) (by rw [hs17]; decide) (by decide) ?_
        refine g_aload_n (pc' := 836) 1 O dL_law_835 rfl rfl rfl ?_
        refine g_aload_n (pc' := 837) 0 O dL_law_836 rfl rfl rfl ?_
        refine g_iload_n (pc' := 838) 3 O dL_law_837 rfl rfl rfl ?_
        refine g_iconst (v := 1) (pc' := 839) O dL_law_838 (by decide) rfl ?_
        refine g_iadd (pc' := 840) O dL_law_839 rfl ?_
        replace h := ob h; obtain ⟨v147, ev147, h⟩ := h
        refine g_kiald (pc' := 841) O dL_law_840 ev147 rfl ?_
        replace h := ob h; obtain ⟨u148, eu148, h⟩ := h
        replace h := ob h; obtain ⟨r149, er149, h⟩ := h
        refine g_callV (y := yX7_fit) (ν := mX7_fit) (n := 1) (As := [.int v147]) (b := x1) (st := []) (M2 := r149.2) (r1 := (some (.int r149.1))) (pc' := 844) O dL_law_841 tw_673 tw_53 tw_671 tw_672 tw_670 hyX7_fit rfl rfl eu148 (okX7_fit er149) (Nat.le_of_ble_eq_true rfl) ⟨Nat.le_of_ble_eq_true rfl, Nat.le_of_ble_eq_true rfl⟩ ⟨(by show cb + 0 + 0 ≤ 600000; omega), (by show sb + 0 + 0 ≤ 7302250; omega)⟩ rfl ?_
        show G κ mL_law (cb + 0) (sb + 0) 844 [(0, .ref x0), (1, .ref x1), (2, .ref x2), (3, .int x3)] [.int r149.1] r149.2
        refine g_aload_n (pc' := 845) 2 O dL_law_844 rfl rfl rfl ?_
        refine g_aload_n (pc' := 846) 0 O dL_law_845 rfl rfl rfl ?_
        refine g_iload_n (pc' := 847) 3 O dL_law_846 rfl rfl rfl ?_
        refine g_iconst (v := 1) (pc' := 848) O dL_law_847 (by decide) rfl ?_
        refine g_iadd (pc' := 849) O dL_law_848 rfl ?_
        replace h := ob h; obtain ⟨v150, ev150, h⟩ := h
        refine g_kiald (pc' := 850) O dL_law_849 ev150 rfl ?_
        replace h := ob h; obtain ⟨u151, eu151, h⟩ := h
        replace h := ob h; obtain ⟨r152, er152, h⟩ := h
        refine g_callV (y := yX8_fit) (ν := mX8_fit) (n := 1) (As := [.int v150]) (b := x2) (st := [.int r149.1]) (M2 := r152.2) (r1 := (some (.int r152.1))) (pc' := 853) O dL_law_850 tw_1054 tw_58 tw_1052 tw_1053 tw_1051 hyX8_fit rfl rfl eu151 (okX8_fit er152) (Nat.le_of_ble_eq_true rfl) ⟨Nat.le_of_ble_eq_true rfl, Nat.le_of_ble_eq_true rfl⟩ ⟨(by show cb + 0 + 0 ≤ 600000; omega), (by show sb + 0 + 0 ≤ 7302250; omega)⟩ rfl ?_
        show G κ mL_law (cb + 0) (sb + 0) 853 [(0, .ref x0), (1, .ref x1), (2, .ref x2), (3, .int x3)] [.int r152.1, .int r149.1] r152.2
        refine g_icmp_eq (tgt := 994) (pc' := 856) O dL_law_853 (by decide) rfl (fun hc => ?_) (fun hc => ?_)
        · replace h := ip hc h
          refine g_widen (c2 := cb + 10) (s2 := sb + 2055) (by omega) (by omega) ?_
          exact tL_law_994 O hf hcb hsb (fun a1 a2 a3 a4 a5 hh => ih a1 a2 a3 a4 a5 (cb + 20) (sb + 4000) (by omega) (by omega) hh) h
        · replace h := ine hc h
          refine g_iconst (v := 0) (pc' := 857) O dL_law_856 (by decide) rfl ?_
          replace h := ob h; obtain ⟨z153, ez153, h⟩ := h
          obtain ⟨hz153, ez153b⟩ := nz_spec ez153
          rw [ez153b] at h
          cases h
          exact g_ireturn O dL_law_857 rfl (nz_nar hz153) hf (by show cb + 0 ≤ 600000; omega) (by show sb + 0 ≤ 7302250; omega)
      replace h := ine hs17 h
      by_cases hs18 : (v3 &&& (31 : Int32)) = (18 : Int32)
      · replace h := ip hs18 h
        refine g_tableIn (off := 825) (pc' := 858) O dL_law_33 (by rw [hs18]; decide) (by rw [hs18]; decide) (by rw [hs18]; decide) (by decide) ?_
        refine g_aload_n (pc' := 859) 1 O dL_law_858 rfl rfl rfl ?_
        refine g_aload_n (pc' := 860) 0 O dL_law_859 rfl rfl rfl ?_
        refine g_iload_n (pc' := 861) 3 O dL_law_860 rfl rfl rfl ?_
        refine g_iconst (v := 1) (pc' := 862) O dL_law_861 (by decide) rfl ?_
        refine g_iadd (pc' := 863) O dL_law_862 rfl ?_
        replace h := ob h; obtain ⟨v154, ev154, h⟩ := h
        refine g_kiald (pc' := 864) O dL_law_863 ev154 rfl ?_
        refine g_aload_n (pc' := 865) 0 O dL_law_864 rfl rfl rfl ?_
        refine g_iload_n (pc' := 866) 3 O dL_law_865 rfl rfl rfl ?_
        refine g_iconst (v := 2) (pc' := 867) O dL_law_866 (by decide) rfl ?_
        refine g_iadd (pc' := 868) O dL_law_867 rfl ?_
        replace h := ob h; obtain ⟨v155, ev155, h⟩ := h
        refine g_kiald (pc' := 869) O dL_law_868 ev155 rfl ?_
        replace h := ob h; obtain ⟨u156, eu156, h⟩ := h
        replace h := ob h; obtain ⟨r157, er157, h⟩ := h
        refine g_callV (y := yX7_misfit) (ν := mX7_misfit) (n := 2) (As := [.int v154, .int v155]) (b := x1) (st := []) (M2 := r157.2) (r1 := (some (.int r157.1))) (pc' := 872) O dL_law_869 tw_686 tw_53 tw_684 tw_685 tw_683 hyX7_misfit rfl rfl eu156 (okX7_misfit er157) (Nat.le_of_ble_eq_true rfl) ⟨Nat.le_of_ble_eq_true rfl, Nat.le_of_ble_eq_true rfl⟩ ⟨(by show cb + 0 + 0 ≤ 600000; omega), (by show sb + 0 + 0 ≤ 7302250; omega)⟩ rfl ?_
        show G κ mL_law (cb + 0) (sb + 0) 872 [(0, .ref x0), (1, .ref x1), (2, .ref x2), (3, .int x3)] [.int r157.1] r157.2
        refine g_aload_n (pc' := 873) 2 O dL_law_872 rfl rfl rfl ?_
        refine g_aload_n (pc' := 874) 0 O dL_law_873 rfl rfl rfl ?_
        refine g_iload_n (pc' := 875) 3 O dL_law_874 rfl rfl rfl ?_
        refine g_iconst (v := 1) (pc' := 876) O dL_law_875 (by decide) rfl ?_
        refine g_iadd (pc' := 877) O dL_law_876 rfl ?_
        replace h := ob h; obtain ⟨v158, ev158, h⟩ := h
        refine g_kiald (pc' := 878) O dL_law_877 ev158 rfl ?_
        refine g_aload_n (pc' := 879) 0 O dL_law_878 rfl rfl rfl ?_
        refine g_iload_n (pc' := 880) 3 O dL_law_879 rfl rfl rfl ?_
        refine g_iconst (v := 2) (pc' := 881) O dL_law_880 (by decide) rfl ?_
        refine g_iadd (pc' := 882) O dL_law_881 rfl ?_
        replace h := ob h; obtain ⟨v159, ev159, h⟩ := h
        refine g_kiald (pc' := 883) O dL_law_882 ev159 rfl ?_
        replace h := ob h; obtain ⟨u160, eu160, h⟩ := h
        replace h := ob h; obtain ⟨r161, er161, h⟩ := h
        refine g_callV (y := yX8_misfit) (ν := mX8_misfit) (n := 2) (As := [.int v158, .int v159]) (b := x2) (st := [.int r157.1]) (M2 := r161.2) (r1 := (some (.int r161.1))) (pc' := 886) O dL_law_883 tw_1066 tw_58 tw_1064 tw_1065 tw_1063 hyX8_misfit rfl rfl eu160 (okX8_misfit er161) (Nat.le_of_ble_eq_true rfl) ⟨Nat.le_of_ble_eq_true rfl, Nat.le_of_ble_eq_true rfl⟩ ⟨(by show cb + 0 + 0 ≤ 600000; omega), (by show sb + 0 + 0 ≤ 7302250; omega)⟩ rfl ?_
        show G κ mL_law (cb + 0) (sb + 0) 886 [(0, .ref x0), (1, .ref x1), (2, .ref x2), (3, .int x3)] [.int r161.1, .int r157.1] r161.2
        refine g_icmp_eq (tgt := 994) (pc' := 889) O dL_law_886 (by decide) rfl (fun hc => ?_) (fun hc => ?_)
        · replace h := ip hc h
          refine g_widen (c2 := cb + 10) (s2 := sb + 2055) (by omega) (by omega) ?_
          exact tL_law_994 O hf hcb hsb (fun a1 a2 a3 a4 a5 hh => ih a1 a2 a3 a4 a5 (cb + 20) (sb + 4000) (by omega) (by omega) hh) h
        · replace h := ine hc h
          refine g_iconst (v := 0) (pc' := 890) O dL_law_889 (by decide) rfl ?_
          replace h := ob h; obtain ⟨z162, ez162, h⟩ := h
          obtain ⟨hz162, ez162b⟩ := nz_spec ez162
          rw [ez162b] at h
          cases h
          exact g_ireturn O dL_law_890 rfl (nz_nar hz162) hf (by show cb + 0 ≤ 600000; omega) (by show sb + 0 ≤ 7302250; omega)
      replace h := ine hs18 h
      by_cases hs19 : (v3 &&& (31 : Int32)) = (19 : Int32)
      · replace h := ip hs19 h
        refine g_tableIn (off := 858) (pc' := 891) O dL_law_33 (by rw [hs19]; decide) (by rw [hs19]; decide) (by rw [hs19]; decide) (by decide) ?_
        refine g_aload_n (pc' := 892) 1 O dL_law_891 rfl rfl rfl ?_
        refine g_aload_n (pc' := 893) 0 O dL_law_892 rfl rfl rfl ?_
        refine g_iload_n (pc' := 894) 3 O dL_law_893 rfl rfl rfl ?_
        refine g_iconst (v := 1) (pc' := 895) O dL_law_894 (by decide) rfl ?_
        refine g_iadd (pc' := 896) O dL_law_895 rfl ?_
        replace h := ob h; obtain ⟨v163, ev163, h⟩ := h
        refine g_kiald (pc' := 897) O dL_law_896 ev163 rfl ?_
        refine g_aload_n (pc' := 898) 0 O dL_law_897 rfl rfl rfl ?_
        refine g_iload_n (pc' := 899) 3 O dL_law_898 rfl rfl rfl ?_
        refine g_iconst (v := 2) (pc' := 900) O dL_law_899 (by decide) rfl ?_
        refine g_iadd (pc' := 901) O dL_law_900 rfl ?_
        replace h := ob h; obtain ⟨v164, ev164, h⟩ := h
        refine g_kiald (pc' := 902) O dL_law_901 ev164 rfl ?_
        replace h := ob h; obtain ⟨u165, eu165, h⟩ := h
        replace h := ob h; obtain ⟨r166, er166, h⟩ := h
        refine g_callV (y := yX7_sum) (ν := mX7_sum) (n := 2) (As := [.int v163, .int v164]) (b := x1) (st := []) (M2 := r166.2) (r1 := (some (.long r166.1))) (pc' := 905) O dL_law_902 tw_690 tw_53 tw_688 tw_689 tw_687 hyX7_sum rfl rfl eu165 (okX7_sum er166) (Nat.le_of_ble_eq_true rfl) ⟨Nat.le_of_ble_eq_true rfl, Nat.le_of_ble_eq_true rfl⟩ ⟨(by show cb + 0 + 0 ≤ 600000; omega), (by show sb + 0 + 0 ≤ 7302250; omega)⟩ rfl ?_
        show G κ mL_law (cb + 0) (sb + 0) 905 [(0, .ref x0), (1, .ref x1), (2, .ref x2), (3, .int x3)] [.long r166.1] r166.2
        refine g_aload_n (pc' := 906) 2 O dL_law_905 rfl rfl rfl ?_
        refine g_aload_n (pc' := 907) 0 O dL_law_906 rfl rfl rfl ?_
        refine g_iload_n (pc' := 908) 3 O dL_law_907 rfl rfl rfl ?_
        refine g_iconst (v := 1) (pc' := 909) O dL_law_908 (by decide) rfl ?_
        refine g_iadd (pc' := 910) O dL_law_909 rfl ?_
        replace h := ob h; obtain ⟨v167, ev167, h⟩ := h
        refine g_kiald (pc' := 911) O dL_law_910 ev167 rfl ?_
        refine g_aload_n (pc' := 912) 0 O dL_law_911 rfl rfl rfl ?_
        refine g_iload_n (pc' := 913) 3 O dL_law_912 rfl rfl rfl ?_
        refine g_iconst (v := 2) (pc' := 914) O dL_law_913 (by decide) rfl ?_
        refine g_iadd (pc' := 915) O dL_law_914 rfl ?_
        replace h := ob h; obtain ⟨v168, ev168, h⟩ := h
        refine g_kiald (pc' := 916) O dL_law_915 ev168 rfl ?_
        replace h := ob h; obtain ⟨u169, eu169, h⟩ := h
        replace h := ob h; obtain ⟨r170, er170, h⟩ := h
        refine g_callV (y := yX8_sum) (ν := mX8_sum) (n := 2) (As := [.int v167, .int v168]) (b := x2) (st := [.long r166.1]) (M2 := r170.2) (r1 := (some (.long r170.1))) (pc' := 919) O dL_law_916 tw_1070 tw_58 tw_1068 tw_1069 tw_1067 hyX8_sum rfl rfl eu169 (okX8_sum er170) (Nat.le_of_ble_eq_true rfl) ⟨Nat.le_of_ble_eq_true rfl, Nat.le_of_ble_eq_true rfl⟩ ⟨(by show cb + 0 + 0 ≤ 600000; omega), (by show sb + 0 + 0 ≤ 7302250; omega)⟩ rfl ?_
        show G κ mL_law (cb + 0) (sb + 0) 919 [(0, .ref x0), (1, .ref x1), (2, .ref x2), (3, .int x3)] [.long r170.1, .long r166.1] r170.2
        refine g_lcmp (pc' := 920) O dL_law_919 rfl ?_
        refine g_if_eq (tgt := 994) (pc' := 923) O dL_law_920 (by decide) rfl (fun hc => ?_) (fun hc => ?_)
        · replace h := ip hc h
          refine g_widen (c2 := cb + 10) (s2 := sb + 2055) (by omega) (by omega) ?_
          exact tL_law_994 O hf hcb hsb (fun a1 a2 a3 a4 a5 hh => ih a1 a2 a3 a4 a5 (cb + 20) (sb + 4000) (by omega) (by omega) hh) h
        · replace h := ine hc h
          refine g_iconst (v := 0) (pc' := 924) O dL_law_923 (by decide) rfl ?_
          replace h := ob h; obtain ⟨z171, ez171, h⟩ := h
          obtain ⟨hz171, ez171b⟩ := nz_spec ez171
          rw [ez171b] at h
          cases h
          exact g_ireturn O dL_law_924 rfl (nz_nar hz171) hf (by show cb + 0 ≤ 600000; omega) (by show sb + 0 ≤ 7302250; omega)
      replace h := ine hs19 h
      by_cases hs20 : (v3 &&& (31 : Int32)) = (20 : Int32)
      · replace h := ip hs20 h
        refine g_tableIn (off := 892) (pc' := 925) O dL_law_33 (by rw [hs20]; decide) (by rw [hs20]; decide) (by rw [hs20]; decide) (by decide) ?_
        refine g_aload_n (pc' := 926) 1 O dL_law_925 rfl rfl rfl ?_
        refine g_aload_n (pc' := 927) 0 O dL_law_926 rfl rfl rfl ?_
        refine g_iload_n (pc' := 928) 3 O dL_law_927 rfl rfl rfl ?_
        refine g_iconst (v := 1) (pc' := 929) O dL_law_928 (by decide) rfl ?_
        refine g_iadd (pc' := 930) O dL_law_929 rfl ?_
        replace h := ob h; obtain ⟨v172, ev172, h⟩ := h
        refine g_kiald (pc' := 931) O dL_law_930 ev172 rfl ?_
        replace h := ob h; obtain ⟨u173, eu173, h⟩ := h
        replace h := ob h; obtain ⟨r174, er174, h⟩ := h
        refine g_callV (y := yX7_count) (ν := mX7_count) (n := 1) (As := [.int v172]) (b := x1) (st := []) (M2 := r174.2) (r1 := (some (.int r174.1))) (pc' := 934) O dL_law_931 tw_694 tw_53 tw_692 tw_693 tw_691 hyX7_count rfl rfl eu173 (okX7_count er174) (Nat.le_of_ble_eq_true rfl) ⟨Nat.le_of_ble_eq_true rfl, Nat.le_of_ble_eq_true rfl⟩ ⟨(by show cb + 0 + 0 ≤ 600000; omega), (by show sb + 0 + 0 ≤ 7302250; omega)⟩ rfl ?_
        show G κ mL_law (cb + 0) (sb + 0) 934 [(0, .ref x0), (1, .ref x1), (2, .ref x2), (3, .int x3)] [.int r174.1] r174.2
        refine g_aload_n (pc' := 935) 2 O dL_law_934 rfl rfl rfl ?_
        refine g_aload_n (pc' := 936) 0 O dL_law_935 rfl rfl rfl ?_
        refine g_iload_n (pc' := 937) 3 O dL_law_936 rfl rfl rfl ?_
        refine g_iconst (v := 1) (pc' := 938) O dL_law_937 (by decide) rfl ?_
        refine g_iadd (pc' := 939) O dL_law_938 rfl ?_
        replace h := ob h; obtain ⟨v175, ev175, h⟩ := h
        refine g_kiald (pc' := 940) O dL_law_939 ev175 rfl ?_
        replace h := ob h; obtain ⟨u176, eu176, h⟩ := h
        replace h := ob h; obtain ⟨r177, er177, h⟩ := h
        refine g_callV (y := yX8_count) (ν := mX8_count) (n := 1) (As := [.int v175]) (b := x2) (st := [.int r174.1]) (M2 := r177.2) (r1 := (some (.int r177.1))) (pc' := 943) O dL_law_940 tw_1074 tw_58 tw_1072 tw_1073 tw_1071 hyX8_count rfl rfl eu176 (okX8_count er177) (Nat.le_of_ble_eq_true rfl) ⟨Nat.le_of_ble_eq_true rfl, Nat.le_of_ble_eq_true rfl⟩ ⟨(by show cb + 0 + 0 ≤ 600000; omega), (by show sb + 0 + 0 ≤ 7302250; omega)⟩ rfl ?_
        show G κ mL_law (cb + 0) (sb + 0) 943 [(0, .ref x0), (1, .ref x1), (2, .ref x2), (3, .int x3)] [.int r177.1, .int r174.1] r177.2
        refine g_icmp_eq (tgt := 994) (pc' := 946) O dL_law_943 (by decide) rfl (fun hc => ?_) (fun hc => ?_)
        · replace h := ip hc h
          refine g_widen (c2 := cb + 10) (s2 := sb + 2055) (by omega) (by omega) ?_
          exact tL_law_994 O hf hcb hsb (fun a1 a2 a3 a4 a5 hh => ih a1 a2 a3 a4 a5 (cb + 20) (sb + 4000) (by omega) (by omega) hh) h
        · replace h := ine hc h
          refine g_iconst (v := 0) (pc' := 947) O dL_law_946 (by decide) rfl ?_
          replace h := ob h; obtain ⟨z178, ez178, h⟩ := h
          obtain ⟨hz178, ez178b⟩ := nz_spec ez178
          rw [ez178b] at h
          cases h
          exact g_ireturn O dL_law_947 rfl (nz_nar hz178) hf (by show cb + 0 ≤ 600000; omega) (by show sb + 0 ≤ 7302250; omega)
      replace h := ine hs20 h
      by_cases hs21 : (v3 &&& (31 : Int32)) = (21 : Int32)
      · replace h := ip hs21 h
        refine g_tableIn (off := 915) (pc' := 948) O dL_law_33 (by rw [hs21]; decide) (by rw [hs21]; decide) (by rw [hs21]; decide) (by decide) ?_
        refine g_aload_n (pc' := 949) 1 O dL_law_948 rfl rfl rfl ?_
        refine g_aload_n (pc' := 950) 0 O dL_law_949 rfl rfl rfl ?_
        refine g_iload_n (pc' := 951) 3 O dL_law_950 rfl rfl rfl ?_
        refine g_iconst (v := 1) (pc' := 952) O dL_law_951 (by decide) rfl ?_
        refine g_iadd (pc' := 953) O dL_law_952 rfl ?_
        replace h := ob h; obtain ⟨v179, ev179, h⟩ := h
        refine g_kiald (pc' := 954) O dL_law_953 ev179 rfl ?_
        replace h := ob h; obtain ⟨u180, eu180, h⟩ := h
        replace h := ob h; obtain ⟨r181, er181, h⟩ := h
        refine g_callV (y := yX7_image) (ν := mX7_image) (n := 1) (As := [.int v179]) (b := x1) (st := []) (M2 := r181.2) (r1 := (some (.int r181.1))) (pc' := 957) O dL_law_954 tw_698 tw_53 tw_696 tw_697 tw_695 hyX7_image rfl rfl eu180 (okX7_image er181) (Nat.le_of_ble_eq_true rfl) ⟨Nat.le_of_ble_eq_true rfl, Nat.le_of_ble_eq_true rfl⟩ ⟨(by show cb + 0 + 10 ≤ 600000; omega), (by show sb + 0 + 2055 ≤ 7302250; omega)⟩ rfl ?_
        show G κ mL_law (cb + 10) (sb + 2055) 957 [(0, .ref x0), (1, .ref x1), (2, .ref x2), (3, .int x3)] [.int r181.1] r181.2
        refine g_aload_n (pc' := 958) 2 O dL_law_957 rfl rfl rfl ?_
        refine g_aload_n (pc' := 959) 0 O dL_law_958 rfl rfl rfl ?_
        refine g_iload_n (pc' := 960) 3 O dL_law_959 rfl rfl rfl ?_
        refine g_iconst (v := 1) (pc' := 961) O dL_law_960 (by decide) rfl ?_
        refine g_iadd (pc' := 962) O dL_law_961 rfl ?_
        replace h := ob h; obtain ⟨v182, ev182, h⟩ := h
        refine g_kiald (pc' := 963) O dL_law_962 ev182 rfl ?_
        replace h := ob h; obtain ⟨u183, eu183, h⟩ := h
        replace h := ob h; obtain ⟨r184, er184, h⟩ := h
        refine g_callV (y := yX8_image) (ν := mX8_image) (n := 1) (As := [.int v182]) (b := x2) (st := [.int r181.1]) (M2 := r184.2) (r1 := (some (.int r184.1))) (pc' := 966) O dL_law_963 tw_1078 tw_58 tw_1076 tw_1077 tw_1075 hyX8_image rfl rfl eu183 (okX8_image er184) (Nat.le_of_ble_eq_true rfl) ⟨Nat.le_of_ble_eq_true rfl, Nat.le_of_ble_eq_true rfl⟩ ⟨(by show cb + 10 + 0 ≤ 600000; omega), (by show sb + 2055 + 0 ≤ 7302250; omega)⟩ rfl ?_
        show G κ mL_law (cb + 10) (sb + 2055) 966 [(0, .ref x0), (1, .ref x1), (2, .ref x2), (3, .int x3)] [.int r184.1, .int r181.1] r184.2
        refine g_icmp_eq (tgt := 994) (pc' := 969) O dL_law_966 (by decide) rfl (fun hc => ?_) (fun hc => ?_)
        · replace h := ip hc h
          exact tL_law_994 O hf hcb hsb (fun a1 a2 a3 a4 a5 hh => ih a1 a2 a3 a4 a5 (cb + 20) (sb + 4000) (by omega) (by omega) hh) h
        · replace h := ine hc h
          refine g_iconst (v := 0) (pc' := 970) O dL_law_969 (by decide) rfl ?_
          replace h := ob h; obtain ⟨z185, ez185, h⟩ := h
          obtain ⟨hz185, ez185b⟩ := nz_spec ez185
          rw [ez185b] at h
          cases h
          exact g_ireturn O dL_law_970 rfl (nz_nar hz185) hf (by show cb + 10 ≤ 600000; omega) (by show sb + 2055 ≤ 7302250; omega)
      replace h := ine hs21 h
      by_cases hs22 : (v3 &&& (31 : Int32)) = (22 : Int32)
      · replace h := ip hs22 h
        refine g_tableIn (off := 938) (pc' := 971) O dL_law_33 (by rw [hs22]; decide) (by rw [hs22]; decide) (by rw [hs22]; decide) (by decide) ?_
        refine g_aload_n (pc' := 972) 1 O dL_law_971 rfl rfl rfl ?_
        refine g_aload_n (pc' := 973) 0 O dL_law_972 rfl rfl rfl ?_
        refine g_iload_n (pc' := 974) 3 O dL_law_973 rfl rfl rfl ?_
        refine g_iconst (v := 1) (pc' := 975) O dL_law_974 (by decide) rfl ?_
        refine g_iadd (pc' := 976) O dL_law_975 rfl ?_
        replace h := ob h; obtain ⟨v186, ev186, h⟩ := h
        refine g_kiald (pc' := 977) O dL_law_976 ev186 rfl ?_
        replace h := ob h; obtain ⟨u187, eu187, h⟩ := h
        replace h := ob h; obtain ⟨r188, er188, h⟩ := h
        refine g_callV (y := yX7_again) (ν := mX7_again) (n := 1) (As := [.int v186]) (b := x1) (st := []) (M2 := r188.2) (r1 := (some (.int r188.1))) (pc' := 980) O dL_law_977 tw_707 tw_53 tw_705 tw_706 tw_704 hyX7_again rfl rfl eu187 (okX7_again er188) (Nat.le_of_ble_eq_true rfl) ⟨Nat.le_of_ble_eq_true rfl, Nat.le_of_ble_eq_true rfl⟩ ⟨(by show cb + 0 + 0 ≤ 600000; omega), (by show sb + 0 + 0 ≤ 7302250; omega)⟩ rfl ?_
        show G κ mL_law (cb + 0) (sb + 0) 980 [(0, .ref x0), (1, .ref x1), (2, .ref x2), (3, .int x3)] [.int r188.1] r188.2
        refine g_aload_n (pc' := 981) 2 O dL_law_980 rfl rfl rfl ?_
        refine g_aload_n (pc' := 982) 0 O dL_law_981 rfl rfl rfl ?_
        refine g_iload_n (pc' := 983) 3 O dL_law_982 rfl rfl rfl ?_
        refine g_iconst (v := 1) (pc' := 984) O dL_law_983 (by decide) rfl ?_
        refine g_iadd (pc' := 985) O dL_law_984 rfl ?_
        replace h := ob h; obtain ⟨v189, ev189, h⟩ := h
        refine g_kiald (pc' := 986) O dL_law_985 ev189 rfl ?_
        replace h := ob h; obtain ⟨u190, eu190, h⟩ := h
        replace h := ob h; obtain ⟨r191, er191, h⟩ := h
        refine g_callV (y := yX8_again) (ν := mX8_again) (n := 1) (As := [.int v189]) (b := x2) (st := [.int r188.1]) (M2 := r191.2) (r1 := (some (.int r191.1))) (pc' := 989) O dL_law_986 tw_1089 tw_58 tw_1087 tw_1088 tw_1086 hyX8_again rfl rfl eu190 (okX8_again er191) (Nat.le_of_ble_eq_true rfl) ⟨Nat.le_of_ble_eq_true rfl, Nat.le_of_ble_eq_true rfl⟩ ⟨(by show cb + 0 + 0 ≤ 600000; omega), (by show sb + 0 + 0 ≤ 7302250; omega)⟩ rfl ?_
        show G κ mL_law (cb + 0) (sb + 0) 989 [(0, .ref x0), (1, .ref x1), (2, .ref x2), (3, .int x3)] [.int r191.1, .int r188.1] r191.2
        refine g_icmp_eq (tgt := 994) (pc' := 992) O dL_law_989 (by decide) rfl (fun hc => ?_) (fun hc => ?_)
        · replace h := ip hc h
          refine g_widen (c2 := cb + 10) (s2 := sb + 2055) (by omega) (by omega) ?_
          exact tL_law_994 O hf hcb hsb (fun a1 a2 a3 a4 a5 hh => ih a1 a2 a3 a4 a5 (cb + 20) (sb + 4000) (by omega) (by omega) hh) h
        · replace h := ine hc h
          refine g_iconst (v := 0) (pc' := 993) O dL_law_992 (by decide) rfl ?_
          replace h := ob h; obtain ⟨z192, ez192, h⟩ := h
          obtain ⟨hz192, ez192b⟩ := nz_spec ez192
          rw [ez192b] at h
          cases h
          exact g_ireturn O dL_law_993 rfl (nz_nar hz192) hf (by show cb + 0 ≤ 600000; omega) (by show sb + 0 ≤ 7302250; omega)
      replace h := ine hs22 h
      refine g_tableOut (pc' := 994) O dL_law_33 (by have q0 := lv_neT hs0 (show (0 : Int32).toInt = 0 by decide); have q1 := lv_neT hs1 (show (1 : Int32).toInt = 1 by decide); have q2 := lv_neT hs2 (show (2 : Int32).toInt = 2 by decide); have q3 := lv_neT hs3 (show (3 : Int32).toInt = 3 by decide); have q4 := lv_neT hs4 (show (4 : Int32).toInt = 4 by decide); have q5 := lv_neT hs5 (show (5 : Int32).toInt = 5 by decide); have q6 := lv_neT hs6 (show (6 : Int32).toInt = 6 by decide); have q7 := lv_neT hs7 (show (7 : Int32).toInt = 7 by decide); have q8 := lv_neT hs8 (show (8 : Int32).toInt = 8 by decide); have q9 := lv_neT hs9 (show (9 : Int32).toInt = 9 by decide); have q10 := lv_neT hs10 (show (10 : Int32).toInt = 10 by decide); have q11 := lv_neT hs11 (show (11 : Int32).toInt = 11 by decide); have q12 := lv_neT hs12 (show (12 : Int32).toInt = 12 by decide); have q13 := lv_neT hs13 (show (13 : Int32).toInt = 13 by decide); have q14 := lv_neT hs14 (show (14 : Int32).toInt = 14 by decide); have q15 := lv_neT hs15 (show (15 : Int32).toInt = 15 by decide); have q16 := lv_neT hs16 (show (16 : Int32).toInt = 16 by decide); have q17 := lv_neT hs17 (show (17 : Int32).toInt = 17 by decide); have q18 := lv_neT hs18 (show (18 : Int32).toInt = 18 by decide); have q19 := lv_neT hs19 (show (19 : Int32).toInt = 19 by decide); have q20 := lv_neT hs20 (show (20 : Int32).toInt = 20 by decide); have q21 := lv_neT hs21 (show (21 : Int32).toInt = 21 by decide); have q22 := lv_neT hs22 (show (22 : Int32).toInt = 22 by decide); omega) (by decide) ?_
      refine g_widen (c2 := cb + 10) (s2 := sb + 2055) (by omega) (by omega) ?_
      exact tL_law_994 O hf hcb hsb (fun a1 a2 a3 a4 a5 hh => ih a1 a2 a3 a4 a5 (cb + 20) (sb + 4000) (by omega) (by omega) hh) h
def fL_law  (p0 : Nat) (M : Mem) : Option (Int32 × Mem) :=
  (fX7_init M.1 (nO M 4 [.null, .null, .null, .null])).bind fun r1 =>
  (fX8_init r1.1 (nO r1 5 [.int 0, .null, .null, .null, .null, .null, .null, .null, .null, .null, .null, .null, .null, .null, .null, .null, .null, .null, .null, .null, .int 0, .null, .null, .int 0, .long 0, .null, .int 0, .int 0, .null])).bind fun r2 =>
  fL_law_18 FL p0 M.1 r1.1 (0 : Int32) r2
set_option maxHeartbeats 4000000 in
set_option maxRecDepth 100000 in
theorem okL_law {κ : KT} {p : Int32 × Mem} (O : OkK κ mL_law) (hf : κ.2.2.2.2.2.2.2.2.2.2.2.2.2 = (some (.int p.1), p.2)) {p0 : Nat} {M : Mem} (h : fL_law p0 M = some p) : G κ mL_law 0 0 0 [(0, .ref p0)] [] M := by
  unfold fL_law at h
  refine g_newO (C := RX7) (T := TX7) (N := 4) (ci := 4) (fs := [.null, .null, .null, .null]) (pc' := 3) O dL_law_0 rfl inX7 tyX7 tyX7_ok (by decide) tw_68 tw_69 tw_53 (by decide) (by decide) rfl ?_
  show G κ mL_law 1 4 3 [(0, .ref p0)] [.ref M.1] (nO M 4 [.null, .null, .null, .null])
  refine g_dup (pc' := 4) O dL_law_3 rfl rfl ?_
  replace h := ob h; obtain ⟨r1, er1, h⟩ := h
  refine g_callI (y := yX7_init) (ν := mX7_init) (n := 0) (As := []) (b := M.1) (st := [.ref M.1]) (M2 := r1) (r1 := none) (pc' := 7) O dL_law_4 tw_72 tw_53 tw_71 tw_70 hyX7_init rfl rfl rfl (okX7_init er1) (Nat.le_of_ble_eq_true rfl) ⟨Nat.le_of_ble_eq_true rfl, Nat.le_of_ble_eq_true rfl⟩ ⟨Nat.le_of_ble_eq_true rfl, Nat.le_of_ble_eq_true rfl⟩ rfl ?_
  show G κ mL_law 18 2179 7 [(0, .ref p0)] [.ref M.1] r1
  refine g_astore_n (lv' := [(1, .ref M.1), (0, .ref p0)]) (pc' := 8) O dL_law_7 rfl (by decide) rfl rfl ?_
  refine g_newO (C := RX8) (T := TX8) (N := 29) (ci := 5) (fs := [.int 0, .null, .null, .null, .null, .null, .null, .null, .null, .null, .null, .null, .null, .null, .null, .null, .null, .null, .null, .null, .int 0, .null, .null, .int 0, .long 0, .null, .int 0, .int 0, .null]) (pc' := 11) O dL_law_8 rfl inX8 tyX8 tyX8_ok (by decide) tw_708 tw_709 tw_58 (by decide) (by decide) rfl ?_
  show G κ mL_law 19 2208 11 [(1, .ref M.1), (0, .ref p0)] [.ref r1.1] (nO r1 5 [.int 0, .null, .null, .null, .null, .null, .null, .null, .null, .null, .null, .null, .null, .null, .null, .null, .null, .null, .null, .null, .int 0, .null, .null, .int 0, .long 0, .null, .int 0, .int 0, .null])
  refine g_dup (pc' := 12) O dL_law_11 rfl rfl ?_
  replace h := ob h; obtain ⟨r2, er2, h⟩ := h
  refine g_callI (y := yX8_init) (ν := mX8_init) (n := 0) (As := []) (b := r1.1) (st := [.ref r1.1]) (M2 := r2) (r1 := none) (pc' := 15) O dL_law_12 tw_712 tw_58 tw_711 tw_710 hyX8_init rfl rfl rfl (okX8_init er2) (Nat.le_of_ble_eq_true rfl) ⟨Nat.le_of_ble_eq_true rfl, Nat.le_of_ble_eq_true rfl⟩ ⟨Nat.le_of_ble_eq_true rfl, Nat.le_of_ble_eq_true rfl⟩ rfl ?_
  show G κ mL_law 42 11131 15 [(1, .ref M.1), (0, .ref p0)] [.ref r1.1] r2
  refine g_astore_n (lv' := [(2, .ref r1.1), (1, .ref M.1), (0, .ref p0)]) (pc' := 16) O dL_law_15 rfl (by decide) rfl rfl ?_
  refine g_iconst (v := 0) (pc' := 17) O dL_law_16 (by decide) rfl ?_
  refine g_istore_n (lv' := [(3, .int (0 : Int32)), (2, .ref r1.1), (1, .ref M.1), (0, .ref p0)]) (pc' := 18) O dL_law_17 rfl (by decide) rfl rfl ?_
  refine g_sub (lv' := [(0, .ref p0), (1, .ref M.1), (2, .ref r1.1), (3, .int (0 : Int32))]) [3, 2, 1, 0] rfl ?_
  exact tL_law_18 O hf FL p0 M.1 r1.1 (0 : Int32) r2 42 11131 (by decide) (by decide) h
