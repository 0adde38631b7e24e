/-! ===== the calls, one by one: show, other ===== -/
theorem byt_n {v : Nat} (h : v < 256) : byt (nI v) := ⟨v, h, rfl⟩
theorem byt_dig (x : Nat) : byt (nI (48 + x % 10)) := ⟨48 + x % 10, by omega, rfl⟩
theorem byt_mark (mk : Int32) : ∀ c ∈ markL mk, byt c := by
  have h : ∀ i, byt (mbyte mk i) := by
    intro i
    obtain ⟨j, hj, e⟩ := pk_andE (((mk.toUInt32 >>> (((24 : Int32) - ((8 : Int32) * nI (i + 1))).toUInt32 &&& Int32.toUInt32 31)).toInt32)) (m := 255) 8 (by decide)
    exact ⟨j, hj, e⟩
  intro c hc
  simp only [markL, List.mem_cons, List.not_mem_nil, or_false] at hc
  rcases hc with rfl | rfl | rfl
  · exact h 0
  · exact h 1
  · exact h 2
theorem byt_g {v : L8} (h : L8Ok v) : byt v.2.1 ∧ byt v.1 ∧ byt v.2.2.2.2.2.2.2 := by
  refine ⟨?_, ?_, ?_⟩
  · rcases h.1.2.1 with e | e | e | e | e <;> rw [e]
    · exact byt_n (v := 44) (by decide)
    · exact byt_n (v := 46) (by decide)
    · exact byt_n (v := 32) (by decide)
    · exact byt_n (v := 39) (by decide)
    · exact byt_n (v := 0) (by decide)
  · rcases h.1.1 with e | e <;> rw [e]
    · exact byt_n (v := 44) (by decide)
    · exact byt_n (v := 46) (by decide)
  · rcases h.2.2.2.2.2.2 with e | e | e <;> rw [e]
    · exact byt_n (v := 47) (by decide)
    · exact byt_n (v := 46) (by decide)
    · exact byt_n (v := 45) (by decide)
theorem byt_dgL (x k : Nat) : ∀ c ∈ dgL x k, byt c := by
  induction k with
  | zero => intro c hc; cases hc
  | succ k ih =>
    intro c hc
    rcases List.mem_cons.mp hc with rfl | hc
    · exact byt_dig _
    · exact ih c hc
theorem byt_ptD (y mo d p : Nat) : ∀ c ∈ ptD y mo d p, byt c := by
  unfold ptD
  split
  · exact byt_dgL _ _
  · split <;> exact byt_dgL _ _
theorem wr_byt {v : L8} {kd n : Int32} {value : Int64} {L : List Int32} (hv : L8Ok v) (h : WR v kd value n L) : ∀ c ∈ L, byt c := by
  obtain ⟨g1, g2, g3⟩ := byt_g hv
  rcases h with ⟨-, x, y, mo, -, -, -, -, rfl⟩ | ⟨-, V, k, D, neg, -, -, -, -, -, -, -, rfl⟩
  · intro c hc
    unfold dayL at hc
    simp only [List.mem_append, List.mem_cons] at hc
    rcases hc with hc | rfl | hc | rfl | hc
    · exact byt_ptD _ _ _ _ c hc
    · exact g3
    · exact byt_ptD _ _ _ _ c hc
    · exact g3
    · exact byt_ptD _ _ _ _ c hc
  · have dl : ∀ (w i : Nat), ∀ c ∈ digL v w i, byt c := by
      intro w i
      induction i with
      | zero => intro c hc; cases hc
      | succ i ih =>
        intro c hc
        simp only [digL, List.mem_cons, List.mem_append] at hc
        rcases hc with rfl | hc | hc
        · exact byt_dig _
        · split at hc
          · simp only [List.mem_singleton] at hc; rw [hc]; exact g1
          · cases hc
        · exact ih c hc
    have fl : ∀ (x n k : Nat), ∀ c ∈ frL x n k, byt c := by
      intro x n k
      induction k with
      | zero => intro c hc; cases hc
      | succ k ih =>
        intro c hc
        rcases List.mem_cons.mp hc with rfl | hc
        · exact byt_dig _
        · exact ih c hc
    have b45 : byt 45 := byt_n (v := 45) (by decide)
    have b40 : byt 40 := byt_n (v := 40) (by decide)
    have b41 : byt 41 := byt_n (v := 41) (by decide)
    have b32 : byt 32 := byt_n (v := 32) (by decide)
    intro c hc
    unfold amtL at hc
    rcases List.mem_append.mp hc with hc | hc
    · split at hc
      · simp only [List.mem_singleton] at hc
        rw [hc]
        split
        · exact b45
        · exact b40
      · cases hc
    · rcases List.mem_append.mp hc with hc | hc
      · split at hc
        · exact byt_mark _ c hc
        · cases hc
      · rcases List.mem_append.mp hc with hc | hc
        · rcases List.mem_append.mp hc with hc | hc
          · exact dl _ _ c hc
          · unfold ptL at hc
            split at hc
            · cases hc
            · rcases List.mem_cons.mp hc with rfl | hc
              · exact g2
              · exact fl _ _ _ c hc
        · rcases List.mem_append.mp hc with hc | hc
          · split at hc
            · rcases List.mem_cons.mp hc with rfl | hc
              · exact b32
              · exact byt_mark _ c hc
            · cases hc
          · split at hc
            · simp only [List.mem_singleton] at hc
              rw [hc]
              split
              · exact b45
              · exact b41
            · cases hc
theorem lf_mem {L : List Int32} {k : Nat} (hk : k < L.length) : lf L k ∈ L := by
  unfold lf
  rw [List.getD_eq_getElem?_getD, List.getElem?_eq_getElem hk]
  exact List.getElem_mem hk
theorem p_makeNo {m : Nat} {A : Nat → Nat → Int32} {B : Nat → Nat → Int64} {N M : Mem} {nl : Nat} (hnl : nl ≤ 6) (h1 : A 1 0 = nI nl) {x : Int32} (hx : ¬ ∃ l, l < nl ∧ x = nI l) (kd n : Int32) (value : Int64) (R : RM m A B N M) : ∃ M', fX8_make m x kd value n M = some (0, M') ∧ RM m A B N M' := by
  obtain ⟨M1, e1, K1⟩ := mk_start R
  refine ⟨M1, ?_, K1.rm⟩
  unfold fX8_make fX8_make_55 fX8_make_56
  rw [e1, Option.bind_some, mk_ck K1, Option.bind_some, rm_isLand hnl h1 _ K1.rm, Option.bind_some]
  dsimp only
  rw [if_neg (fun q => hx ((isL_iff hnl x).mp q)), if_pos rfl, nz0]
  rfl
/-- the reference reads what it made by another land -/
theorem p_otherText {m : Nat} {A : Nat → Nat → Int32} {B : Nat → Nat → Int64} {N M : Mem} {L : List Int32} (hlen : L.length ≤ 160) {l : Nat} (hl : l < 24) (kd : Int32) (h : MK m A B N L M) : ∃ M7 M', pF M 5 m 20 (.int (nI L.length)) = some M7 ∧ gI M 5 m 26 = some (nI L.length) ∧ fX8_other_41 FU m (nI l) kd 0 M7 = some (if (hld A l kd (lf L) L.length).1 = 2 then (hld A l kd (lf L) L.length).2.getD 0 else LEAST, M') ∧ RM m A B N M' := by
  obtain ⟨I, A0, fd, rfl, hC, h26, h22⟩ := h
  refine ⟨mm m (upI I 20 (nI L.length)) A0 B fd N, ?_⟩
  have h26' : upI I 20 (nI L.length) 26 = nI L.length := h26
  generalize hI : upI I 20 (nI L.length) = I2 at h26'
  have h20 : I2 20 = nI L.length := by rw [← hI]; simp [upI]
  have loop : ∀ (d k f : Nat), k + d = L.length → d < f → ∃ M', fX8_other_41 f m (nI l) kd (nI k) (mm m I2 (upA A0 19 (ovf (A0 19) (A0 22) k)) B fd N) = some (if (hld A l kd (lf L) L.length).1 = 2 then (hld A l kd (lf L) L.length).2.getD 0 else LEAST, M') ∧ RM m A B N M' := by
    intro d
    induction d with
    | zero =>
      intro k f hk hf
      obtain ⟨f, rfl⟩ : ∃ g, f = g + 1 := ⟨f - 1, by omega⟩
      have hRT : RT m A B N (lf L) L.length (mm m I2 (upA A0 19 (ovf (A0 19) (A0 22) k)) B fd N) := by
        refine ⟨_, _, _, rfl, fun j hj => ?_, fun j hj => ?_, h20⟩
        · unfold upA
          rw [if_neg (by omega)]
          exact hC j hj
        · show (if j < k then A0 22 j else A0 19 j) = _
          rw [if_pos (by omega)]
          exact h22 j hj
      obtain ⟨M', q1, q2, q3⟩ := rt_held hl (by omega) (Nat.le_refl _) kd hRT
      refine ⟨M', ?_, q2.rm⟩
      rw [fX8_other_41, mm_gI26, Option.bind_some, h26', if_pos (nI_le (by omega) (by omega)), mm_gI20, Option.bind_some, h20, mm_ck, Option.bind_some, q1, Option.bind_some]
      dsimp only
      unfold fX8_other_94
      by_cases h2 : (hld A l kd (lf L) L.length).1 = 2
      · rw [if_pos h2, if_pos h2]
        have hs := hld_2 (A := A) l kd (lf L) L.length h2
        cases hv : (hld A l kd (lf L) L.length).2 with
        | none => rw [hv] at hs; cases hs
        | some y =>
          rw [q3 y hv, Option.bind_some]
          rfl
      · rw [if_neg h2, if_neg h2]
    | succ d ih =>
      intro k f hk hf
      obtain ⟨f, rfl⟩ : ∃ g, f = g + 1 := ⟨f - 1, by omega⟩
      have a22 : aI (mm m I2 (upA A0 19 (ovf (A0 19) (A0 22) k)) B fd N) (m + 22) (nI k) = some (A0 22 k) := by
        rw [mm_aI22, if_pos (inr_nI (by omega) (by decide)), nI_clamp (by omega)]
        rfl
      have s19 : sI (mm m I2 (upA A0 19 (ovf (A0 19) (A0 22) k)) B fd N) (m + 19) (nI k) (A0 22 k) = some (mm m I2 (upA A0 19 (ovf (A0 19) (A0 22) (k + 1))) B fd N) := by
        rw [mm_sI19, if_pos (inr_nI (by omega) (by decide)), nI_clamp (by omega), upA_upA, upA_at]
        congr 3
        funext i
        unfold ovf
        by_cases he : i = k
        · rw [he, pk_us, if_pos (by omega)]
        · rw [pk_un he]
          by_cases hi : i < k
          · rw [if_pos hi, if_pos (by omega)]
          · rw [if_neg hi, if_neg (by omega)]
      obtain ⟨M', r1, r2⟩ := ih (k + 1) f (by omega) (by omega)
      refine ⟨M', ?_, r2⟩
      rw [fX8_other_41, mm_gI26, Option.bind_some, h26', if_neg (nI_ge (by omega) (by omega)), mm_gN19, Option.bind_some, mm_gN25, Option.bind_some, a22, Option.bind_some, s19, Option.bind_some, nI_1, r1]
  obtain ⟨M', q1, q2⟩ := loop L.length 0 FU (by omega) (by unfold FU; omega)
  rw [show ovf (A0 19) (A0 22) 0 = A0 19 by funext i; unfold ovf; rw [if_neg (by omega)], upA_same] at q1
  refine ⟨M', ?_, ?_, q1, q2⟩
  · rw [mm_pI20, hI]
  · rw [mm_gI26, h26]
section CSHOW
variable {z : Nat} {kc : KC} {σ : Sg} {im : Nat → Option (Nat × Sg)} {M : Mem}
theorem sl_lnd {A : Nat → Nat → Int32} {B : Nat → Nat → Int64} (h : Sl A B 0 σ) {l : Nat} (hl : l < nlS σ) : lnd A l = ldS σ l := by
  have := h.2.1 l hl
  simp only [Nat.mul_zero, Nat.zero_add] at this
  exact this
theorem step_show (h : INV z kc σ im M) (hK : LenOk M) (x kd n : Int32) (value : Int64) : Step z kc (fX7_show z x kd value n) (fX8_show (z + 18) x kd value n) M := by
  have hc := h.2.1
  have hok := co_ok hc
  have hsh := co_sh hc
  have hm := hc.1
  have cgo : ∀ (o : Option Nat) (r : Int32) (M1 : Mem), fX3_landAt (z + 1) x M = some (o, M) → fX7_writeValue (z + 1 + 3) o kd value n M = some (r, M1) → fX7_show z x kd value n M = some (r, M1) := by
    intro o r M1 e1 e2
    unfold fX7_show
    rw [co_g0 hc, Option.bind_some, cs_g1 hsh, Option.bind_some, Option.bind_some, cs_ck hsh, Option.bind_some, e1, Option.bind_some]
    dsimp only
    rw [e2, Option.bind_some]
  have rgo : ∀ {A B} {M1 M2 : Mem} {r : Int32}, RM (z + 18) A B M1 M1 → (∀ MM, RM (z + 18) A B M1 MM → ∃ M3, fX8_make (z + 18) x kd value n MM = some (0, M3) ∧ RM (z + 18) A B M1 M3) → ∃ M3, fX8_show (z + 18) x kd value n M1 = some (-1, M3) ∧ RM (z + 18) A B M1 M3 := by
    intro A B M1 M2 r hR hmk
    obtain ⟨M2, e1, R1⟩ := rm_code hR 0
    obtain ⟨M3, e2, R2⟩ := hmk M2 R1
    refine ⟨M3, ?_, R2⟩
    unfold fX8_show fX8_show_25
    rw [e1, Option.bind_some, rm_ck R1, Option.bind_some, e2, Option.bind_some]
    rfl
  rcases cs_landAt hsh hok.1 x with ⟨l, b, l1, l2, l3, l4, l5, l6⟩ | ⟨l1, l3⟩
  · have hLA : LA (z + 1 + 3) b (ldS σ l) M := ⟨l4, l6, by omega, by omega⟩
    rcases c_write hK hLA (hok.2.1 l l1) hsh.2.2.1 kd n value with ⟨L, M1, w1, w2, w3⟩ | ⟨w1, w2⟩
    · have hby := wr_byt (hok.2.1 l l1) w1
      have hc' := co_shown hc w3.1 (w3.2.wide (by omega) (by omega)) (fun k hk => hby _ (lf_mem hk))
      have hlen := w3.1.1
      refine step_of h (cgo (some b) _ M1 l3 w2) (Cl.of w3.2 hc.1 (by omega)) hc' (fun A B hR hO => ?_)
      have hv : L8Ok (lnd A l) := by rw [sl_lnd hO.1 l1]; exact hok.2.1 l l1
      obtain ⟨M2, e1, R1⟩ := rm_code hR 0
      obtain ⟨M3, e2, K2⟩ := (p_make hok.1 hO.1.1 l1 hv kd n value M2 R1).1 L (by rw [sl_lnd hO.1 l1]; exact w1)
      obtain ⟨M4, A', k1, k2, k3, k4, k5, k6, k7⟩ := p_keep (by omega) K2
      refine ⟨A', B, M4, ?_, k2, ro_shown hO k3 k4 k5 k6 k7⟩
      unfold fX8_show fX8_show_25
      rw [e1, Option.bind_some, rm_ck R1, Option.bind_some, l2, e2, Option.bind_some]
      dsimp only
      rw [if_neg (by decide), mk_ck K2, Option.bind_some, k1, Option.bind_some]
    · refine step_of h (cgo (some b) _ M l3 w2) (Cl.of (Chg.rf 0 0 M) hc.1 (by omega)) hc (fun A B hR hO => ?_)
      have hv : L8Ok (lnd A l) := by rw [sl_lnd hO.1 l1]; exact hok.2.1 l l1
      obtain ⟨M3, q1, q2⟩ := rgo (M2 := M) (r := 0) hR (fun MM RR => by
        rw [l2]
        exact (p_make hok.1 hO.1.1 l1 hv kd n value MM RR).2 (by rw [sl_lnd hO.1 l1]; exact w1))
      exact ⟨A, B, M3, q1, q2, hO⟩
  · refine step_of h (cgo none (-1) M l3 rfl) (Cl.of (Chg.rf 0 0 M) hc.1 (by omega)) hc (fun A B hR hO => ?_)
    obtain ⟨M3, q1, q2⟩ := rgo (M2 := M) (r := 0) hR (fun MM RR => p_makeNo hok.1 hO.1.1 l1 kd n value RR)
    exact ⟨A, B, M3, q1, q2, hO⟩
theorem step_other (h : INV z kc σ im M) (hK : LenOk M) (a b kd n : Int32) (value : Int64) : Step z kc (fX7_other z a b kd value n) (fX8_other (z + 18) a b kd value n) M := by
  have hc := h.2.1
  have hok := co_ok hc
  have hsh := co_sh hc
  have hm := hc.1
  have hn6 := hok.1
  obtain ⟨nd, Ld, hdr⟩ := hc.2.2.2.2.2.2.2.1
  -- the class, as far as the text
  have start : ∀ (ob oa : Option Nat) (r : Int32) (M1 : Mem), fX3_landAt (z + 1) b M = some (ob, M) → fX3_landAt (z + 1) a M = some (oa, M) → fX7_writeValue (z + 16) oa kd value n M = some (r, M1) → fX7_other z a b kd value n M = Option.elim ob (fX7_other_43 M1) (fun a9 => if r = (-1 : Int32) then (fX7_other_43 M1) else ((gN M1 4 z 2).bind fun v10 => (gN M1 4 z 3).bind fun v11 => (gN M1 3 v11 0).bind fun v12 => (ck M1 1 v10).bind fun u13 => (fX2_read v10 v12 (0 : Int32) r a9 kd M1).bind fun r14 => if r14.1 = 0 then ((gN r14.2 4 z 2).bind fun v15 => (gL r14.2 1 v15 5).bind fun v16 => fX7_other_87 v16 r14.2) else (fX7_other_87 (-9223372036854775808 : Int64) r14.2))) := by
    intro ob oa r M1 e1 e2 e3
    unfold fX7_other
    rw [co_g0 hc, Option.bind_some, cs_ck hsh, Option.bind_some, e1, Option.bind_some]
    dsimp only
    rw [co_g3 hc, Option.bind_some, co_g0 hc, Option.bind_some, cs_ck hsh, Option.bind_some, e2, Option.bind_some]
    dsimp only
    rw [e3, Option.bind_some]
  -- the reference refuses
  have refuse : ∀ {A B} {M1 : Mem}, RM (z + 18) A B M1 M1 → A 1 0 = nI (nlS σ) → ((¬ ∃ l, l < nlS σ ∧ b = nI l) ∨ (∀ MM, RM (z + 18) A B M1 MM → ∃ M3, fX8_make (z + 18) a kd value n MM = some (0, M3) ∧ RM (z + 18) A B M1 M3)) → ∃ M3, fX8_other (z + 18) a b kd value n M1 = some (LEAST, M3) ∧ RM (z + 18) A B M1 M3 := by
    intro A B M1 hR hA1 hcase
    obtain ⟨M2, e1, R1⟩ := rm_code hR 0
    unfold fX8_other fX8_other_26
    rw [e1, Option.bind_some, rm_ck R1, Option.bind_some, rm_isLand hn6 hA1 _ R1, Option.bind_some]
    dsimp only
    by_cases hb : ¬ b < 0 ∧ ¬ nI (nlS σ) - 1 < b
    · rw [if_pos hb, if_neg (by decide), rm_ck R1, Option.bind_some]
      obtain ⟨M3, q1, q2⟩ := (hcase.resolve_left (fun q => q ((isL_iff hn6 b).mp hb))) M2 R1
      refine ⟨M3, ?_, q2⟩
      rw [q1, Option.bind_some]
      rfl
    · rw [if_neg hb, if_pos rfl]
      exact ⟨M2, rfl, R1⟩
  rcases cs_landAt hsh hok.1 a with ⟨la, ba, a1, a2, a3, a4, a5, a6⟩ | ⟨a1, a3⟩
  · have hLA : LA (z + 16) ba (ldS σ la) M := ⟨a4, a6, by omega, by omega⟩
    rcases c_write hK hLA (hok.2.1 la a1) hdr kd n value with ⟨L, M1, w1, w2, w3⟩ | ⟨w1, w2⟩
    · have hby := wr_byt (hok.2.1 la a1) w1
      have hc1 := co_draft hc w3.1 w3.2
      have hlen := w3.1.1
      have hK1 : LenOk M1 := lenOk_of hK w3.2.2.1
      rcases cs_landAt hsh hok.1 b with ⟨lb, bb, b1, b2, b3, b4, b5, b6⟩ | ⟨b1, b3⟩
      · have hkd : kd = 0 ∨ kd = 1 ∨ kd = 2 := by
          rcases w1 with ⟨q, -⟩ | ⟨q, -⟩
          · exact Or.inr (Or.inr q)
          · exact q.elim Or.inl (fun q => Or.inr (Or.inl q))
        obtain ⟨t0, t1, ft, t2, t3⟩ := w3.1
        have hL1 : M1.2.1 bb = some (lcell (ldS σ lb)) := (w3.2.2.2 bb b6 (by omega)).trans b4
        obtain ⟨st, M2, fo, q1, q2, q3, q4, q5⟩ := co_read hc1 hK1 (a := z + 16 + 1) (o := 0) (e := L.length) hkd t2 (by omega) (by decide) (by omega) _ (hok.2.1 lb b1) hL1 b5 (fun k hk => by rw [Nat.zero_add, t3 k hk]; exact byt_nn (hby _ (lf_mem hk)))
        have q2' : Found (hlv (ldS σ lb) kd (lf L) L.length) st fo := by
          rw [← hlv_congr (T := fun k => ft (0 + k)) (fun k hk => by show ft (0 + k) = _; rw [Nat.zero_add]; exact t3 k hk)]
          exact q2
        have q1' : fX2_read (z + 12) (z + 16 + 1) 0 (nI L.length) bb kd M1 = some (st, M2) := by rw [Nat.zero_add] at q1; exact q1
        have c : fX7_other z a b kd value n M = some (if (hlv (ldS σ lb) kd (lf L) L.length).1 = 2 then (hlv (ldS σ lb) kd (lf L) L.length).2.getD 0 else LEAST, M2) := by
          rw [start (some bb) (some ba) _ M1 b3 a3 w2]
          simp only [Option.elim]
          rw [if_neg (fun q => by
            have hp := nI_pos (n := L.length) (by omega)
            rw [q] at hp
            exact hp (by decide)), co_g2 hc1, Option.bind_some, co_g3 hc1, Option.bind_some, tx_b w3.1, Option.bind_some, rds_ck hc1.2.2.2.2.2.2.1, Option.bind_some, q1', Option.bind_some]
          dsimp only
          unfold fX7_other_87
          rcases q2' with ⟨e1, e2⟩ | ⟨e1, e2⟩ | ⟨e1, e2⟩
          · rw [if_pos e1, co_g2 q5, Option.bind_some, q3, Option.bind_some, e2]
            rfl
          · rw [if_neg (by rw [e1]; decide), e2]
            rfl
          · rw [if_neg (by rw [e1]; decide), e2]
            rfl
        have g : Cl z M M2 := (Cl.of w3.2 hc.1 (by omega)).trans (Cl.of q4 hc1.1 (by omega))
        refine step_of h c g q5 (fun A B hR hO => ?_)
        have hv : L8Ok (lnd A la) := by rw [sl_lnd hO.1 a1]; exact hok.2.1 la a1
        obtain ⟨M3, e1, R1⟩ := rm_code hR 0
        obtain ⟨M4, e2, K2⟩ := (p_make hok.1 hO.1.1 a1 hv kd n value M3 R1).1 L (by rw [sl_lnd hO.1 a1]; exact w1)
        obtain ⟨M5, M6, u1, u2, u3, u4⟩ := p_otherText (l := lb) (by omega) (by omega) kd K2
        refine ⟨A, B, M6, ?_, u4, hO⟩
        have ev : hld A lb kd (lf L) L.length = hlv (ldS σ lb) kd (lf L) L.length := by
          rw [hld_v]
          have := sl_lnd hO.1 b1
          unfold lnd at this
          rw [this]
        rw [ev] at u3
        unfold fX8_other
        rw [e1, Option.bind_some, rm_ck R1, Option.bind_some, rm_isLand hn6 hO.1.1 _ R1, Option.bind_some]
        dsimp only
        rw [if_pos ((isL_iff hn6 b).mpr ⟨lb, b1, b2⟩), if_neg (by decide), rm_ck R1, Option.bind_some, a2, e2, Option.bind_some]
        dsimp only
        rw [if_neg (by decide), u2, Option.bind_some, u1, Option.bind_some, b2]
        exact u3
      · have c : fX7_other z a b kd value n M = some (LEAST, M1) := by
          rw [start none (some ba) _ M1 b3 a3 w2]
          rfl
        refine step_of h c (Cl.of w3.2 hc.1 (by omega)) hc1 (fun A B hR hO => ?_)
        obtain ⟨M3, q1, q2⟩ := refuse hR hO.1.1 (Or.inl b1)
        exact ⟨A, B, M3, q1, q2, hO⟩
    · have c : fX7_other z a b kd value n M = some (LEAST, M) := by
        rcases cs_landAt hsh hok.1 b with ⟨lb, bb, b1, b2, b3, b4, b5, b6⟩ | ⟨b1, b3⟩
        · rw [start (some bb) (some ba) _ M b3 a3 w2]
          rfl
        · rw [start none (some ba) _ M b3 a3 w2]
          rfl
      refine step_of h c (Cl.of (Chg.rf 0 0 M) hc.1 (by omega)) hc (fun A B hR hO => ?_)
      have hv : L8Ok (lnd A la) := by rw [sl_lnd hO.1 a1]; exact hok.2.1 la a1
      obtain ⟨M3, q1, q2⟩ := refuse hR hO.1.1 (Or.inr (fun MM RR => by
        rw [a2]
        exact (p_make hok.1 hO.1.1 a1 hv kd n value MM RR).2 (by rw [sl_lnd hO.1 a1]; exact w1)))
      exact ⟨A, B, M3, q1, q2, hO⟩
  · have c : fX7_other z a b kd value n M = some (LEAST, M) := by
      rcases cs_landAt hsh hok.1 b with ⟨lb, bb, b1, b2, b3, b4, b5, b6⟩ | ⟨b1, b3⟩
      · rw [start (some bb) none (-1) M b3 a3 rfl]
        rfl
      · rw [start none none (-1) M b3 a3 rfl]
        rfl
    refine step_of h c (Cl.of (Chg.rf 0 0 M) hc.1 (by omega)) hc (fun A B hR hO => ?_)
    obtain ⟨M3, q1, q2⟩ := refuse hR hO.1.1 (Or.inr (fun MM RR => p_makeNo hok.1 hO.1.1 a1 kd n value RR))
    exact ⟨A, B, M3, q1, q2, hO⟩
end CSHOW
