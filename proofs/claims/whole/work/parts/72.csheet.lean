/-! ===== the class: its sheet, reading its line and its rows ===== -/
theorem hlv_congr {v : L8} {kd : Int32} {T T' : Nat → Int32} {n : Nat} (h : agree T T' n) : hlv v kd T n = hlv v kd T' n := by
  have := hld_congr (A := fun j _ => if j = 2 then v.1 else if j = 3 then v.2.1 else if j = 4 then v.2.2.1 else if j = 5 then v.2.2.2.1 else if j = 6 then v.2.2.2.2.1 else if j = 7 then v.2.2.2.2.2.1 else if j = 8 then v.2.2.2.2.2.2.1 else v.2.2.2.2.2.2.2) h 0 kd
  exact this
section CSHEET
variable {hb s : Nat} {σ : Sg} {M : Mem}
theorem cs_ck (h : CSh hb s σ M) : ck M 2 s = some () := by simp [ck, h.1, shc]
theorem cs_g0 (h : CSh hb s σ M) : gN M 2 s 0 = some (s + 1) := by simp [gN, gF, h.1, shc, vN]
theorem cs_g1 (h : CSh hb s σ M) : gN M 2 s 1 = some (s + 3) := by simp [gN, gF, h.1, shc, vN]
theorem cs_g2 (h : CSh hb s σ M) : gN M 2 s 2 = some (s + 5) := by simp [gN, gF, h.1, shc, vN]
theorem cs_g3 (h : CSh hb s σ M) : gI M 2 s 3 = some (nI (nlS σ)) := by simp [gI, gF, h.1, shc, vI]
theorem cs_g4 (h : CSh hb s σ M) : gN M 2 s 4 = some (s + 6) := by simp [gN, gF, h.1, shc, vN]
theorem cs_g5 (h : CSh hb s σ M) : gN M 2 s 5 = some (s + 7) := by simp [gN, gF, h.1, shc, vN]
theorem cs_g6 (h : CSh hb s σ M) : gI M 2 s 6 = some (nI (nrS σ)) := by simp [gI, gF, h.1, shc, vI]
theorem cs_g7 (h : CSh hb s σ M) : gN M 2 s 7 = some (s + 8) := by simp [gN, gF, h.1, shc, vN]
theorem cs_g8 (h : CSh hb s σ M) : gN M 2 s 8 = some (s + 9) := by simp [gN, gF, h.1, shc, vN]
theorem cs_landAt (h : CSh hb s σ M) (hn : nlS σ ≤ 6) (x : Int32) : (∃ l b, l < nlS σ ∧ x = nI l ∧ fX3_landAt s x M = some (some b, M) ∧ M.2.1 b = some (lcell (ldS σ l)) ∧ hb ≤ b ∧ b < M.1) ∨ (¬ (∃ l, l < nlS σ ∧ x = nI l) ∧ fX3_landAt s x M = some (none, M)) := by
  unfold fX3_landAt fX3_landAt_30 fX3_landAt_31
  by_cases hx : x < 0
  · rw [if_pos hx]
    refine Or.inr ⟨?_, rfl⟩
    rintro ⟨k, hk, rfl⟩
    exact absurd hx (nI_pos (by omega))
  · obtain ⟨k, hk, rfl⟩ := nI_of hx
    rw [if_neg hx, cs_g3 h, Option.bind_some]
    by_cases hk2 : k < nlS σ
    · obtain ⟨f, h1, h2, h3⟩ := h.2.2.2.1
      obtain ⟨b, q1, q2⟩ := h2 k hk2
      obtain ⟨r1, r2, -⟩ := h3 k (by omega) b q1
      have e1 : aN M (s + 5) = some (nI 6) := by unfold aN; rw [h1]; rfl
      have e2 : aQ M (s + 5) (nI k) = some (some b) := by
        unfold aQ
        rw [h1]
        dsimp only
        rw [if_pos (inr_nI (by omega) (by decide)), nI_clamp (by omega), q1]
      rw [if_neg (nI_ge hk2 (by omega)), cs_g2 h, Option.bind_some, e1, Option.bind_some, if_neg (nI_ge (show k < 6 by omega) (by decide)), Option.bind_some, e2, Option.bind_some]
      exact Or.inl ⟨k, b, hk2, rfl, rfl, q2, r1, r2⟩
    · rw [if_pos (nI_le (by omega) hk)]
      refine Or.inr ⟨?_, rfl⟩
      rintro ⟨j, hj, he⟩
      have := (nI_eq hk (by omega)).mp he
      omega
theorem e_isKind (x : Int32) (M : Mem) : fX7_isKind x M = some (if ¬ x < 0 ∧ ¬ 2 < x then 1 else 0, M) := by
  unfold fX7_isKind fX7_isKind_13 fX7_isKind_14
  rw [nz0, nz1]
  by_cases h1 : x < 0
  · simp [h1]
  · obtain ⟨k, hk, rfl⟩ := nI_of h1
    rw [if_neg h1]
    by_cases h2 : k < 3
    · rw [if_neg (li_nge 3 k 3 rfl h2 (by decide)), if_pos ⟨h1, li_ngt 2 k 2 rfl (by omega) (by decide)⟩]
      rfl
    · rw [if_pos (li_ge 3 k 3 rfl (by omega) hk), if_neg (fun q => q.2 (li_gt 2 k 2 rfl (by omega) hk))]
      rfl
theorem kind3 {x : Int32} (h : ¬ x < 0 ∧ ¬ 2 < x) : (x = 0 ∨ x = 1 ∨ x = 2) ∧ ∃ k, k < 3 ∧ x = nI k := by
  obtain ⟨k, hk, rfl⟩ := nI_of h.1
  have : k < 3 := by
    rcases Nat.lt_or_ge k 3 with q | q
    · exact q
    · exact absurd (li_gt 2 k 2 rfl (by omega) hk) h.2
  refine ⟨?_, k, this, rfl⟩
  rcases (show k = 0 ∨ k = 1 ∨ k = 2 by omega) with rfl | rfl | rfl
  · exact Or.inl rfl
  · exact Or.inr (Or.inl rfl)
  · exact Or.inr (Or.inr rfl)
theorem cs_within (h : CSh hb s σ M) {k : Nat} (hk : k < 3) (y : Int64) : fX3_isWithin s (nI k) y M = some (bI (decide (¬ y < loS σ k ∧ ¬ hiS σ k < y)), M) := by
  obtain ⟨f7, e7, l7⟩ := h.2.2.2.2.2.2.1
  obtain ⟨f8, e8, l8⟩ := h.2.2.2.2.2.2.2
  have a7 : aL M (s + 8) (nI k) = some (loS σ k) := by
    unfold aL
    rw [e7]
    dsimp only
    rw [if_pos (inr_nI hk (by decide)), nI_clamp (by omega), l7 k hk]
  have a8 : aL M (s + 9) (nI k) = some (hiS σ k) := by
    unfold aL
    rw [e8]
    dsimp only
    rw [if_pos (inr_nI hk (by decide)), nI_clamp (by omega), l8 k hk]
  unfold fX3_isWithin fX3_isWithin_33 fX3_isWithin_34
  rw [e_isKind, Option.bind_some]
  dsimp only
  rw [if_pos (show ¬ nI k < 0 ∧ ¬ 2 < nI k from ⟨nI_pos (by omega), li_ngt 2 k 2 rfl (by omega) (by decide)⟩), if_neg (by decide), cs_g7 h, Option.bind_some, a7, Option.bind_some, nz0, nz1]
  by_cases h1 : y < loS σ k
  · rw [if_pos ((cmp_lt _ _).mpr h1)]
    simp [h1, bI]
  · rw [if_neg (fun q => h1 ((cmp_lt _ _).mp q)), cs_g8 h, Option.bind_some, a8, Option.bind_some]
    by_cases h2 : hiS σ k < y
    · rw [if_pos ((cmp_gt _ _).mpr h2)]
      simp [h2, bI]
    · rw [if_neg (fun q => h2 ((cmp_gt _ _).mp q))]
      simp [h1, h2, bI]
end CSHEET
section COBJ
variable {z : Nat} {σ : Sg} {im : Nat → Option (Nat × Sg)} {M : Mem}
theorem co_ck (h : CO z σ im M) : ck M 4 z = some () := by simp [ck, h.2.1]
theorem co_g0 (h : CO z σ im M) : gN M 4 z 0 = some (z + 1) := by simp [gN, gF, h.2.1, vN]
theorem co_g1 (h : CO z σ im M) : gN M 4 z 1 = some (z + 11) := by simp [gN, gF, h.2.1, vN]
theorem co_g2 (h : CO z σ im M) : gN M 4 z 2 = some (z + 12) := by simp [gN, gF, h.2.1, vN]
theorem co_g3 (h : CO z σ im M) : gN M 4 z 3 = some (z + 16) := by simp [gN, gF, h.2.1, vN]
theorem co_sh (h : CO z σ im M) : CSh (z + 42) (z + 1) σ M := h.2.2.1
theorem co_ok (h : CO z σ im M) : SgOk σ := h.2.2.2.2.2.2.2.2
theorem rds_ck {r pp ww : Nat} (h : RdS r pp ww M) : ck M 1 r = some () := by
  obtain ⟨⟨b, x1, x2, x3, x4, x5, x6, h1⟩, -⟩ := h
  simp [ck, h1, rcell]
/-- reading anything by a land, from an int array of the class's own -/
theorem co_read (h : CO z σ im M) (hK : LenOk M) {a b o e cap : Nat} {T : Nat → Int32} {kd : Int32} (hkd : kd = 0 ∨ kd = 1 ∨ kd = 2) (hT : M.2.1 a = some (.inl (.int, cap, .inl T))) (hcap : o + e ≤ cap) (hc : cap < 2 ^ 30) (ha : a < z + 12 ∨ z + 15 < a) (v : L8) (hv : L8Ok v) (hL : M.2.1 b = some (lcell v)) (hb : z + 42 ≤ b) (hby : ∀ k, k < e → ¬ T (o + k) < 0) :
    ∃ st M' fo, fX2_read (z + 12) a (nI o) (nI (o + e)) b kd M = some (st, M') ∧ Found (hlv v kd (fun k => T (o + k)) e) st fo ∧ gL M' 1 (z + 12) 5 = some fo ∧ Chg (z + 12) (z + 15) M M' ∧ CO z σ im M' := by
  have h' := h
  obtain ⟨h0, h1, h2, h3, h4, h5, h6, ⟨n, L, h7⟩, h8⟩ := h'
  obtain ⟨st, M', fo, q1, q2, q3, q4, q5, q6, q7⟩ := r_read (la := b) hkd hK ⟨by omega, by omega, by omega, by omega, by omega, by omega⟩ h6 hT hcap hc v hv hL ⟨by omega, by omega, by omega⟩ hby
  have hC : Chg (z + 12) (z + 15) M M' := ⟨by rw [q5]; exact Nat.le_refl _, q6, fun c _ hc => q7 c (by omega) (by omega) (by omega)⟩
  refine ⟨st, M', fo, q1, q2, q3, hC, CO.fr h (hC.wide (by omega) (by omega)) (hC.2.2 _ (by omega) (by omega)) ?_ q4 ⟨n, L, h7.fr hC (by omega) (by omega)⟩ h8⟩
  exact h2.fr h8.1 hC (by omega) (by omega) (fun c w r1 r2 r3 => (hC.2.2 c r2 (by omega)).trans r3)
theorem lenOk_of {M M' : Mem} (h : LenOk M) (e : M'.2.2 = M.2.2) : LenOk M' := by
  unfold LenOk at h ⊢
  rw [e]
  exact h
theorem co_readLine (h : CO z σ im M) (hK : LenOk M) {b n : Nat} {kd : Int32} (hkd : kd = 0 ∨ kd = 1 ∨ kd = 2) (hn : n ≤ lnS σ) (v : L8) (hv : L8Ok v) (hL : M.2.1 b = some (lcell v)) (hb : z + 42 ≤ b) :
    ∃ st M' fo, fX7_readLine z (nI n) b kd M = some (st, M') ∧ Found (hlv v kd (lbS σ) n) st fo ∧ gL M' 1 (z + 12) 5 = some fo ∧ Chg (z + 12) (z + 15) M M' ∧ CO z σ im M' := by
  have hok := co_ok h
  have hsh := co_sh h
  have ht := hsh.2.1
  obtain ⟨t0, t1, f, t2, t3⟩ := ht
  obtain ⟨st, M', fo, q1, q2, q3, q4, q5⟩ := co_read h hK (a := z + 1 + 1 + 1) (o := 0) (e := n) hkd t2 (by omega) (by decide) (by omega) v hv hL hb (fun k hk => by rw [Nat.zero_add, t3 k (by omega)]; exact byt_nn (hok.2.2.2.1 k (by omega)))
  refine ⟨st, M', fo, ?_, ?_, q3, q4, q5⟩
  · unfold fX7_readLine
    rw [co_g2 h, Option.bind_some, co_g0 h, Option.bind_some, cs_g0 hsh, Option.bind_some, tx_b hsh.2.1, Option.bind_some, rds_ck h.2.2.2.2.2.2.1, Option.bind_some]
    have q1' : fX2_read (z + 12) (z + 1 + 1 + 1) 0 (nI n) b kd M = some (st, M') := by rw [Nat.zero_add] at q1; exact q1
    rw [q1', Option.bind_some]
  · have : hlv v kd (fun k => f (0 + k)) n = hlv v kd (lbS σ) n := hlv_congr (fun k hk => by rw [Nat.zero_add]; exact t3 k (by omega))
    rw [← this]
    exact q2
theorem co_counted (h : CO z σ im M) {k : Nat} (hk : k < 3) {st : Int32} {fo : Int64} (hfo : gL M 1 (z + 12) 5 = some fo) {w : Int32 × Option Int64} (hw : Found w st fo) : fX7_countedValue z st (nI k) M = some (cv w (loS σ k) (hiS σ k), M) := by
  unfold fX7_countedValue fX7_countedValue_32 fX7_countedValue_35
  rcases hw with ⟨rfl, rfl⟩ | ⟨rfl, rfl⟩ | ⟨rfl, rfl⟩
  · rw [if_pos rfl, co_g0 h, Option.bind_some, co_g2 h, Option.bind_some, hfo, Option.bind_some, cs_ck (co_sh h), Option.bind_some, cs_within (co_sh h) hk, Option.bind_some]
    dsimp only
    unfold cv cnt
    by_cases hin : ¬ fo < loS σ k ∧ ¬ hiS σ k < fo
    · rw [decide_eq_true hin, if_neg (by decide), co_g2 h, Option.bind_some, hfo, Option.bind_some]
      simp [hin]
    · rw [decide_eq_false hin, if_pos (by decide)]
      show some ((-9223372036854775808 : Int64), M) = some (if (decide ((2 : Int32) = 2) && decide (¬ fo < loS σ k ∧ ¬ hiS σ k < fo)) = true then fo else LEAST, M)
      rw [decide_eq_false hin]
      rfl
  · rw [if_neg (by decide)]
    rfl
  · rw [if_neg (by decide)]
    rfl
/-- a row, read and counted -/
theorem co_rowValue (h : CO z σ im M) (hK : LenOk M) {b r k : Nat} (hk : k < 3) (hr : r < nrS σ) (v : L8) (hv : L8Ok v) (hL : M.2.1 b = some (lcell v)) (hb : z + 42 ≤ b) :
    ∃ M', fX7_rowValue z (nI r) b (nI k) M = some (cv (hlv v (nI k) (fun j => rbS σ (60 * r + j)) (rlS σ r)) (loS σ k) (hiS σ k), M') ∧ Chg (z + 12) (z + 15) M M' ∧ CO z σ im M' := by
  have hok := co_ok h
  have hsh := co_sh h
  have hnr := hok.2.2.2.2.2.2.1
  obtain ⟨hrl, hrb⟩ := hok.2.2.2.2.2.2.2 r hr
  obtain ⟨f, f1, f2⟩ := hsh.2.2.2.2.1
  obtain ⟨g, g1, g2⟩ := hsh.2.2.2.2.2.1
  have hkd : nI k = 0 ∨ nI k = 1 ∨ nI k = 2 := by
    rcases (show k = 0 ∨ k = 1 ∨ k = 2 by omega) with rfl | rfl | rfl
    · exact Or.inl rfl
    · exact Or.inr (Or.inl rfl)
    · exact Or.inr (Or.inr rfl)
  obtain ⟨st, M', fo, q1, q2, q3, q4, q5⟩ := co_read h hK (a := z + 1 + 6) (o := 60 * r) (e := rlS σ r) hkd f1 (by omega) (by decide) (by omega) v hv hL hb (fun j hj => by rw [f2 r hr j hj]; exact byt_nn (hrb j hj))
  have q2' : Found (hlv v (nI k) (fun j => rbS σ (60 * r + j)) (rlS σ r)) st fo := by
    rw [← hlv_congr (T := fun j => f (60 * r + j)) (fun j hj => f2 r hr j hj)]
    exact q2
  refine ⟨M', ?_, q4, q5⟩
  have e1 : nI r * 60 = nI (60 * r) := by rw [Nat.mul_comm]; exact pk_mul r 60
  have e2 : fX3_rowLength (z + 1) (nI r) M = some (nI (rlS σ r), M) := by
    unfold fX3_rowLength fX3_rowLength_31
    have a1 : aN M (z + 1 + 7) = some (nI 30) := by unfold aN; rw [g1]; rfl
    have a2 : aI M (z + 1 + 7) (nI r) = some (nI (rlS σ r)) := by
      unfold aI
      rw [g1]
      dsimp only
      rw [if_pos (inr_nI (by omega) (by decide)), nI_clamp (by omega), g2 r hr]
    rw [if_neg (nI_pos (by omega)), cs_g6 hsh, Option.bind_some, if_neg (nI_ge hr (by omega)), cs_g5 hsh, Option.bind_some, a1, Option.bind_some, if_neg (nI_ge (show r < 30 by omega) (by decide)), Option.bind_some, a2, Option.bind_some]
  unfold fX7_rowValue fX3_rowStart
  rw [co_g0 h, Option.bind_some, cs_ck hsh, Option.bind_some, Option.bind_some]
  dsimp only
  rw [co_g2 h, Option.bind_some, co_g0 h, Option.bind_some, cs_g4 hsh, Option.bind_some, Option.bind_some, cs_ck hsh, Option.bind_some, e2, Option.bind_some]
  dsimp only
  rw [rds_ck h.2.2.2.2.2.2.1, Option.bind_some, e1, nI_add, q1, Option.bind_some]
  dsimp only
  rw [co_ck q5, Option.bind_some, co_counted q5 hk q3 q2', Option.bind_some]
end COBJ
