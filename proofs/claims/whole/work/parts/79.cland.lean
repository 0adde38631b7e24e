/-! ===== the calls, one by one: land ===== -/
def mkV (mk : Int32) : Prop := mk >>> ((24 : Int32) &&& 31) = 0 ∧ ltr ((mk >>> ((16 : Int32) &&& 31)) &&& (255 : Int32)) ∧ ltr ((mk >>> ((8 : Int32) &&& 31)) &&& (255 : Int32)) ∧ ltr (mk &&& (255 : Int32))
theorem mkV_nn {mk : Int32} (h : mk >>> ((24 : Int32) &&& 31) = 0) : ¬ mk < 0 := by
  intro hn
  have e := pk_shr mk ((24 : Int32) &&& 31) 24 (by decide)
  rw [h] at e
  have hlt : mk.toInt < 0 := by
    have := Int32.lt_iff_toInt_lt.mp hn
    simpa using this
  have hsh : mk.toInt >>> 24 = mk.toInt / (2 ^ 24 : Int) := by
    rw [Int.shiftRight_eq_div_pow]
    norm_cast
  rw [hsh] at e
  have h0 : (0 : Int32).toInt = 0 := by decide
  rw [h0] at e
  omega
theorem mkV_ok {mk : Int32} (h : mkV mk) : mkOk mk := ⟨mkV_nn h.1, h.2⟩
theorem e_cap (x : Int32) (M : Mem) : ∃ b : Bool, (b = true ↔ ltr x) ∧ fX1_isCapital x M = some (bI b, M) := by
  unfold fX1_isCapital fX1_isCapital_16 fX1_isCapital_17 ltr
  rw [nz0, nz1]
  by_cases h1 : x < 65
  · exact ⟨false, ⟨(fun q => by cases q), fun q => absurd h1 q.1⟩, by rw [if_pos h1]; rfl⟩
  · by_cases h2 : 90 < x
    · exact ⟨false, ⟨(fun q => by cases q), fun q => absurd h2 q.2⟩, by rw [if_neg h1, if_pos h2]; rfl⟩
    · exact ⟨true, ⟨fun _ => ⟨h1, h2⟩, fun _ => rfl⟩, by rw [if_neg h1, if_neg h2]; rfl⟩
theorem e_money (mk : Int32) (M : Mem) : ∃ b : Bool, (b = true ↔ mkV mk) ∧ fX1_canWriteMoney mk M = some (bI b, M) := by
  obtain ⟨b1, h1, e1⟩ := e_cap (mk >>> ((16 : Int32) &&& 31)) M
  obtain ⟨b2, h2, e2⟩ := e_cap ((mk >>> ((8 : Int32) &&& 31)) &&& (255 : Int32)) M
  obtain ⟨b3, h3, e3⟩ := e_cap (mk &&& (255 : Int32)) M
  have key : ltr (mk >>> ((16 : Int32) &&& 31)) ↔ mk >>> ((24 : Int32) &&& 31) = 0 ∧ ltr ((mk >>> ((16 : Int32) &&& 31)) &&& (255 : Int32)) := by
    by_cases hn : mk < 0
    · constructor
      · intro hl
        exfalso
        have e := pk_shr mk ((16 : Int32) &&& 31) 16 (by decide)
        have hlt : mk.toInt < 0 := by
          have := Int32.lt_iff_toInt_lt.mp hn
          simpa using this
        have hsh : mk.toInt >>> 16 = mk.toInt / (2 ^ 16 : Int) := by
          rw [Int.shiftRight_eq_div_pow]
          norm_cast
        rw [hsh] at e
        refine hl.1 (Int32.lt_iff_toInt_lt.mpr ?_)
        rw [e]
        have h65 : (65 : Int32).toInt = 65 := by decide
        rw [h65]
        omega
      · intro q
        exact absurd hn (mkV_nn q.1)
    · obtain ⟨j, hj, rfl⟩ := nI_of hn
      have s16 : nI j >>> ((16 : Int32) &&& 31) = nI (j / 2 ^ 16) := pk_shrN hj _ 16 (by decide)
      have s24 : nI j >>> ((24 : Int32) &&& 31) = nI (j / 2 ^ 24) := pk_shrN hj _ 24 (by decide)
      rw [s16, s24, pk_andN (by omega) (m := 255) 8 (by decide), nI_z (by omega)]
      have lt_of : ∀ a, a < 2 ^ 31 → (ltr (nI a) ↔ 65 ≤ a ∧ a ≤ 90) := by
        intro a ha
        unfold ltr
        constructor
        · rintro ⟨q1, q2⟩
          constructor
          · rcases Nat.lt_or_ge a 65 with q | q
            · exact absurd (li_lt 65 a 65 rfl q (by decide)) q1
            · exact q
          · rcases Nat.lt_or_ge 90 a with q | q
            · exact absurd (li_gt 90 a 90 rfl q ha) q2
            · exact q
        · rintro ⟨q1, q2⟩
          exact ⟨li_nlt 65 a 65 rfl q1 ha, li_ngt 90 a 90 rfl q2 (by decide)⟩
      rw [lt_of _ (by omega), lt_of _ (by omega)]
      omega
  unfold fX1_canWriteMoney fX1_canWriteMoney_39 fX1_canWriteMoney_40
  rw [e1, Option.bind_some, nz0, nz1]
  dsimp only
  cases b1 with
  | false => exact ⟨false, ⟨(fun q => by cases q), fun q => absurd (h1.mpr (key.mpr ⟨q.1, q.2.1⟩)) (by decide)⟩, by rw [if_pos (by decide)]; rfl⟩
  | true =>
    rw [if_neg (by decide), e2, Option.bind_some]
    dsimp only
    have k1 := key.mp (h1.mp rfl)
    cases b2 with
    | false => exact ⟨false, ⟨(fun q => by cases q), fun q => absurd (h2.mpr q.2.2.1) (by decide)⟩, by rw [if_pos (by decide)]; rfl⟩
    | true =>
      rw [if_neg (by decide), e3, Option.bind_some]
      dsimp only
      cases b3 with
      | false => exact ⟨false, ⟨(fun q => by cases q), fun q => absurd (h3.mpr q.2.2.2) (by decide)⟩, by rw [if_pos (by decide)]; rfl⟩
      | true => exact ⟨true, ⟨fun _ => ⟨k1.1, k1.2, h2.mp rfl, h3.mp rfl⟩, fun _ => rfl⟩, by rw [if_neg (by decide)]; rfl⟩
theorem e_days (o d : Int32) (M : Mem) : fX1_canWriteDays o d M = some (bI (decide ((¬ o < 0 ∧ ¬ 2 < o) ∧ (d = 47 ∨ d = 46 ∨ d = 45))), M) := by
  unfold fX1_canWriteDays fX1_canWriteDays_31 fX1_canWriteDays_27 fX1_canWriteDays_32
  rw [nz0, nz1]
  by_cases h1 : o < 0
  · simp [h1, bI]
  · by_cases h2 : 2 < o
    · simp [h1, h2, bI]
    · by_cases h3 : d = 47
      · simp [h1, h2, h3, bI]
      · by_cases h4 : d = 46
        · simp [h1, h2, h4, bI]
        · by_cases h5 : d = 45
          · simp [h1, h2, h5, bI]
          · simp [h1, h2, h3, h4, h5, bI]
theorem e_nums (p g t mn : Int32) (M : Mem) : fX1_canWriteNumbers p g t mn M = some (bI (decide ((p = 44 ∨ p = 46) ∧ (g = 44 ∨ g = 46 ∨ g = 32 ∨ g = 39 ∨ g = 0) ∧ ¬ g = p ∧ (t = 0 ∨ t = 1) ∧ (¬ mn < 0 ∧ ¬ 2 < mn))), M) := by
  have e78 : fX1_canWriteNumbers_78 mn M = some (bI (decide (¬ mn < 0 ∧ ¬ 2 < mn)), M) := by
    unfold fX1_canWriteNumbers_78 fX1_canWriteNumbers_91 fX1_canWriteNumbers_92
    rw [nz0, nz1]
    by_cases h1 : mn < 0
    · simp [h1, bI]
    · by_cases h2 : 2 < mn <;> simp [h1, h2, bI]
  have e52 : ∀ a b : Bool, fX1_canWriteNumbers_52 p g t mn (bI a) (bI b) M = some (bI (a && (b && decide (¬ g = p ∧ (t = 0 ∨ t = 1) ∧ (¬ mn < 0 ∧ ¬ 2 < mn)))), M) := by
    intro a b
    unfold fX1_canWriteNumbers_52 fX1_canWriteNumbers_91 fX1_canWriteNumbers_92
    rw [e78, nz0]
    cases a <;> cases b
    · simp [bI]
    · simp [bI]
    · simp [bI]
    · rw [if_neg (by decide), if_neg (by decide)]
      by_cases h1 : g = p
      · simp [h1, bI]
      · by_cases h2 : t = 0
        · simp [h1, h2]
        · by_cases h3 : t = 1
          · simp [h1, h3]
          · simp [h1, h2, h3, bI]
  have e17 : ∀ a : Bool, fX1_canWriteNumbers_17 p g t mn (bI a) M = some (bI (a && (decide (g = 44 ∨ g = 46 ∨ g = 32 ∨ g = 39 ∨ g = 0) && decide (¬ g = p ∧ (t = 0 ∨ t = 1) ∧ (¬ mn < 0 ∧ ¬ 2 < mn)))), M) := by
    intro a
    have h1 := e52 a true
    have h0 := e52 a false
    rw [show bI true = 1 from rfl] at h1
    rw [show bI false = 0 from rfl] at h0
    unfold fX1_canWriteNumbers_17 fX1_canWriteNumbers_47
    rw [h1, h0]
    by_cases g1 : g = 44
    · rw [if_pos g1, decide_eq_true (show g = 44 ∨ g = 46 ∨ g = 32 ∨ g = 39 ∨ g = 0 from Or.inl g1)]
    · rw [if_neg g1]
      by_cases g2 : g = 46
      · rw [if_pos g2, decide_eq_true (show g = 44 ∨ g = 46 ∨ g = 32 ∨ g = 39 ∨ g = 0 from Or.inr (Or.inl g2))]
      · rw [if_neg g2]
        by_cases g3 : g = 32
        · rw [if_pos g3, decide_eq_true (show g = 44 ∨ g = 46 ∨ g = 32 ∨ g = 39 ∨ g = 0 from Or.inr (Or.inr (Or.inl g3)))]
        · rw [if_neg g3]
          by_cases g4 : g = 39
          · rw [if_pos g4, decide_eq_true (show g = 44 ∨ g = 46 ∨ g = 32 ∨ g = 39 ∨ g = 0 from Or.inr (Or.inr (Or.inr (Or.inl g4))))]
          · rw [if_neg g4]
            by_cases g5 : g = 0
            · rw [if_pos g5, decide_eq_true (show g = 44 ∨ g = 46 ∨ g = 32 ∨ g = 39 ∨ g = 0 from Or.inr (Or.inr (Or.inr (Or.inr g5))))]
            · rw [if_neg g5, decide_eq_false (show ¬ (g = 44 ∨ g = 46 ∨ g = 32 ∨ g = 39 ∨ g = 0) from fun q => by rcases q with q | q | q | q | q; exact g1 q; exact g2 q; exact g3 q; exact g4 q; exact g5 q)]
  have h1 := e17 true
  have h0 := e17 false
  rw [show bI true = 1 from rfl] at h1
  rw [show bI false = 0 from rfl] at h0
  unfold fX1_canWriteNumbers fX1_canWriteNumbers_12
  rw [h1, h0]
  by_cases p1 : p = 44
  · rw [if_pos p1]
    simp [p1]
  · rw [if_neg p1]
    by_cases p2 : p = 46
    · rw [if_pos p2]
      simp [p2]
    · rw [if_neg p2]
      simp [p1, p2]
/-- what a land's values must keep to -/
def LV (p g t mn mk o d : Int32) : Prop := ((p = 44 ∨ p = 46) ∧ (g = 44 ∨ g = 46 ∨ g = 32 ∨ g = 39 ∨ g = 0) ∧ ¬ g = p ∧ (t = 0 ∨ t = 1) ∧ (¬ mn < 0 ∧ ¬ 2 < mn)) ∧ mkV mk ∧ ((¬ o < 0 ∧ ¬ 2 < o) ∧ (d = 47 ∨ d = 46 ∨ d = 45))
theorem mst_mnw (M : Mem) (e1 e2 : ME) : mst (mnw M e1) M.1 e2 = mnw M e2 := by
  refine Prod.ext rfl (Prod.ext (funext fun b => ?_) rfl)
  show (if b = M.1 then some e2 else if b = M.1 then some e1 else M.2.1 b) = if b = M.1 then some e2 else M.2.1 b
  by_cases h : b = M.1
  · rw [if_pos h, if_pos h]
  · rw [if_neg h, if_neg h, if_neg h]
theorem mnw_at (M : Mem) (e : ME) : (mnw M e).2.1 M.1 = some e := by simp [mnw]
theorem mnw_ne (M : Mem) (e : ME) {b : Nat} (h : b ≠ M.1) : (mnw M e).2.1 b = M.2.1 b := by simp [mnw, h]
theorem pF_nw {M : Mem} {c k : Nat} {fs : List Value} (hk : k < fs.length) (v : Value) : pF (mnw M (.inr (c, fs))) c M.1 k v = some (mnw M (.inr (c, fs.set k v))) := by
  unfold pF
  rw [mnw_at]
  dsimp only
  rw [if_pos ⟨rfl, hk⟩, mst_mnw]
theorem e_newLand (M : Mem) {p g t mn mk b o d : Int32} (ht : t = 0 ∨ t = 1) (hb : b = 0 ∨ b = 1) : ∃ M1, fX1_init M.1 p g t mn mk b (nO M 0 [.int 0, .int 0, .int 0, .int 0, .int 0, .int 0, .int 0, .int 0]) = some M1 ∧ ck M1 0 M.1 = some () ∧ fX1_setDays M.1 o d M1 = some (mnw M (lcell (p, g, t, mn, mk, b, o, d))) := by
  have hnb : nz b = some b := by rcases hb with rfl | rfl <;> decide
  refine ⟨mnw M (lcell (p, g, t, mn, mk, b, 0, 0)), ?_, ?_, ?_⟩
  · unfold fX1_init fX1_init_25 nO
    rw [pF_nw (by simp), Option.bind_some, pF_nw (by simp), Option.bind_some, hnb, nz0, nz1]
    rcases ht with rfl | rfl
    · rw [if_neg (by decide), Option.bind_some, pF_nw (by simp), Option.bind_some, pF_nw (by simp), Option.bind_some, pF_nw (by simp), Option.bind_some, Option.bind_some, pF_nw (by simp), Option.bind_some]
      rfl
    · rw [if_pos rfl, Option.bind_some, pF_nw (by simp), Option.bind_some, pF_nw (by simp), Option.bind_some, pF_nw (by simp), Option.bind_some, Option.bind_some, pF_nw (by simp), Option.bind_some]
      rfl
  · unfold ck
    rw [mnw_at]
    rfl
  · unfold fX1_setDays lcell
    rw [pF_nw (by simp), Option.bind_some, pF_nw (by simp), Option.bind_some]
    rfl
theorem lv_ok {p g t mn mk b o d : Int32} (h : LV p g t mn mk o d) (hb : b = 0 ∨ b = 1) : L8Ok (p, g, t, mn, mk, b, o, d) := by
  obtain ⟨⟨h1, h2, h3, h4, h5⟩, h6, h7, h8⟩ := h
  exact ⟨⟨h1, h2, h3⟩, h4, (kind3 h5).1, mkV_ok h6, hb, (kind3 h7).1, h8⟩
