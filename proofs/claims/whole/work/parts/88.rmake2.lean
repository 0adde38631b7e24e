/-! ===== the reference writes amounts: the whole of one ===== -/
section RMAKE2
variable {m : Nat} {A : Nat → Nat → Int32} {B : Nat → Nat → Int64} {N : Mem}
theorem p_makeAmount {l n V : Nat} {kd : Int32} (hl : l < 24) (hv : L8Ok (lnd A l)) (hn : n ≤ 6) (hV : V ≤ 999999999999999) (neg : Bool) (hneg : neg = true → 0 < V) (M : Mem) (hM : MK m A B N [] M) :
    (rndN V n ≤ 999999999999999 ∧ ∃ D M', DOk (rndN V n / 10 ^ 6) D ∧ fX8_makeAmount m (nI l) kd (if neg = true then - lN V else lN V) (nI n) M = some (1, M') ∧ MK m A B N (amtL (lnd A l) (decide (kd = 1)) (neg && decide (0 < rndN V n)) (rndN V n / 10 ^ 6) (rndN V n) n D) M') ∨
    (¬ rndN V n ≤ 999999999999999 ∧ fX8_makeAmount m (nI l) kd (if neg = true then - lN V else lN V) (nI n) M = some (0, M)) := by
  have hu : ∀ d i f : Nat, i + d = 6 → d < f → i ≤ 6 → ∀ y : Nat, y * 10 ^ d < 2 ^ 40 → fX8_makeAmount_36 f m (nI l) kd (if neg = true then - lN V else lN V) (nI n) (lN y) (nI i) M = fX8_makeAmount_69 m (nI l) kd (if neg = true then - lN V else lN V) (nI n) (lN (y * 10 ^ d)) (lN V) M := by
    intro d
    induction d with
    | zero =>
      intro i f hi hf h6 y hy
      obtain ⟨f, rfl⟩ : ∃ g, f = g + 1 := ⟨f - 1, by omega⟩
      rw [fX8_makeAmount_36, if_pos (li_ge 6 i 6 rfl (by omega) (by omega)), Nat.pow_zero, Nat.mul_one]
      cases neg with
      | true =>
        rw [if_neg (fun q => (cmp_ge _ _).mp q (by rw [if_pos rfl]; exact lN_neg (hneg rfl) (by omega)))]
        rw [if_pos rfl, Int64.neg_neg]
      | false =>
        rw [if_pos ((cmp_ge _ _).mpr (by rw [if_neg (by decide)]; exact lN_nn (by omega)))]
        rfl
    | succ d ih =>
      intro i f hi hf h6 y hy
      obtain ⟨f, rfl⟩ : ∃ g, f = g + 1 := ⟨f - 1, by omega⟩
      rw [fX8_makeAmount_36, if_neg (li_nge 6 i 6 rfl (by omega) (by decide)), show lN y * 10 = lN (y * 10) from lN_mul y 10, nI_1, ih (i + 1) f (by omega) (by omega) (by omega) (y * 10) (by rw [Nat.mul_assoc, Nat.mul_comm 10, ← Nat.pow_succ]; exact hy), Nat.mul_assoc, Nat.mul_comm 10, ← Nat.pow_succ]
  have hpow : 10 ^ (6 - n) ≤ 10 ^ 6 := Nat.pow_le_pow_right (by decide) (by omega)
  have hpos : 0 < 10 ^ (6 - n) := Nat.pow_pos (by decide)
  have hxle : rndN V n ≤ V + 10 ^ (6 - n) / 2 := by
    unfold rndN
    exact Nat.div_mul_le_self _ _
  have hxb : rndN V n < 2 ^ 60 := by omega
  -- the start
  have hge : ¬ (if neg = true then - lN V else lN V) < -999999999999999 ∧ ¬ (999999999999999 : Int64) < (if neg = true then - lN V else lN V) := by
    have h1 : (lN V).toInt = (V : Int) := pk_lT (by omega)
    have h3 : (999999999999999 : Int64).toInt = 999999999999999 := by decide
    have h4 : (-999999999999999 : Int64).toInt = -999999999999999 := by decide
    have h2 : (- lN V).toInt = - (V : Int) := by
      rw [Int64.toInt_neg, h1]
      rw [Int.bmod_eq_of_le (by omega) (by omega)]
    cases neg with
    | true =>
      rw [if_pos rfl, Int64.lt_iff_toInt_lt, Int64.lt_iff_toInt_lt, h2, h3, h4]
      omega
    | false =>
      rw [if_neg (by decide), Int64.lt_iff_toInt_lt, Int64.lt_iff_toInt_lt, h1, h3, h4]
      omega
  have start : fX8_makeAmount m (nI l) kd (if neg = true then - lN V else lN V) (nI n) M = fX8_makeAmount_69 m (nI l) kd (if neg = true then - lN V else lN V) (nI n) (lN (10 ^ (6 - n))) (lN V) M := by
    unfold fX8_makeAmount
    rw [e_in, Option.bind_some]
    dsimp only
    rw [if_pos (show ¬ nI n < 0 ∧ ¬ 6 < nI n from ⟨nI_pos (by omega), li_ngt 6 n 6 rfl hn (by decide)⟩), if_neg (by decide), if_neg (fun q => hge.2 ((cmp_gt _ _).mp q)), if_pos ((cmp_ge _ _).mpr hge.1)]
    have := hu (6 - n) n FU (by omega) (by unfold FU; omega) hn 1 (by omega)
    rw [Nat.one_mul] at this
    exact this
  have hv69 : ((lN V + lN (10 ^ (6 - n)) / 2) / lN (10 ^ (6 - n))) * lN (10 ^ (6 - n)) = lN (rndN V n) := by
    rw [show lN (10 ^ (6 - n)) / 2 = lN (10 ^ (6 - n) / 2) from pk_lDiv (b := 2) (by omega) (by decide) (by decide), lN_add, pk_lDiv (by omega) hpos (by omega), lN_mul]
    rfl
  have hdz : dzL (lN (10 ^ (6 - n))) = some () := by
    unfold dzL
    rw [if_neg]
    intro q
    have := (pk_lEQ (a := 10 ^ (6 - n)) (b := 0) (by omega) (by decide)).mp q
    omega
  rw [start]
  unfold fX8_makeAmount_69
  rw [hdz, Option.bind_some, hv69]
  have hcmp : lg_cmp (lN (rndN V n)) 999999999999999 ≤ 0 ↔ rndN V n ≤ 999999999999999 := by
    rw [cmp_le]
    have h1 : (999999999999999 : Int64) < lN (rndN V n) ↔ 999999999999999 < rndN V n := pk_lLT (a := 999999999999999) (by decide) (by omega)
    rw [h1]
    omega
  by_cases hx : rndN V n ≤ 999999999999999
  · refine Or.inl ⟨hx, ?_⟩
    rw [if_pos (hcmp.mpr hx)]
    obtain ⟨D, hD⟩ := d_ex (w := rndN V n / 10 ^ 6) (by omega)
    have hD0 := hD
    obtain ⟨d1, d2, d3, d4⟩ := hD
    -- below 0 or not
    have hsel : (if 0 ≤ lg_cmp (if neg = true then - lN V else lN V) 0 then fX8_makeAmount_116 m (nI l) kd (nI n) (lN (rndN V n)) M else if lg_cmp (lN (rndN V n)) 0 ≤ 0 then fX8_makeAmount_116 m (nI l) kd (nI n) (lN (rndN V n)) M else fX8_makeAmount_117 m (nI l) kd (nI n) (lN (rndN V n)) 1 M) = fX8_makeAmount_117 m (nI l) kd (nI n) (lN (rndN V n)) (bI (neg && decide (0 < rndN V n))) M := by
      unfold fX8_makeAmount_116
      cases neg with
      | false =>
        rw [if_pos ((cmp_ge _ _).mpr (by rw [if_neg (by decide)]; exact lN_nn (by omega)))]
        rfl
      | true =>
        rw [if_neg (fun q => (cmp_ge _ _).mp q (by rw [if_pos rfl]; exact lN_neg (hneg rfl) (by omega)))]
        have h0 : lg_cmp (lN (rndN V n)) 0 ≤ 0 ↔ ¬ 0 < rndN V n := (cmp_le _ _).trans (not_congr (pk_lLT (a := 0) (by decide) (by omega)))
        by_cases h : 0 < rndN V n
        · rw [if_neg (fun q => h0.mp q h), decide_eq_true h]; rfl
        · rw [if_pos (h0.mpr h), decide_eq_false h]; rfl
    rw [hsel]
    generalize hless : (neg && decide (0 < rndN V n)) = less
    -- the end: the minus behind
    have a5 : ∀ {L : List Int32} {M : Mem}, MK m A B N L M → aI M (m + 5) (nI l) = some (A 5 l) := fun h => rm_aI (by decide) (by decide) rfl (by decide) hl h.rm
    have a7 : ∀ {L : List Int32} {M : Mem}, MK m A B N L M → aZ M (m + 7) (nI l) = some (A 7 l) := fun h => rm_aZ7 hl h.rm
    have hmk : ¬ A 6 l < 0 := hv.2.2.2.1.1
    have s401 : ∀ (L : List Int32) (M : Mem), L.length < 150 → MK m A B N L M → ∃ M', fX8_makeAmount_401 m (nI l) (bI less) M = some (1, M') ∧ MK m A B N (L ++ (if less = true ∧ ¬ A 5 l = 0 then [if A 5 l = 1 then 45 else 41] else [])) M' := by
      intro L M hlen h
      unfold fX8_makeAmount_401 fX8_makeAmount_436 fX8_makeAmount_433 fX8_makeAmount_436
      rw [nz1]
      cases less with
      | false =>
        refine ⟨M, by rw [if_pos (by decide)]; rfl, ?_⟩
        rw [if_neg (fun q => by cases q.1), List.append_nil]
        exact h
      | true =>
        rw [if_neg (by decide), rm_gN5 h.rm, Option.bind_some, a5 h, Option.bind_some]
        by_cases h0 : A 5 l = 0
        · refine ⟨M, by rw [if_pos h0]; rfl, ?_⟩
          rw [if_neg (fun q => q.2 h0), List.append_nil]
          exact h
        · rw [if_neg h0, Option.bind_some, a5 h, Option.bind_some, if_pos (show true = true ∧ ¬ A 5 l = 0 from ⟨rfl, h0⟩)]
          by_cases h1 : A 5 l = 1
          · obtain ⟨M', q1, q2⟩ := mk_say h (by omega) 45
            refine ⟨M', ?_, by rw [if_pos h1]; exact q2⟩
            rw [if_pos h1, mk_ck h, Option.bind_some, q1, Option.bind_some]
            rfl
          · obtain ⟨M', q1, q2⟩ := mk_say h (by omega) 41
            refine ⟨M', ?_, by rw [if_neg h1]; exact q2⟩
            rw [if_neg h1, mk_ck h, Option.bind_some, q1, Option.bind_some]
            rfl
    have s376 : ∀ (L : List Int32) (M : Mem), L.length < 140 → MK m A B N L M → ∃ M', fX8_makeAmount_376 m (nI l) kd (bI less) M = some (1, M') ∧ MK m A B N (L ++ ((if decide (kd = 1) = true ∧ ¬ A 7 l = 0 then 32 :: markL (A 6 l) else []) ++ (if less = true ∧ ¬ A 5 l = 0 then [if A 5 l = 1 then 45 else 41] else []))) M' := by
      intro L M hlen h
      unfold fX8_makeAmount_376
      by_cases hk : kd = 1
      · rw [if_pos hk, rm_gN7 h.rm, Option.bind_some, a7 h, Option.bind_some]
        by_cases hb : A 7 l = 0
        · obtain ⟨M', q1, q2⟩ := s401 L M (by omega) h
          refine ⟨M', by rw [if_pos hb]; exact q1, ?_⟩
          rw [if_neg (fun q : decide (kd = 1) = true ∧ ¬ A 7 l = 0 => q.2 hb), List.nil_append]
          exact q2
        · obtain ⟨M1, q1, h1⟩ := mk_say h (by omega) 32
          obtain ⟨M2, q2, h2⟩ := mk_sayMark hl h1 (by rw [List.length_append]; simp only [List.length_singleton]; omega) hmk
          obtain ⟨M', q3, h3⟩ := s401 _ M2 (by rw [List.length_append, List.length_append]; simp only [List.length_singleton, markL, List.length_cons, List.length_nil]; omega) h2
          refine ⟨M', ?_, ?_⟩
          · rw [if_neg hb, mk_ck h, Option.bind_some, q1, Option.bind_some, mk_ck h1, Option.bind_some, q2, Option.bind_some]
            exact q3
          · rw [if_pos ⟨decide_eq_true hk, hb⟩]
            simp only [List.append_assoc, List.cons_append, List.nil_append] at h3 ⊢
            exact h3
      · obtain ⟨M', q1, q2⟩ := s401 L M (by omega) h
        refine ⟨M', by rw [if_neg hk]; exact q1, ?_⟩
        rw [if_neg (fun q : decide (kd = 1) = true ∧ ¬ A 7 l = 0 => hk (of_decide_eq_true q.1)), List.nil_append]
        exact q2
    have hdl := digL_len (lnd A l) (rndN V n / 10 ^ 6) D
    have hpl : (ptL (lnd A l) (rndN V n) n).length ≤ 7 := by
      unfold ptL
      split
      · exact Nat.zero_le _
      · rw [List.length_cons, frL_len]; omega
    -- the number
    have s219 : ∀ (L : List Int32) (M : Mem), L.length < 100 → MK m A B N L M → ∃ M', fX8_makeAmount_219 m (nI l) kd (nI n) (bI less) (nI (rndN V n / 10 ^ 6)) (nI (rndN V n % 10 ^ 6)) (nI D) M = some (1, M') ∧ MK m A B N (L ++ ((digL (lnd A l) (rndN V n / 10 ^ 6) D ++ ptL (lnd A l) (rndN V n) n) ++ ((if decide (kd = 1) = true ∧ ¬ A 7 l = 0 then 32 :: markL (A 6 l) else []) ++ (if less = true ∧ ¬ A 5 l = 0 then [if A 5 l = 1 then 45 else 41] else [])))) M' := by
      intro L M hlen h
      have ten : ∀ (e k f : Nat), k + e = D → e < f → 1 ≤ k → fX8_makeAmount_225 f m (nI l) kd (nI n) (bI less) (nI (rndN V n / 10 ^ 6)) (nI (rndN V n % 10 ^ 6)) (nI D) (nI (10 ^ (k - 1))) (nI k) M = fX8_makeAmount_248 FU m (nI l) kd (nI n) (bI less) (nI (rndN V n / 10 ^ 6)) (nI (rndN V n % 10 ^ 6)) (nI D) (nI (10 ^ (D - 1))) 0 M := by
        intro e
        induction e with
        | zero =>
          intro k f hk hf h1
          obtain ⟨f, rfl⟩ : ∃ g, f = g + 1 := ⟨f - 1, by omega⟩
          rw [fX8_makeAmount_225, if_pos (nI_le (by omega) (by omega)), show k = D by omega]
        | succ e ih =>
          intro k f hk hf h1
          obtain ⟨f, rfl⟩ : ∃ g, f = g + 1 := ⟨f - 1, by omega⟩
          have e10 : nI (10 ^ (k - 1)) * 10 = nI (10 ^ (k + 1 - 1)) := by
            rw [show nI (10 ^ (k - 1)) * 10 = nI (10 ^ (k - 1) * 10) from pk_mul _ 10, ← Nat.pow_succ, show (k - 1).succ = k + 1 - 1 by omega]
          rw [fX8_makeAmount_225, if_neg (nI_ge (by omega) (by omega)), nI_1, e10, ih (k + 1) f (by omega) (by omega) (by omega)]
      obtain ⟨M1, q1, h1⟩ := mk_whole (n := n) (part := rndN V n % 10 ^ 6) (kd := kd) (x10 := bI less) hl (show rndN V n / 10 ^ 6 < 10 ^ 9 by omega) d2 D 0 FU L M (by omega) (by unfold FU; omega) (by omega) h
      have hl1 : (L ++ digL (lnd A l) (rndN V n / 10 ^ 6) D).length < 120 := by rw [List.length_append]; omega
      have e0 : 10 ^ D / 10 = 10 ^ (D - 1) := by
        rw [show D = (D - 1) + 1 by omega, Nat.pow_succ, Nat.mul_div_cancel _ (by decide), Nat.add_sub_cancel]
      rw [e0] at q1
      have q1' : fX8_makeAmount_248 FU m (nI l) kd (nI n) (bI less) (nI (rndN V n / 10 ^ 6)) (nI (rndN V n % 10 ^ 6)) (nI D) (nI (10 ^ (D - 1))) 0 M = _ := q1
      have fin : ∃ M', fX8_makeAmount_248 (FU - D) m (nI l) kd (nI n) (bI less) (nI (rndN V n / 10 ^ 6)) (nI (rndN V n % 10 ^ 6)) (nI D) (nI 0) (nI D) M1 = some (1, M') ∧ MK m A B N (L ++ digL (lnd A l) (rndN V n / 10 ^ 6) D ++ (ptL (lnd A l) (rndN V n) n ++ ((if decide (kd = 1) = true ∧ ¬ A 7 l = 0 then 32 :: markL (A 6 l) else []) ++ (if less = true ∧ ¬ A 5 l = 0 then [if A 5 l = 1 then 45 else 41] else [])))) M' := by
        obtain ⟨fu, hfu⟩ : ∃ g, FU - D = g + 1 := ⟨FU - D - 1, by unfold FU; omega⟩
        rw [hfu, fX8_makeAmount_248, if_pos (nI_le (Nat.le_refl _) (by omega))]
        unfold ptL
        by_cases h0 : n = 0
        · obtain ⟨M', r1, r2⟩ := s376 _ M1 (by omega) h1
          refine ⟨M', ?_, by rw [if_pos h0, List.nil_append]; exact r2⟩
          rw [if_pos (by rw [h0]; decide)]
          exact r1
        · have a2 : aI M1 (m + 2) (nI l) = some (A 2 l) := rm_aI (by decide) (by decide) rfl (by decide) hl h1.rm
          obtain ⟨M2, u1, h2⟩ := mk_say h1 (by omega) (A 2 l)
          obtain ⟨M3, u2, h3⟩ := mk_frac (l := l) (x := rndN V n) (kd := kd) (x10 := bI less) hn n FU _ M2 (Nat.le_refl _) (by unfold FU; omega) (by rw [List.length_append]; simp only [List.length_singleton]; omega) h2
          obtain ⟨M', u3, h4⟩ := s376 _ M3 (by rw [List.length_append, List.length_append, frL_len]; simp only [List.length_singleton]; omega) h3
          refine ⟨M', ?_, ?_⟩
          · rw [if_neg (li_nle 0 n 0 rfl (by omega) (by omega)), rm_gN2 h1.rm, Option.bind_some, a2, Option.bind_some, mk_ck h1, Option.bind_some, u1, Option.bind_some]
            rw [Nat.sub_self, Nat.pow_zero, Nat.mul_one, Nat.sub_zero] at u2
            exact u2.trans u3
          · rw [if_neg h0]
            have e2 : (lnd A l).1 = A 2 l := rfl
            rw [e2]
            simp only [List.append_assoc, List.cons_append, List.nil_append] at h4 ⊢
            exact h4
      obtain ⟨M', r1, r2⟩ := fin
      refine ⟨M', ?_, ?_⟩
      · unfold fX8_makeAmount_219
        have := ten (D - 1) 1 FU (by omega) (by unfold FU; omega) (by decide)
        have t2 : fX8_makeAmount_225 FU m (nI l) kd (nI n) (bI less) (nI (rndN V n / 10 ^ 6)) (nI (rndN V n % 10 ^ 6)) (nI D) 1 1 M = _ := this
        rw [t2, q1', r1]
      · simp only [List.append_assoc] at r2 ⊢
        exact r2
    have s200 : ∀ (L : List Int32) (M : Mem), L.length < 80 → MK m A B N L M → ∃ M', fX8_makeAmount_200 m (nI l) kd (nI n) (bI less) (nI (rndN V n / 10 ^ 6)) (nI (rndN V n % 10 ^ 6)) (nI D) M = some (1, M') ∧ MK m A B N (L ++ ((if decide (kd = 1) = true ∧ A 7 l = 0 then markL (A 6 l) else []) ++ ((digL (lnd A l) (rndN V n / 10 ^ 6) D ++ ptL (lnd A l) (rndN V n) n) ++ ((if decide (kd = 1) = true ∧ ¬ A 7 l = 0 then 32 :: markL (A 6 l) else []) ++ (if less = true ∧ ¬ A 5 l = 0 then [if A 5 l = 1 then 45 else 41] else []))))) M' := by
      intro L M hlen h
      unfold fX8_makeAmount_200
      by_cases hk : kd = 1
      · rw [if_pos hk, rm_gN7 h.rm, Option.bind_some, a7 h, Option.bind_some]
        by_cases hb : A 7 l = 0
        · obtain ⟨M2, q2, h2⟩ := mk_sayMark hl h (by omega) hmk
          obtain ⟨M', r1, r2⟩ := s219 _ M2 (by rw [List.length_append]; simp only [markL, List.length_cons, List.length_nil]; omega) h2
          refine ⟨M', ?_, ?_⟩
          · rw [if_pos hb, mk_ck h, Option.bind_some, q2, Option.bind_some]
            exact r1
          · rw [if_pos (show decide (kd = 1) = true ∧ A 7 l = 0 from ⟨decide_eq_true hk, hb⟩)]
            rw [List.append_assoc] at r2
            exact r2
        · obtain ⟨M', r1, r2⟩ := s219 L M (by omega) h
          refine ⟨M', by rw [if_neg hb]; exact r1, ?_⟩
          rw [if_neg (fun q : decide (kd = 1) = true ∧ A 7 l = 0 => hb q.2), List.nil_append]
          exact r2
      · obtain ⟨M', r1, r2⟩ := s219 L M (by omega) h
        refine ⟨M', by rw [if_neg hk]; exact r1, ?_⟩
        rw [if_neg (fun q : decide (kd = 1) = true ∧ A 7 l = 0 => hk (of_decide_eq_true q.1)), List.nil_append]
        exact r2
    have s147 : ∃ M', (if bI less = 0 then fX8_makeAmount_200 m (nI l) kd (nI n) (bI less) (nI (rndN V n / 10 ^ 6)) (nI (rndN V n % 10 ^ 6)) (nI D) M else (gN M 5 m 5).bind fun v1 => (aI M v1 (nI l)).bind fun v2 => if v2 = 1 then fX8_makeAmount_200 m (nI l) kd (nI n) (bI less) (nI (rndN V n / 10 ^ 6)) (nI (rndN V n % 10 ^ 6)) (nI D) M else (gN M 5 m 5).bind fun v3 => (aI M v3 (nI l)).bind fun v4 => if v4 = 0 then fX8_makeAmount_197 m (nI l) kd (nI n) (bI less) (nI (rndN V n / 10 ^ 6)) (nI (rndN V n % 10 ^ 6)) (nI D) 45 m M else fX8_makeAmount_197 m (nI l) kd (nI n) (bI less) (nI (rndN V n / 10 ^ 6)) (nI (rndN V n % 10 ^ 6)) (nI D) 40 m M) = some (1, M') ∧ MK m A B N (amtL (lnd A l) (decide (kd = 1)) less (rndN V n / 10 ^ 6) (rndN V n) n D) M' := by
      unfold amtL
      have e5 : (lnd A l).2.2.2.1 = A 5 l := rfl
      have e6 : (lnd A l).2.2.2.2.1 = A 6 l := rfl
      have e7 : (lnd A l).2.2.2.2.2.1 = A 7 l := rfl
      rw [e5, e6, e7]
      by_cases hm : less = true ∧ ¬ A 5 l = 1
      · obtain ⟨hm1, hm2⟩ := hm
        obtain ⟨M1, q1, h1⟩ := mk_say hM (by decide) (if A 5 l = 0 then 45 else 40)
        obtain ⟨M', r1, r2⟩ := s200 [if A 5 l = 0 then 45 else 40] M1 (show 1 < 80 by decide) h1
        refine ⟨M', ?_, ?_⟩
        · rw [if_neg (by rw [hm1]; decide), rm_gN5 hM.rm, Option.bind_some, a5 hM, Option.bind_some, if_neg hm2, Option.bind_some, a5 hM, Option.bind_some]
          unfold fX8_makeAmount_197
          by_cases h0 : A 5 l = 0
          · rw [if_pos h0] at q1 ⊢
            rw [mk_ck hM, Option.bind_some, q1, Option.bind_some]
            exact r1
          · rw [if_neg h0] at q1 ⊢
            rw [mk_ck hM, Option.bind_some, q1, Option.bind_some]
            exact r1
        · rw [if_pos (show less = true ∧ ¬ A 5 l = 1 from ⟨hm1, hm2⟩)]
          exact r2
      · obtain ⟨M', r1, r2⟩ := s200 [] M (by decide) hM
        refine ⟨M', ?_, ?_⟩
        · cases less with
          | false => rw [if_pos (by decide)]; exact r1
          | true =>
            have h1 : A 5 l = 1 := Decidable.byContradiction (fun q => hm ⟨rfl, q⟩)
            rw [if_neg (by decide), rm_gN5 hM.rm, Option.bind_some, a5 hM, Option.bind_some, if_pos h1]
            exact r1
        · rw [if_neg hm]
          exact r2
    obtain ⟨M', r1, r2⟩ := s147
    refine ⟨D, M', hD0, ?_, r2⟩
    have hw9 : rndN V n / 10 ^ 6 < 10 ^ 9 := by omega
    have cnt9 : ∀ (e j f : Nat), j + e = D → e < f → 1 ≤ j → fX8_makeAmount_147 f m (nI l) kd (nI n) (bI less) (nI (rndN V n / 10 ^ 6)) (nI (rndN V n % 10 ^ 6)) (nI j) (nI (rndN V n / 10 ^ 6 / 10 ^ j)) M = some (1, M') := by
      intro e
      induction e with
      | zero =>
        intro j f hj hf h1
        obtain ⟨f, rfl⟩ : ∃ g, f = g + 1 := ⟨f - 1, by omega⟩
        have hjD : j = D := by omega
        subst hjD
        rw [fX8_makeAmount_147, if_pos (by rw [Nat.div_eq_of_lt d3]; decide)]
        exact r1
      | succ e ih =>
        intro j f hj hf h1
        obtain ⟨f, rfl⟩ : ∃ g, f = g + 1 := ⟨f - 1, by omega⟩
        have hpos2 : 0 < rndN V n / 10 ^ 6 / 10 ^ j := by
          apply Nat.div_pos _ (Nat.pow_pos (by decide))
          have h2 : 10 ^ (D - 1) ≤ rndN V n / 10 ^ 6 := d4.resolve_left (by omega)
          exact Nat.le_trans (Nat.pow_le_pow_right (by decide) (by omega)) h2
        have hle2 : rndN V n / 10 ^ 6 / 10 ^ j ≤ rndN V n / 10 ^ 6 := Nat.div_le_self _ _
        rw [fX8_makeAmount_147, if_neg (li_nle 0 _ 0 rfl hpos2 (by omega)), nI_1, show nI (rndN V n / 10 ^ 6 / 10 ^ j) / 10 = nI (rndN V n / 10 ^ 6 / 10 ^ j / 10) from pk_div (d := 10) (by omega) (by decide) (by decide), Nat.div_div_eq_div_mul _ (10 ^ j) 10, ← Nat.pow_succ]
        exact ih (j + 1) f (by omega) (by omega) (by omega)
    unfold fX8_makeAmount_117
    have e1 : (lN (rndN V n) / 1000000).toInt32 = nI (rndN V n / 10 ^ 6) := by
      rw [show lN (rndN V n) / 1000000 = lN (rndN V n / 1000000) from pk_lDiv (b := 1000000) (by omega) (by decide) (by decide), lN_i]
    have e2 : (rmL (lN (rndN V n)) 1000000).toInt32 = nI (rndN V n % 10 ^ 6) := by
      rw [show rmL (lN (rndN V n)) 1000000 = lN (rndN V n % 1000000) from pk_lRem (b := 1000000) (by omega) (by decide) (by decide), lN_i]
    rw [e1, e2, show nI (rndN V n / 10 ^ 6) / 10 = nI (rndN V n / 10 ^ 6 / 10) from pk_div (d := 10) (by omega) (by decide) (by decide)]
    have := cnt9 (D - 1) 1 FU (by omega) (by unfold FU; omega) (by decide)
    rw [Nat.pow_one] at this
    exact this
  · refine Or.inr ⟨hx, ?_⟩
    rw [if_neg (fun q => hx (hcmp.mp q)), nz0]
    rfl
end RMAKE2
