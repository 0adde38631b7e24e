/-! ===== the class writes amounts: the whole of one; rounding ===== -/
def DOk (w D : Nat) : Prop := 1 ≤ D ∧ D ≤ 9 ∧ w < 10 ^ D ∧ (D = 1 ∨ 10 ^ (D - 1) ≤ w)
theorem d_ex {w : Nat} (h : w < 10 ^ 9) : ∃ D, DOk w D := by
  unfold DOk
  rcases Nat.lt_or_ge w (10 ^ 1) with q | q1
  · exact ⟨1, by decide, by decide, q, Or.inl rfl⟩
  · rcases Nat.lt_or_ge w (10 ^ 2) with q | q2
    · exact ⟨2, by decide, by decide, q, Or.inr q1⟩
    · rcases Nat.lt_or_ge w (10 ^ 3) with q | q3
      · exact ⟨3, by decide, by decide, q, Or.inr q2⟩
      · rcases Nat.lt_or_ge w (10 ^ 4) with q | q4
        · exact ⟨4, by decide, by decide, q, Or.inr q3⟩
        · rcases Nat.lt_or_ge w (10 ^ 5) with q | q5
          · exact ⟨5, by decide, by decide, q, Or.inr q4⟩
          · rcases Nat.lt_or_ge w (10 ^ 6) with q | q6
            · exact ⟨6, by decide, by decide, q, Or.inr q5⟩
            · rcases Nat.lt_or_ge w (10 ^ 7) with q | q7
              · exact ⟨7, by decide, by decide, q, Or.inr q6⟩
              · rcases Nat.lt_or_ge w (10 ^ 8) with q | q8
                · exact ⟨8, by decide, by decide, q, Or.inr q7⟩
                · exact ⟨9, by decide, by decide, h, Or.inr q8⟩
def amtL (v : L8) (money less : Bool) (w x n D : Nat) : List Int32 :=
  (if less = true ∧ ¬ v.2.2.2.1 = 1 then [if v.2.2.2.1 = 0 then 45 else 40] else []) ++
  ((if money = true ∧ v.2.2.2.2.2.1 = 0 then markL v.2.2.2.2.1 else []) ++
  ((digL v w D ++ ptL v x n) ++
  ((if money = true ∧ ¬ v.2.2.2.2.2.1 = 0 then 32 :: markL v.2.2.2.2.1 else []) ++
  (if less = true ∧ ¬ v.2.2.2.1 = 0 then [if v.2.2.2.1 = 1 then 45 else 41] else []))))
theorem cmp_ge (x y : Int64) : 0 ≤ lg_cmp x y ↔ ¬ x < y := by
  have h := cmp_lt x y
  constructor
  · intro q hq
    exact absurd (h.mpr hq) (Int32.not_lt.mpr q)
  · intro q
    exact Int32.not_lt.mp (fun hq => q (h.mp hq))
theorem lN_neg {x : Nat} (h0 : 0 < x) (h : x < 2 ^ 62) : - lN x < 0 := by
  rw [Int64.lt_iff_toInt_lt]
  have h1 : (lN x).toInt = (x : Int) := pk_lT (by omega)
  have h2 : (- lN x).toInt = - (x : Int) := by
    rw [Int64.toInt_neg, h1]
    rw [Int.bmod_eq_of_le (by omega) (by omega)]
  rw [h2]
  have h3 : (0 : Int64).toInt = 0 := by decide
  rw [h3]
  omega
theorem lN_nn {x : Nat} (h : x < 2 ^ 62) : ¬ lN x < 0 := by
  intro q
  have := (pk_lLT (a := x) (b := 0) (by omega) (by decide)).mp q
  omega
theorem e_abs {x : Nat} (h : x < 2 ^ 62) (less : Bool) (hl : less = true → 0 < x) (M : Mem) : fJ9_abs_067f4 (if less = true then - lN x else lN x) M = some (lN x, M) := by
  unfold fJ9_abs_067f4 fJ9_abs_067f4_12
  cases less with
  | true =>
    rw [if_pos rfl, if_neg (fun q => (cmp_ge _ _).mp q (lN_neg (hl rfl) h))]
    rw [Int64.neg_neg]
  | false =>
    have e : (if false = true then - lN x else lN x) = lN x := rfl
    rw [e, if_pos ((cmp_ge _ _).mpr (lN_nn h))]
section CWAMT2
variable {t la : Nat} {v : L8} {M0 : Mem}
theorem cw_num {w x n D : Nat} (hx : x < 2 ^ 62) (hwx : ∀ i, x / 10 ^ (6 + i) % 10 = w / 10 ^ i % 10) (hD : DOk w D) (hn : n ≤ 6) (h : LA t la v M0) (L : List Int32) (M : Mem) (hl : L.length < 50) (hc : CW t M0 L M) : ∃ M', fX6_addNumber t la (lN x) (nI n) M = some M' ∧ CW t M0 (L ++ (digL v w D ++ ptL v x n)) M' := by
  obtain ⟨d1, d2, d3, d4⟩ := hD
  obtain ⟨M', q1, q2⟩ := cw_whole (w := w) hx hwx hn h D FU L M d2 (by unfold FU; omega) (by omega) hc
  refine ⟨M', ?_, q2⟩
  have e5 : nI (6 + D) + (-1) = nI (5 + D) := by rw [show 6 + D = (5 + D) + 1 by omega, pk_m1]
  rw [e5] at q1
  have loop : ∀ (e f : Nat), D + e ≤ 9 → e < f → fX6_addNumber_4 f t la (lN x) (nI n) (nI (5 + (D + e))) M = some M' := by
    intro e
    induction e with
    | zero =>
      intro f he hf
      obtain ⟨f, rfl⟩ : ∃ g, f = g + 1 := ⟨f - 1, by omega⟩
      rw [fX6_addNumber_4, Nat.add_zero]
      unfold fX6_addNumber_26
      by_cases hD1 : D = 1
      · rw [if_pos (li_le 6 _ 6 rfl (by omega) (by decide)), q1]
      · have hdig : w / 10 ^ (D - 1) % 10 ≠ 0 := by
          have h1 : 10 ^ (D - 1) ≤ w := d4.resolve_left hD1
          have h2 : 0 < w / 10 ^ (D - 1) := Nat.div_pos h1 (Nat.pow_pos (by decide))
          have h3 : w / 10 ^ (D - 1) < 10 := by
            apply Nat.div_lt_of_lt_mul
            rw [← Nat.pow_succ, show (D - 1).succ = D by omega]
            exact d3
          omega
        have hw := hwx (D - 1)
        rw [show 6 + (D - 1) = 5 + D by omega] at hw
        rw [if_neg (li_nle 6 _ 6 rfl (by omega) (by omega)), e_digit hx M _ (by omega), Option.bind_some, hw]
        dsimp only
        rw [if_neg (fun q => hdig ((nI_z (by omega)).mp q)), q1]
    | succ e ih =>
      intro f he hf
      obtain ⟨f, rfl⟩ : ∃ g, f = g + 1 := ⟨f - 1, by omega⟩
      have hw := hwx (D + e)
      have hz : w / 10 ^ (D + e) % 10 = 0 := by
        have : w < 10 ^ (D + e) := Nat.lt_of_lt_of_le d3 (Nat.pow_le_pow_right (by decide) (by omega))
        rw [Nat.div_eq_of_lt this]
      rw [show 6 + (D + e) = 5 + (D + (e + 1)) by omega, hz] at hw
      rw [fX6_addNumber_4, if_neg (li_nle 6 _ 6 rfl (by omega) (by omega)), e_digit hx M _ (by omega), Option.bind_some, hw]
      dsimp only
      rw [if_pos (show nI 0 = 0 from rfl), show 5 + (D + (e + 1)) = 5 + (D + e) + 1 by omega, pk_m1, ih f (by omega) (by omega)]
  unfold fX6_addNumber
  have := loop (9 - D) FU (by omega) (by unfold FU; omega)
  rw [show 5 + (D + (9 - D)) = 14 by omega] at this
  exact this
theorem cw_amount {w x n D : Nat} (hx : x < 2 ^ 62) (hwx : ∀ i, x / 10 ^ (6 + i) % 10 = w / 10 ^ i % 10) (hD : DOk w D) (hn : n ≤ 6) (h : LA t la v M0) (hv : L8Ok v) (money less : Bool) (hl : less = true → 0 < x) {n0 : Nat} {L0 : Nat → Int32} (hT : TX t 100 n0 L0 M0) : ∃ M', fX6_writeAmount t la (bI money) (if less = true then - lN x else lN x) (nI n) M0 = some M' ∧ CW t M0 (amtL v money less w x n D) M' := by
  obtain ⟨M1, e1, t1, g1⟩ := tx_empty hT (lf [])
  have c1 : CW t M0 [] M1 := ⟨t1, g1⟩
  have hmn := hv.2.2.1
  have lc : ∀ {M : Mem} {L : List Int32}, CW t M0 L M → M.2.1 la = some (.inr (0, [.int v.1, .int v.2.1, .int v.2.2.1, .int v.2.2.2.1, .int v.2.2.2.2.1, .int v.2.2.2.2.2.1, .int v.2.2.2.2.2.2.1, .int v.2.2.2.2.2.2.2])) := fun hc => la_at h hc
  have g5 : ∀ {M : Mem} {L : List Int32}, CW t M0 L M → gI M 0 la 5 = some v.2.2.2.2.2.1 := fun hc => by simp [gI, gF, la_at h hc, lcell, vI]
  have hdl := digL_len v w D
  have hpl : (ptL v x n).length ≤ 7 := by
    unfold ptL
    split
    · exact Nat.zero_le _
    · rw [List.length_cons, frL_len]; omega
  have d9 := hD.2.1
  -- the end
  have s87 : ∀ (L : List Int32) (M : Mem), L.length < 90 → CW t M0 L M → ∃ M', fX6_writeAmount_87 t la (bI less) M = some M' ∧ CW t M0 (L ++ (if less = true ∧ ¬ v.2.2.2.1 = 0 then [if v.2.2.2.1 = 1 then 45 else 41] else [])) M' := by
    intro L M hlen hc
    unfold fX6_writeAmount_87 fX6_writeAmount_108
    cases less with
    | false =>
      refine ⟨M, by rw [if_pos (by decide)], ?_⟩
      rw [if_neg (fun q => by cases q.1), List.append_nil]
      exact hc
    | true =>
      rw [if_neg (by decide), la_ck h hc, Option.bind_some, e_mnB M (lc hc), Option.bind_some]
      dsimp only
      by_cases h0 : v.2.2.2.1 = 0
      · refine ⟨M, ?_, ?_⟩
        · rw [if_pos (by unfold mnB; rw [if_pos h0])]
        · rw [if_neg (fun q => q.2 h0), List.append_nil]
          exact hc
      · obtain ⟨M', q1, q2⟩ := cw_add hc (by omega) (mnB v.2.2.2.1)
        refine ⟨M', ?_, ?_⟩
        · rw [if_neg (by unfold mnB; rw [if_neg h0]; split <;> decide), la_ck h hc, Option.bind_some, e_mnB M (lc hc), Option.bind_some]
          dsimp only
          rw [cw_ck hc, Option.bind_some, q1, Option.bind_some]
        · rw [if_pos ⟨rfl, h0⟩]
          have e : (if v.2.2.2.1 = 1 then (45 : Int32) else 41) = mnB v.2.2.2.1 := by
            unfold mnB
            rw [if_neg h0]
            rcases hmn with q | q | q
            · exact absurd q h0
            · rw [q]; decide
            · rw [q]; decide
          rw [e]
          exact q2
  -- the number and what stands behind it
  have s54 : ∀ (L : List Int32) (M : Mem), L.length < 40 → CW t M0 L M → ∃ M', fX6_writeAmount_54 t la (bI money) (if less = true then - lN x else lN x) (nI n) (bI less) M = some M' ∧ CW t M0 (L ++ ((digL v w D ++ ptL v x n) ++ ((if money = true ∧ ¬ v.2.2.2.2.2.1 = 0 then 32 :: markL v.2.2.2.2.1 else []) ++ (if less = true ∧ ¬ v.2.2.2.1 = 0 then [if v.2.2.2.1 = 1 then 45 else 41] else [])))) M' := by
    intro L M hlen hc
    obtain ⟨M2, q1, q2⟩ := cw_num hx hwx hD hn h L M (by omega) hc
    have hl2 : (L ++ (digL v w D ++ ptL v x n)).length < 66 := by
      rw [List.length_append, List.length_append]; omega
    unfold fX6_writeAmount_54
    rw [e_abs hx less hl M, Option.bind_some]
    dsimp only
    rw [q1, Option.bind_some]
    cases money with
    | false =>
      rw [if_pos (by decide)]
      obtain ⟨M', r1, r2⟩ := s87 _ M2 (by omega) q2
      refine ⟨M', r1, ?_⟩
      rw [if_neg (fun q : false = true ∧ ¬ v.2.2.2.2.2.1 = 0 => by cases q.1), List.nil_append]
      rw [List.append_assoc] at r2
      exact r2
    | true =>
      rw [if_neg (by decide), g5 q2, Option.bind_some]
      by_cases hb : v.2.2.2.2.2.1 = 0
      · rw [if_pos hb]
        obtain ⟨M', r1, r2⟩ := s87 _ M2 (by omega) q2
        refine ⟨M', r1, ?_⟩
        rw [if_neg (fun q : true = true ∧ ¬ v.2.2.2.2.2.1 = 0 => q.2 hb), List.nil_append]
        rw [List.append_assoc] at r2
        exact r2
      · rw [if_neg hb]
        obtain ⟨M3, r1, r2⟩ := cw_add q2 (by omega) 32
        obtain ⟨M4, u1, u2⟩ := cw_mark h r2 (by rw [List.length_append]; simp only [List.length_singleton]; omega)
        obtain ⟨M', w1, w2⟩ := s87 _ M4 (by rw [List.length_append, List.length_append]; simp only [List.length_singleton, markL, List.length_cons, List.length_nil]; omega) u2
        refine ⟨M', ?_, ?_⟩
        · rw [cw_ck q2, Option.bind_some, r1, Option.bind_some, u1, Option.bind_some, w1]
        · rw [if_pos ⟨rfl, hb⟩]
          simp only [List.append_assoc, List.cons_append, List.nil_append] at w2 ⊢
          exact w2
  -- the mark ahead
  have s38 : ∀ (L : List Int32) (M : Mem), L.length < 20 → CW t M0 L M → ∃ M', fX6_writeAmount_38 t la (bI money) (if less = true then - lN x else lN x) (nI n) (bI less) M = some M' ∧ CW t M0 (L ++ ((if money = true ∧ v.2.2.2.2.2.1 = 0 then markL v.2.2.2.2.1 else []) ++ ((digL v w D ++ ptL v x n) ++ ((if money = true ∧ ¬ v.2.2.2.2.2.1 = 0 then 32 :: markL v.2.2.2.2.1 else []) ++ (if less = true ∧ ¬ v.2.2.2.1 = 0 then [if v.2.2.2.1 = 1 then 45 else 41] else []))))) M' := by
    intro L M hlen hc
    unfold fX6_writeAmount_38
    by_cases hm : money = true ∧ v.2.2.2.2.2.1 = 0
    · obtain ⟨hm1, hm2⟩ := hm
      obtain ⟨M2, q1, q2⟩ := cw_mark h hc (by omega)
      obtain ⟨M', r1, r2⟩ := s54 _ M2 (by rw [List.length_append]; simp only [markL, List.length_cons, List.length_nil]; omega) q2
      refine ⟨M', ?_, ?_⟩
      · rw [if_neg (by rw [hm1]; decide), g5 hc, Option.bind_some, if_pos hm2, q1, Option.bind_some, r1]
      · rw [if_pos ⟨hm1, hm2⟩]
        rw [List.append_assoc] at r2
        exact r2
    · obtain ⟨M', r1, r2⟩ := s54 L M (by omega) hc
      refine ⟨M', ?_, ?_⟩
      · cases money with
        | false => rw [if_pos (by decide), r1]
        | true => rw [if_neg (by decide), g5 hc, Option.bind_some, if_neg (fun q => hm ⟨rfl, q⟩), r1]
      · rw [if_neg hm, List.nil_append]
        exact r2
  have s11 : ∃ M', fX6_writeAmount_11 t la (bI money) (if less = true then - lN x else lN x) (nI n) (bI less) M0 = some M' ∧ CW t M0 (amtL v money less w x n D) M' := by
    unfold fX6_writeAmount_11 amtL
    rw [tx_ck hT, Option.bind_some, e1, Option.bind_some]
    by_cases hm : less = true ∧ ¬ v.2.2.2.1 = 1
    · obtain ⟨hm1, hm2⟩ := hm
      obtain ⟨M2, q1, q2⟩ := cw_add c1 (by decide) (mnA v.2.2.2.1)
      obtain ⟨M', r1, r2⟩ := s38 [mnA v.2.2.2.1] M2 (show 1 < 20 by decide) q2
      refine ⟨M', ?_, ?_⟩
      · rw [if_neg (by rw [hm1]; decide), la_ck h c1, Option.bind_some, e_mnA M1 (lc c1), Option.bind_some]
        dsimp only
        rw [if_neg (by unfold mnA; rw [if_neg hm2]; split <;> decide), la_ck h c1, Option.bind_some, e_mnA M1 (lc c1), Option.bind_some]
        dsimp only
        rw [cw_ck c1, Option.bind_some, q1, Option.bind_some, r1]
      · rw [if_pos ⟨hm1, hm2⟩]
        have e : (if v.2.2.2.1 = 0 then (45 : Int32) else 40) = mnA v.2.2.2.1 := by
          unfold mnA
          rw [if_neg hm2]
          rcases hmn with q | q | q
          · rw [q]; decide
          · exact absurd q hm2
          · rw [q]; decide
        rw [e]
        exact r2
    · obtain ⟨M', r1, r2⟩ := s38 [] M1 (by decide) c1
      refine ⟨M', ?_, ?_⟩
      · cases less with
        | false => rw [if_pos (by decide), r1]
        | true =>
          have h1 : v.2.2.2.1 = 1 := Decidable.byContradiction (fun q => hm ⟨rfl, q⟩)
          rw [if_neg (by decide), la_ck h c1, Option.bind_some, e_mnA M1 (lc c1), Option.bind_some]
          dsimp only
          rw [if_pos (by unfold mnA; rw [if_pos h1]), r1]
      · rw [if_neg hm]
        exact r2
  obtain ⟨M', r1, r2⟩ := s11
  refine ⟨M', ?_, r2⟩
  unfold fX6_writeAmount
  cases less with
  | true => rw [if_neg (fun q => (cmp_ge _ _).mp q (by rw [if_pos rfl]; exact lN_neg (hl rfl) hx))]; exact r1
  | false => rw [if_pos ((cmp_ge _ _).mpr (by rw [if_neg (by decide)]; exact lN_nn hx))]; exact r1
end CWAMT2
/-- an amount rounded to so many places -/
def rndN (V n : Nat) : Nat := (V + 10 ^ (6 - n) / 2) / 10 ^ (6 - n) * 10 ^ (6 - n)
theorem e_rounded {V n : Nat} (hV : V < 2 ^ 60) (hn : n ≤ 6) (neg : Bool) (hneg : neg = true → 0 < V) (M : Mem) : fX6_rounded (if neg = true then - lN V else lN V) (nI n) M = some (if neg = true then - lN (rndN V n) else lN (rndN V n), M) := by
  have up : ∀ (d i f x : Nat), i + d = 6 → d < f → fX6_rounded_53 f (if neg = true then - lN V else lN V) (lN x) (nI i) M = some (if neg = true then - lN (x * 10 ^ d) else lN (x * 10 ^ d), M) := by
    intro d
    induction d with
    | zero =>
      intro i f x hi hf
      obtain ⟨f, rfl⟩ : ∃ g, f = g + 1 := ⟨f - 1, by omega⟩
      rw [fX6_rounded_53, if_pos (li_ge 6 i 6 rfl (by omega) (by omega)), Nat.pow_zero, Nat.mul_one]
      unfold fX6_rounded_84
      cases neg with
      | true => rw [if_neg (fun q => (cmp_ge _ _).mp q (by rw [if_pos rfl]; exact lN_neg (hneg rfl) (by omega)))]; rfl
      | false => rw [if_pos ((cmp_ge _ _).mpr (by rw [if_neg (by decide)]; exact lN_nn (by omega)))]; rfl
    | succ d ih =>
      intro i f x hi hf
      obtain ⟨f, rfl⟩ : ∃ g, f = g + 1 := ⟨f - 1, by omega⟩
      rw [fX6_rounded_53, if_neg (li_nge 6 i 6 rfl (by omega) (by decide)), show lN x * 10 = lN (x * 10) from lN_mul x 10, nI_1, ih (i + 1) f (x * 10) (by omega) (by omega), Nat.pow_succ, Nat.mul_assoc, Nat.mul_comm 10]
  have down : ∀ (d i f x l : Nat), i + d = 6 → d < f → x < 2 ^ 60 → l < 10 → fX6_rounded_11 f (if neg = true then - lN V else lN V) (nI n) (lN x) (lN l) (nI i) M = some (if neg = true then - lN ((x / 10 ^ d + (if (if d = 0 then l else x / 10 ^ (d - 1) % 10) < 5 then 0 else 1)) * 10 ^ (6 - n)) else lN ((x / 10 ^ d + (if (if d = 0 then l else x / 10 ^ (d - 1) % 10) < 5 then 0 else 1)) * 10 ^ (6 - n)), M) := by
    intro d
    induction d with
    | zero =>
      intro i f x l hi hf hx hl
      obtain ⟨f, rfl⟩ : ∃ g, f = g + 1 := ⟨f - 1, by omega⟩
      rw [fX6_rounded_11, if_pos (li_ge 6 i 6 rfl (by omega) (by omega)), Nat.pow_zero, Nat.div_one, if_pos rfl]
      unfold fX6_rounded_50
      have hu := fun y => up (6 - n) n FU y (by omega) (by unfold FU; omega)
      have h5e : lg_cmp (lN l) 5 < 0 ↔ l < 5 := (cmp_lt _ _).trans (pk_lLT (b := 5) (by omega) (by decide))
      by_cases h5 : l < 5
      · rw [if_pos (h5e.mpr h5), if_pos h5, Nat.add_zero]
        exact hu x
      · rw [if_neg (fun q => h5 (h5e.mp q)), if_neg h5, show lN x + 1 = lN (x + 1) from lN_1 x]
        exact hu (x + 1)
    | succ d ih =>
      intro i f x l hi hf hx hl
      obtain ⟨f, rfl⟩ : ∃ g, f = g + 1 := ⟨f - 1, by omega⟩
      have e1 : lN x / 10 = lN (x / 10) := pk_lDiv (b := 10) (by omega) (by decide) (by decide)
      have e2 : rmL (lN x) 10 = lN (x % 10) := pk_lRem (b := 10) (by omega) (by decide) (by decide)
      rw [fX6_rounded_11, if_neg (li_nge 6 i 6 rfl (by omega) (by decide)), e1, e2, nI_1, ih (i + 1) f (x / 10) (x % 10) (by omega) (by omega) (by omega) (Nat.mod_lt _ (by decide))]
      have e3 : x / 10 / 10 ^ d = x / 10 ^ (d + 1) := by rw [Nat.div_div_eq_div_mul, Nat.pow_succ, Nat.mul_comm 10]
      have e4 : (if d = 0 then x % 10 else x / 10 / 10 ^ (d - 1) % 10) = (if d + 1 = 0 then l else x / 10 ^ (d + 1 - 1) % 10) := by
        rw [if_neg (show ¬ d + 1 = 0 by omega), Nat.add_sub_cancel]
        by_cases hd : d = 0
        · rw [if_pos hd, hd, Nat.pow_zero, Nat.div_one]
        · rw [if_neg hd, Nat.div_div_eq_div_mul, Nat.mul_comm 10, ← Nat.pow_succ, show (d - 1).succ = d by omega]
      rw [e3, e4]
  have hr : (V / 10 ^ (6 - n) + (if (if 6 - n = 0 then 0 else V / 10 ^ (6 - n - 1) % 10) < 5 then 0 else 1)) * 10 ^ (6 - n) = rndN V n := by
    unfold rndN
    congr 1
    rcases (show n = 0 ∨ n = 1 ∨ n = 2 ∨ n = 3 ∨ n = 4 ∨ n = 5 ∨ n = 6 by omega) with rfl | rfl | rfl | rfl | rfl | rfl | rfl
    all_goals simp
    all_goals (try split <;> omega)
  unfold fX6_rounded
  rw [e_abs (by omega) neg hneg M, Option.bind_some]
  dsimp only
  have := down (6 - n) n FU V 0 (by omega) (by unfold FU; omega) (by omega) (by decide)
  rw [hr] at this
  exact this
