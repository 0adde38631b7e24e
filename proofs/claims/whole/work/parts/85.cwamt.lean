/-! ===== the class writes amounts ===== -/
def lf (L : List Int32) : Nat → Int32 := fun k => L.getD k 0
def CW (t : Nat) (M0 : Mem) (L : List Int32) (M : Mem) : Prop := TX t 100 L.length (lf L) M ∧ Chg t (t + 1) M0 M
theorem lf_app (L : List Int32) (x : Int32) : ∀ k, k < L.length + 1 → upd (lf L) L.length x k = lf (L ++ [x]) k := by
  intro k hk
  unfold lf
  by_cases he : k = L.length
  · rw [he, pk_us, List.getD_eq_getElem?_getD, List.getElem?_append_right (Nat.le_refl _), Nat.sub_self]
    rfl
  · rw [pk_un he, List.getD_eq_getElem?_getD, List.getD_eq_getElem?_getD, List.getElem?_append_left (by omega)]
theorem cw_add {t : Nat} {M0 M : Mem} {L : List Int32} (h : CW t M0 L M) (hl : L.length < 100) (x : Int32) : ∃ M', fX4_add t x M = some M' ∧ CW t M0 (L ++ [x]) M' := by
  obtain ⟨M', q1, q2, q3⟩ := tx_add h.1 (by decide) hl x
  refine ⟨M', q1, ?_, h.2.trans q3⟩
  have q2' := tx_congr q2 (lf_app L x)
  rw [List.length_append]
  exact q2'
theorem cw_ck {t : Nat} {M0 M : Mem} {L : List Int32} (h : CW t M0 L M) : ck M 3 t = some () := tx_ck h.1
/-- a land's object while a text is written -/
def LA (t la : Nat) (v : L8) (M0 : Mem) : Prop := M0.2.1 la = some (lcell v) ∧ la < M0.1 ∧ ¬ la = t ∧ ¬ la = t + 1
theorem la_at {t la : Nat} {v : L8} {M0 M : Mem} {L : List Int32} (h : LA t la v M0) (hc : CW t M0 L M) : M.2.1 la = some (lcell v) := (hc.2.2.2 la h.2.1 (by obtain ⟨-, -, h3, h4⟩ := h; omega)).trans h.1
theorem la_ck {t la : Nat} {v : L8} {M0 M : Mem} {L : List Int32} (h : LA t la v M0) (hc : CW t M0 L M) : ck M 0 la = some () := by simp [ck, la_at h hc, lcell]
def markL (mk : Int32) : List Int32 := [mbyte mk 0, mbyte mk 1, mbyte mk 2]
section CWAMT
variable {t la : Nat} {v : L8} {M0 : Mem}
theorem cw_mark {M : Mem} {L : List Int32} (h : LA t la v M0) (hc : CW t M0 L M) (hl : L.length < 90) : ∃ M', fX6_addMark t la M = some M' ∧ CW t M0 (L ++ markL v.2.2.2.2.1) M' := by
  have g4 : ∀ {M : Mem} {L : List Int32}, CW t M0 L M → gI M 0 la 4 = some v.2.2.2.2.1 := fun hc => by simp [gI, gF, la_at h hc, lcell, vI]
  have st : ∀ (f i : Nat) (L : List Int32) (M : Mem), i < 3 → L.length < 99 → CW t M0 L M → ∃ M', fX6_addMark_2 (f + 1) t la (nI i) M = fX6_addMark_2 f t la (nI (i + 1)) M' ∧ CW t M0 (L ++ [mbyte v.2.2.2.2.1 i]) M' := by
    intro f i L M hi hl hc
    obtain ⟨M', q1, q2⟩ := cw_add hc (by omega) (mbyte v.2.2.2.2.1 i)
    refine ⟨M', ?_, q2⟩
    have e : fX1_markByte la (nI i) M = some (mbyte v.2.2.2.2.1 i, M) := by
      unfold fX1_markByte fX7_byteOf mbyte
      rw [g4 hc, Option.bind_some, nI_1]
      rfl
    rw [fX6_addMark_2, if_neg (li_nge 3 i 3 rfl hi (by decide)), la_ck h hc, Option.bind_some, e, Option.bind_some]
    dsimp only
    rw [cw_ck hc, Option.bind_some, q1, Option.bind_some, nI_1]
  obtain ⟨M1, e1, h1⟩ := st 99999 0 L M (by decide) (by omega) hc
  obtain ⟨M2, e2, h2⟩ := st 99998 1 _ M1 (by decide) (by rw [List.length_append]; simp; omega) h1
  obtain ⟨M3, e3, h3⟩ := st 99997 2 _ M2 (by decide) (by rw [List.length_append, List.length_append]; simp; omega) h2
  refine ⟨M3, ?_, ?_⟩
  · unfold fX6_addMark
    have e1' : fX6_addMark_2 FU t la 0 M = _ := e1
    rw [e1']
    refine e2.trans (e3.trans ?_)
    rw [fX6_addMark_2, if_pos (by decide)]
  · rw [List.append_assoc, List.append_assoc] at h3
    exact h3
theorem e_digit {s : Nat} (hs : s < 2 ^ 62) (M : Mem) : ∀ p, p < 100 → fX6_digitOf (lN s) (nI p) M = some (nI (s / 10 ^ p % 10), M) := by
  intro p hp
  have loop : ∀ (d i f x : Nat), i + d = p → d < f → x < 2 ^ 62 → fX6_digitOf_5 f (nI p) (lN x) (nI i) M = some (nI (x / 10 ^ d % 10), M) := by
    intro d
    induction d with
    | zero =>
      intro i f x hi hf hx
      obtain ⟨f, rfl⟩ : ∃ g, f = g + 1 := ⟨f - 1, by omega⟩
      have e : rmL (lN x) 10 = lN (x % 10) := pk_lRem (b := 10) (by omega) (by decide) (by decide)
      rw [fX6_digitOf_5, if_pos (nI_le (by omega) (by omega)), e, lN_i, Nat.pow_zero, Nat.div_one]
    | succ d ih =>
      intro i f x hi hf hx
      obtain ⟨f, rfl⟩ : ∃ g, f = g + 1 := ⟨f - 1, by omega⟩
      have e : lN x / 10 = lN (x / 10) := pk_lDiv (b := 10) (by omega) (by decide) (by decide)
      rw [fX6_digitOf_5, if_neg (nI_ge (by omega) (by omega)), e, nI_1, ih (i + 1) f (x / 10) (by omega) (by omega) (by omega), Nat.div_div_eq_div_mul, Nat.pow_succ, Nat.mul_comm 10]
  unfold fX6_digitOf
  exact loop p 0 FU s (by omega) (by unfold FU; omega) hs
/-- whether a group sign stands with so many digits to come -/
def gsB (v : L8) (i : Nat) : Bool := decide (¬ v.2.1 = 0 ∧ 3 ≤ i ∧ (if v.2.2.1 = 0 then i % 3 = 0 else i % 2 = 1))
theorem e_groups {M : Mem} {L : List Int32} (h : LA t la v M0) (hc : CW t M0 L M) {i : Nat} (hi : i < 100) : fX1_groupsAhead la (nI i) M = some (bI (gsB v i), M) := by
  have g1 : gI M 0 la 1 = some v.2.1 := by simp [gI, gF, la_at h hc, lcell, vI]
  have g2 : gI M 0 la 2 = some v.2.2.1 := by simp [gI, gF, la_at h hc, lcell, vI]
  have r3 : rmI (nI i) 3 = nI (i % 3) := rmI_nI (d := 3) (by omega) (by decide) (by decide)
  have r2 : rmI (nI i) 2 = nI (i % 2) := rmI_nI (d := 2) (by omega) (by decide) (by decide)
  unfold fX1_groupsAhead fX1_groupsAhead_12 fX1_groupsAhead_47 gsB
  rw [g1, Option.bind_some, nz0, nz1]
  by_cases h1 : v.2.1 = 0
  · simp [h1, bI]
  · rw [if_neg h1]
    by_cases h3 : 3 ≤ i
    · rw [if_pos (li_ge 3 i 3 rfl h3 (by omega)), g2, Option.bind_some, r3, r2]
      have z3 := nI_z (a := i % 3) (by omega)
      have z2 := nI_lit (a := i % 2) (by omega) (b := 1) (by decide) (x := 1) rfl
      by_cases ht : v.2.2.1 = 0
      · rw [if_pos ht]
        by_cases hm : i % 3 = 0
        · rw [if_pos (z3.mpr hm)]; simp [h1, h3, ht, hm, bI]
        · rw [if_neg (fun q => hm (z3.mp q))]; simp [ht, hm, bI]
      · rw [if_neg ht]
        by_cases hm : i % 2 = 1
        · rw [if_pos (z2.mpr hm)]; simp [h1, h3, ht, hm, bI]
        · rw [if_neg (fun q => hm (z2.mp q))]; simp [ht, hm, bI]
    · rw [if_neg (li_nge 3 i 3 rfl (by omega) (by decide))]
      simp [h3, bI]
/-- the digits of a whole number, with its signs -/
def digL (v : L8) (w : Nat) : Nat → List Int32
  | 0 => []
  | i + 1 => nI (48 + w / 10 ^ i % 10) :: ((if gsB v i = true then [v.2.1] else []) ++ digL v w i)
theorem digL_len (v : L8) (w i : Nat) : (digL v w i).length ≤ 2 * i := by
  induction i with
  | zero => exact Nat.le_refl _
  | succ i ih =>
    simp only [digL, List.length_cons, List.length_append]
    split <;> simp <;> omega
/-- the places behind the point -/
def frL (x n : Nat) : Nat → List Int32
  | 0 => []
  | k + 1 => nI (48 + x / 10 ^ (5 - (n - (k + 1))) % 10) :: frL x n k
theorem frL_len (x n k : Nat) : (frL x n k).length = k := by
  induction k with
  | zero => rfl
  | succ k ih => simp only [frL, List.length_cons, ih]
def ptL (v : L8) (x n : Nat) : List Int32 := if n = 0 then [] else v.1 :: frL x n n
theorem cw_frac {x n : Nat} (hx : x < 2 ^ 62) (hn : n ≤ 6) : ∀ (k f : Nat) (L : List Int32) (M : Mem), k ≤ n → k < f → L.length + k < 100 → CW t M0 L M → ∃ M', fX6_addNumber_92 f t (lN x) (nI n) (nI (6 - n + k) + (-1)) M = some M' ∧ CW t M0 (L ++ frL x n k) M' := by
  have e6 : (6 : Int32) - nI n = nI (6 - n) := pk_sub (a := 6) hn
  intro k
  induction k with
  | zero =>
    intro f L M hk hf hl hc
    obtain ⟨f, rfl⟩ : ∃ g, f = g + 1 := ⟨f - 1, by omega⟩
    refine ⟨M, ?_, by rw [frL, List.append_nil]; exact hc⟩
    rw [fX6_addNumber_92, e6, Nat.add_zero]
    rcases Nat.eq_zero_or_pos (6 - n) with q | q
    · rw [q, if_pos (by decide)]
    · rw [show 6 - n = (6 - n - 1) + 1 by omega, pk_m1, if_pos (nI_lt (by omega) (by omega))]
  | succ k ih =>
    intro f L M hk hf hl hc
    obtain ⟨f, rfl⟩ : ∃ g, f = g + 1 := ⟨f - 1, by omega⟩
    obtain ⟨M1, q1, q2⟩ := cw_add hc (by omega) (nI (48 + x / 10 ^ (6 - n + k) % 10))
    obtain ⟨M', r1, r2⟩ := ih f (L ++ [nI (48 + x / 10 ^ (6 - n + k) % 10)]) M1 (by omega) (by omega) (by rw [List.length_append]; simp; omega) q2
    refine ⟨M', ?_, ?_⟩
    · rw [fX6_addNumber_92, e6, show 6 - n + (k + 1) = (6 - n + k) + 1 by omega, pk_m1, if_neg (nI_nlt (by omega) (by omega)), e_digit hx M _ (by omega), Option.bind_some]
      dsimp only
      rw [cw_ck hc, Option.bind_some, show (48 : Int32) + nI (x / 10 ^ (6 - n + k) % 10) = nI (48 + x / 10 ^ (6 - n + k) % 10) from nI_add 48 _, q1, Option.bind_some, r1]
    · rw [List.append_assoc] at r2
      rw [frL, show 5 - (n - (k + 1)) = 6 - n + k by omega]
      exact r2
theorem cw_whole {w x n : Nat} (hx : x < 2 ^ 62) (hwx : ∀ i, x / 10 ^ (6 + i) % 10 = w / 10 ^ i % 10) (hn : n ≤ 6) (h : LA t la v M0) : ∀ (i f : Nat) (L : List Int32) (M : Mem), i ≤ 9 → i < f → L.length + 2 * i + 8 < 100 → CW t M0 L M → ∃ M', fX6_addNumber_30 f t la (lN x) (nI n) (nI (6 + i) + (-1)) M = some M' ∧ CW t M0 (L ++ (digL v w i ++ ptL v x n)) M' := by
  intro i
  induction i with
  | zero =>
    intro f L M hi hf hl hc
    obtain ⟨f, rfl⟩ : ∃ g, f = g + 1 := ⟨f - 1, by omega⟩
    rw [fX6_addNumber_30, if_pos (by decide)]
    unfold fX6_addNumber_89 ptL
    by_cases h0 : n = 0
    · subst h0
      rw [if_pos (by decide), if_pos rfl]
      obtain ⟨M', q1, q2⟩ := cw_frac (t := t) (M0 := M0) hx hn 0 FU L M (Nat.le_refl _) (by unfold FU; omega) (by omega) hc
      refine ⟨M', ?_, ?_⟩
      · exact q1
      · exact q2
    · rw [if_neg (li_nle 0 n 0 rfl (by omega) (by omega)), if_neg h0]
      have g0 : gI M 0 la 0 = some v.1 := by simp [gI, gF, la_at h hc, lcell, vI]
      obtain ⟨M1, q1, q2⟩ := cw_add hc (by omega) v.1
      obtain ⟨M', r1, r2⟩ := cw_frac (t := t) (M0 := M0) hx hn n FU (L ++ [v.1]) M1 (Nat.le_refl _) (by unfold FU; omega) (by rw [List.length_append]; simp; omega) q2
      refine ⟨M', ?_, ?_⟩
      · rw [g0, Option.bind_some, cw_ck hc, Option.bind_some, q1, Option.bind_some]
        rw [show 6 - n + n = 6 by omega] at r1
        exact r1
      · rw [List.append_assoc] at r2
        exact r2
  | succ i ih =>
    intro f L M hi hf hl hc
    obtain ⟨f, rfl⟩ : ∃ g, f = g + 1 := ⟨f - 1, by omega⟩
    obtain ⟨M1, q1, q2⟩ := cw_add hc (by omega) (nI (48 + w / 10 ^ i % 10))
    have e5 : nI (6 + (i + 1)) + (-1) = nI (6 + i) := by rw [show 6 + (i + 1) = (6 + i) + 1 by omega, pk_m1]
    have e6 : nI (6 + i) - 6 = nI i := by
      have := pk_sub (a := 6 + i) (b := 6) (by omega)
      rw [show 6 + i - 6 = i by omega] at this
      exact this
    rw [fX6_addNumber_30, e5, if_neg (li_nlt 6 _ 6 rfl (by omega) (by omega)), e_digit hx M _ (by omega), Option.bind_some, hwx]
    dsimp only
    rw [cw_ck hc, Option.bind_some, show (48 : Int32) + nI (w / 10 ^ i % 10) = nI (48 + w / 10 ^ i % 10) from nI_add 48 _, q1, Option.bind_some, la_ck h q2, Option.bind_some, e6, e_groups h q2 (by omega), Option.bind_some]
    dsimp only
    unfold fX6_addNumber_70
    cases hg : gsB v i with
    | false =>
      rw [if_pos (by decide)]
      obtain ⟨M', r1, r2⟩ := ih f (L ++ [nI (48 + w / 10 ^ i % 10)]) M1 (by omega) (by omega) (by rw [List.length_append]; simp; omega) q2
      refine ⟨M', r1, ?_⟩
      rw [List.append_assoc] at r2
      rw [digL, hg]
      exact r2
    | true =>
      rw [if_neg (by decide)]
      have g1 : gI M1 0 la 1 = some v.2.1 := by simp [gI, gF, la_at h q2, lcell, vI]
      obtain ⟨M2, s1, s2⟩ := cw_add q2 (by rw [List.length_append]; simp; omega) v.2.1
      obtain ⟨M', r1, r2⟩ := ih f (L ++ [nI (48 + w / 10 ^ i % 10)] ++ [v.2.1]) M2 (by omega) (by omega) (by rw [List.length_append, List.length_append]; simp; omega) s2
      refine ⟨M', ?_, ?_⟩
      · rw [g1, Option.bind_some, cw_ck q2, Option.bind_some, s1, Option.bind_some]
        exact r1
      · rw [List.append_assoc, List.append_assoc] at r2
        rw [digL, hg]
        exact r2
end CWAMT
