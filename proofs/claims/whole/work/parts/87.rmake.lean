/-! ===== the reference writes amounts ===== -/
def MK (m : Nat) (A : Nat → Nat → Int32) (B : Nat → Nat → Int64) (N : Mem) (L : List Int32) (M : Mem) : Prop := ∃ (I : Nat → Int32) (A' : Nat → Nat → Int32) (fd : Int64), M = mm m I A' B fd N ∧ Core A A' ∧ I 26 = nI L.length ∧ ∀ k, k < L.length → A' 22 k = lf L k
section RMAKE
variable {m : Nat} {A : Nat → Nat → Int32} {B : Nat → Nat → Int64} {N : Mem}
theorem MK.rm {L : List Int32} {M : Mem} (h : MK m A B N L M) : RM m A B N M := by
  obtain ⟨I, A', fd, h1, h2, -⟩ := h
  exact ⟨I, A', fd, h1, h2⟩
theorem mk_start {M : Mem} (h : RM m A B N M) : ∃ M', pF M 5 m 26 (.int 0) = some M' ∧ MK m A B N [] M' := by
  obtain ⟨I, A', fd, rfl, hC⟩ := h
  exact ⟨_, mm_pI26, _, _, _, rfl, hC, rfl, fun k hk => absurd hk (Nat.not_lt_zero k)⟩
theorem mk_say {L : List Int32} {M : Mem} (h : MK m A B N L M) (hl : L.length < 160) (x : Int32) : ∃ M', fX8_say m x M = some M' ∧ MK m A B N (L ++ [x]) M' := by
  obtain ⟨I, A', fd, rfl, hC, h26, h22⟩ := h
  have e1 : sI (mm m I A' B fd N) (m + 22) (nI L.length) x = some (mm m I (upA A' 22 (upd (A' 22) L.length x)) B fd N) := by
    rw [← mm_setA (by decide) (by decide)]
    unfold sI
    rw [mm_arr (by decide) (by decide)]
    have h1 : mcell A' B 22 = .inl (.int, 160, .inl (A' 22)) := rfl
    rw [h1]
    dsimp only
    rw [if_pos (inr_nI hl (by decide)), nI_clamp (by omega)]
    rfl
  refine ⟨mm m (upI I 26 (nI (L.length + 1))) (upA A' 22 (upd (A' 22) L.length x)) B fd N, ?_, _, _, _, rfl, ?_, ?_, ?_⟩
  · unfold fX8_say
    rw [mm_gN25, Option.bind_some, mm_gI26, Option.bind_some, h26, e1, Option.bind_some, mm_gI26, Option.bind_some, h26, nI_1, mm_pI26, Option.bind_some]
  · intro k hk
    unfold upA
    rw [if_neg (by omega)]
    exact hC k hk
  · rw [List.length_append]
    rfl
  · intro k hk
    rw [List.length_append] at hk
    have hk : k < L.length + 1 := hk
    show upd (A' 22) L.length x k = _
    rw [← lf_app L x k hk]
    by_cases he : k = L.length
    · rw [he, pk_us, pk_us]
    · rw [pk_un he, pk_un he]
      exact h22 k (by omega)
theorem mk_ck {L : List Int32} {M : Mem} (h : MK m A B N L M) : ck M 5 m = some () := rm_ck h.rm
theorem mk_sayMark {L : List Int32} {M : Mem} {l : Nat} (hl : l < 24) (h : MK m A B N L M) (hlen : L.length < 150) (hmk : ¬ A 6 l < 0) : ∃ M', fX8_sayMark m (nI l) M = some M' ∧ MK m A B N (L ++ markL (A 6 l)) M' := by
  obtain ⟨b0, b1, b2⟩ := mbyte_eq hmk
  have a6 : ∀ {L : List Int32} {M : Mem}, MK m A B N L M → aI M (m + 6) (nI l) = some (A 6 l) := fun h => rm_aI (by decide) (by decide) rfl (by decide) hl h.rm
  obtain ⟨M1, q1, h1⟩ := mk_say h (by omega) ((A 6 l >>> ((16 : Int32) &&& 31)) &&& 255)
  obtain ⟨M2, q2, h2⟩ := mk_say h1 (by rw [List.length_append]; simp; omega) ((A 6 l >>> ((8 : Int32) &&& 31)) &&& 255)
  obtain ⟨M3, q3, h3⟩ := mk_say h2 (by rw [List.length_append, List.length_append]; simp; omega) (A 6 l &&& 255)
  refine ⟨M3, ?_, ?_⟩
  · unfold fX8_sayMark
    rw [rm_gN6 h.rm, Option.bind_some, a6 h, Option.bind_some, mk_ck h, Option.bind_some, q1, Option.bind_some, rm_gN6 h1.rm, Option.bind_some, a6 h1, Option.bind_some, mk_ck h1, Option.bind_some, q2, Option.bind_some, rm_gN6 h2.rm, Option.bind_some, a6 h2, Option.bind_some, mk_ck h2, Option.bind_some, q3, Option.bind_some]
  · unfold markL
    rw [b0, b1, b2]
    rw [List.append_assoc, List.append_assoc] at h3
    exact h3
theorem rm_sign {M : Mem} {l left : Nat} (hl : l < 24) (hf : left < 2 ^ 31) (R : RM m A B N M) : fX8_isSignBehind m (nI l) (nI left) M = some (bI (sgn (A 4 l) left), M) := by
  have a4 : aI M (m + 4) (nI l) = some (A 4 l) := rm_aI (by decide) (by decide) rfl (by decide) hl R
  unfold fX8_isSignBehind fX8_isSignBehind_45 fX8_isSignBehind_46 sgn
  by_cases h0 : left = 0
  · subst h0
    simp [show nI 0 = 0 from rfl, nz0, bI]
  · have h0' : ¬ nI left = 0 := nI_ne0 (by omega) hf
    have r3 : rmI (nI left) 3 = nI (left % 3) := rmI_nI (d := 3) hf (by decide) (by decide)
    have r2 : rmI (nI left) 2 = nI (left % 2) := rmI_nI (d := 2) hf (by decide) (by decide)
    rw [if_neg h0', if_neg h0, rm_gN4 R, Option.bind_some, a4, Option.bind_some]
    by_cases hg : A 4 l = 0
    · rw [if_pos hg, if_pos hg, r3]
      by_cases h3 : left % 3 = 0
      · simp [h3, show nI 0 = 0 from rfl, nz1, bI]
      · have : ¬ nI (left % 3) = 0 := nI_ne0 (by omega) (by omega)
        simp [h3, this, nz0, bI]
    · rw [if_neg hg, if_neg hg, r2]
      by_cases h3 : left < 3
      · have : nI left < 3 := nI_lt (b := 3) h3 (by decide)
        simp [this, nz0, show ¬ 3 ≤ left by omega, bI]
      · have : ¬ nI left < 3 := nI_nlt (b := 3) (by omega) hf
        by_cases h2 : left % 2 = 1
        · simp [this, h2, show nI 1 = 1 from rfl, nz1, show 3 ≤ left by omega, bI]
        · have h20 : left % 2 = 0 := by omega
          simp [this, h20, show nI 0 = 0 from rfl, nz0, bI]
/-- a land's values in the reference -/
def lnd (A : Nat → Nat → Int32) (l : Nat) : L8 := (A 2 l, A 3 l, A 4 l, A 5 l, A 6 l, A 7 l, A 8 l, A 9 l)
theorem sgn_gs {v : L8} {i D : Nat} (hi : i < D) : (¬ v.2.1 = 0 ∧ ¬ D ≤ 3 ∧ sgn v.2.2.1 i = true) ↔ gsB v i = true := by
  unfold gsB sgn
  rw [decide_eq_true_eq]
  by_cases h0 : i = 0
  · subst h0; simp
  · rw [if_neg h0]
    by_cases ht : v.2.2.1 = 0
    · rw [if_pos ht, if_pos ht]
      simp only [decide_eq_true_eq]
      constructor
      · rintro ⟨a1, a2, a3⟩
        exact ⟨a1, by omega, a3⟩
      · rintro ⟨a1, a2, a3⟩
        exact ⟨a1, by omega, a3⟩
    · rw [if_neg ht, if_neg ht]
      simp only [Bool.and_eq_true, decide_eq_true_eq]
      constructor
      · rintro ⟨a1, a2, a3, a4⟩
        exact ⟨a1, a3, a4⟩
      · rintro ⟨a1, a2, a3⟩
        exact ⟨a1, by omega, a2, a3⟩
theorem mk_whole {l n w part D : Nat} {kd : Int32} {x10 : Int32} (hl : l < 24) (hw : w < 10 ^ 9) (hD9 : D ≤ 9) : ∀ (i k f : Nat) (L : List Int32) (M : Mem), k + i = D → i < f → L.length + 2 * i < 150 → MK m A B N L M → ∃ M', fX8_makeAmount_248 f m (nI l) kd (nI n) x10 (nI w) (nI part) (nI D) (nI (10 ^ i / 10)) (nI k) M = fX8_makeAmount_248 (f - i) m (nI l) kd (nI n) x10 (nI w) (nI part) (nI D) (nI 0) (nI D) M' ∧ MK m A B N (L ++ digL (lnd A l) w i) M' := by
  intro i
  induction i with
  | zero =>
    intro k f L M hk hf hlen hM
    refine ⟨M, ?_, by rw [digL, List.append_nil]; exact hM⟩
    rw [Nat.sub_zero, show k = D by omega]
  | succ i ih =>
    intro k f L M hk hf hlen hM
    obtain ⟨f, rfl⟩ : ∃ g, f = g + 1 := ⟨f - 1, by omega⟩
    have hu : 10 ^ (i + 1) / 10 = 10 ^ i := by
      rw [Nat.pow_succ]
      exact Nat.mul_div_cancel _ (by decide)
    have hup : 0 < 10 ^ i := Nat.pow_pos (by decide)
    have hu9 : 10 ^ i ≤ 10 ^ 9 := Nat.pow_le_pow_right (by decide) (by omega)
    have hdz : dzI (nI (10 ^ i)) = some () := by
      unfold dzI
      rw [if_neg (nI_ne0 hup (by omega))]
    have hd1 : nI w / nI (10 ^ i) = nI (w / 10 ^ i) := pk_div (by omega) hup (by omega)
    have hr : rmI (nI (w / 10 ^ i)) 10 = nI (w / 10 ^ i % 10) := rmI_nI (d := 10) (by have := Nat.div_le_self w (10 ^ i); omega) (by decide) (by decide)
    have h48 : (48 : Int32) + nI (w / 10 ^ i % 10) = nI (48 + w / 10 ^ i % 10) := nI_add 48 _
    have hdv : nI (10 ^ i) / 10 = nI (10 ^ i / 10) := pk_div (d := 10) (by omega) (by decide) (by decide)
    obtain ⟨M1, q1, h1⟩ := mk_say hM (by omega) (nI (48 + w / 10 ^ i % 10))
    have hl1 : (L ++ [nI (48 + w / 10 ^ i % 10)]).length + 2 * i + 1 < 150 := by rw [List.length_append]; simp only [List.length_singleton]; omega
    have a3 : aI M1 (m + 3) (nI l) = some (A 3 l) := rm_aI (by decide) (by decide) rfl (by decide) hl h1.rm
    have hleft : nI D - 1 - nI k = nI i := by
      rw [show nI D - 1 = nI (D - 1) from pk_sub (b := 1) (by omega), pk_sub (by omega), show D - 1 - k = i by omega]
    have hs := sgn_gs (v := lnd A l) (i := i) (D := D) (by omega)
    rw [fX8_makeAmount_248, if_neg (nI_ge (by omega) (by omega)), hu, hdz, Option.bind_some, mk_ck hM, Option.bind_some, hd1, hr, h48, q1, Option.bind_some, rm_gN3 h1.rm, Option.bind_some, a3, Option.bind_some, hdv, digL]
    unfold fX8_makeAmount_317
    rw [nI_1]
    have no : gsB (lnd A l) i = false → ∃ M', fX8_makeAmount_248 f m (nI l) kd (nI n) x10 (nI w) (nI part) (nI D) (nI (10 ^ i / 10)) (nI (k + 1)) M1 = fX8_makeAmount_248 (f + 1 - (i + 1)) m (nI l) kd (nI n) x10 (nI w) (nI part) (nI D) (nI 0) (nI D) M' ∧ MK m A B N (L ++ (nI (48 + w / 10 ^ i % 10) :: ((if gsB (lnd A l) i = true then [(lnd A l).2.1] else []) ++ digL (lnd A l) w i))) M' := by
      intro hg
      obtain ⟨M', r1, r2⟩ := ih (k + 1) f _ M1 (by omega) (by omega) (by omega) h1
      refine ⟨M', by rw [r1, show f + 1 - (i + 1) = f - i by omega], ?_⟩
      rw [List.append_assoc] at r2
      rw [hg]
      exact r2
    by_cases hg : A 3 l = 0
    · rw [if_pos hg]
      refine no ?_
      rw [Bool.eq_false_iff]
      intro q
      exact (hs.mpr q).1 hg
    · rw [if_neg hg]
      by_cases h3 : D ≤ 3
      · rw [if_pos (li_le 3 D 3 rfl h3 (by decide))]
        refine no ?_
        rw [Bool.eq_false_iff]
        intro q
        exact (hs.mpr q).2.1 h3
      · rw [if_neg (li_nle 3 D 3 rfl (by omega) (by omega)), mk_ck h1, Option.bind_some, hleft, rm_sign hl (by omega) h1.rm, Option.bind_some]
        dsimp only
        have e4 : (lnd A l).2.2.1 = A 4 l := rfl
        cases hsg : sgn (A 4 l) i with
        | false =>
          rw [if_pos (by decide)]
          refine no ?_
          rw [Bool.eq_false_iff]
          intro q
          have := (hs.mpr q).2.2
          rw [e4, hsg] at this
          cases this
        | true =>
          have hgs : gsB (lnd A l) i = true := hs.mp ⟨hg, h3, hsg⟩
          obtain ⟨M2, q2, h2⟩ := mk_say h1 (by omega) (A 3 l)
          obtain ⟨M', r1, r2⟩ := ih (k + 1) f _ M2 (by omega) (by omega) (by rw [List.length_append]; simp only [List.length_singleton]; omega) h2
          refine ⟨M', ?_, ?_⟩
          · rw [if_neg (by decide), rm_gN3 h1.rm, Option.bind_some, a3, Option.bind_some, mk_ck h1, Option.bind_some, q2, Option.bind_some, r1, show f + 1 - (i + 1) = f - i by omega]
          · rw [List.append_assoc, List.append_assoc] at r2
            rw [hgs]
            exact r2
theorem mk_frac {l n x : Nat} {kd x10 : Int32} (hn : n ≤ 6) : ∀ (j f : Nat) (L : List Int32) (M : Mem), j ≤ n → j < f → L.length + j < 150 → MK m A B N L M → ∃ M', fX8_makeAmount_341 f m (nI l) kd (nI n) x10 (nI (x % 10 ^ (6 - (n - j)) * 10 ^ (n - j))) (nI (n - j)) M = fX8_makeAmount_376 m (nI l) kd x10 M' ∧ MK m A B N (L ++ frL x n j) M' := by
  intro j
  induction j with
  | zero =>
    intro f L M hj hf hlen hM
    obtain ⟨f, rfl⟩ : ∃ g, f = g + 1 := ⟨f - 1, by omega⟩
    refine ⟨M, ?_, by rw [frL, List.append_nil]; exact hM⟩
    rw [fX8_makeAmount_341, Nat.sub_zero, if_pos (nI_le (Nat.le_refl _) (by omega))]
  | succ j ih =>
    intro f L M hj hf hlen hM
    obtain ⟨f, rfl⟩ : ∃ g, f = g + 1 := ⟨f - 1, by omega⟩
    have key : ∀ k, k ≤ 5 → x % 10 ^ (6 - k) * 10 ^ k < 10 ^ 6 ∧ x % 10 ^ (6 - k) * 10 ^ k / 100000 = x / 10 ^ (5 - k) % 10 ∧ x % 10 ^ (6 - k) * 10 ^ k % 100000 * 10 = x % 10 ^ (6 - (k + 1)) * 10 ^ (k + 1) := by
      intro k hk
      rcases (show k = 0 ∨ k = 1 ∨ k = 2 ∨ k = 3 ∨ k = 4 ∨ k = 5 by omega) with rfl | rfl | rfl | rfl | rfl | rfl
      all_goals (simp; omega)
    obtain ⟨k1, k2, k3⟩ := key (n - (j + 1)) (by omega)
    rw [show n - (j + 1) + 1 = n - j by omega] at k3
    have e1 : nI (x % 10 ^ (6 - (n - (j + 1))) * 10 ^ (n - (j + 1))) / 100000 = nI (x / 10 ^ (5 - (n - (j + 1))) % 10) := by
      rw [← k2]
      exact pk_div (d := 100000) (by omega) (by decide) (by decide)
    have e2 : rmI (nI (x % 10 ^ (6 - (n - (j + 1))) * 10 ^ (n - (j + 1)))) 100000 * 10 = nI (x % 10 ^ (6 - (n - j)) * 10 ^ (n - j)) := by
      rw [show rmI (nI (x % 10 ^ (6 - (n - (j + 1))) * 10 ^ (n - (j + 1)))) 100000 = nI (x % 10 ^ (6 - (n - (j + 1))) * 10 ^ (n - (j + 1)) % 100000) from rmI_nI (d := 100000) (by omega) (by decide) (by decide)]
      rw [← k3]
      exact pk_mul _ 10
    obtain ⟨M1, q1, h1⟩ := mk_say hM (by omega) (nI (48 + x / 10 ^ (5 - (n - (j + 1))) % 10))
    obtain ⟨M', r1, r2⟩ := ih f _ M1 (by omega) (by omega) (by rw [List.length_append]; simp only [List.length_singleton]; omega) h1
    refine ⟨M', ?_, ?_⟩
    · rw [fX8_makeAmount_341, if_neg (nI_ge (by omega) (by omega)), mk_ck hM, Option.bind_some, e1, show (48 : Int32) + nI (x / 10 ^ (5 - (n - (j + 1))) % 10) = nI (48 + x / 10 ^ (5 - (n - (j + 1))) % 10) from nI_add 48 _, q1, Option.bind_some, e2, nI_1, show n - (j + 1) + 1 = n - j by omega, r1]
    · rw [List.append_assoc] at r2
      exact r2
end RMAKE
