/-! ===== the reference: what stands in the line at a place ===== -/
section RAT
variable {m : Nat} {A : Nat → Nat → Int32} {B : Nat → Nat → Int64} {N : Mem} {n : Nat} {T : Nat → Int32}
/-- the reference's line -/
def LnA (A : Nat → Nat → Int32) (n : Nat) (T : Nat → Int32) : Prop := n ≤ 60 ∧ A 10 0 = nI n ∧ ∀ k, k < n → A 11 k = T k
theorem ln_aI (hl : LnA A n T) {M : Mem} (R : RM m A B N M) {k : Nat} (hk : k < n) : aI M (m + 11) (nI k) = some (T k) := by
  have h := rm_aI (j := 11) (i := k) (by decide) (by decide) rfl (by decide) (show k < 240 by have := hl.1; omega) R
  rw [hl.2.2 k hk] at h
  exact h
theorem mk_22 {L : List Int32} {M : Mem} (h : MK m A B N L M) {k : Nat} (hk : k < L.length) (h160 : L.length ≤ 160) : gN M 5 m 25 = some (m + 22) ∧ aI M (m + 22) (nI k) = some (lf L k) := by
  obtain ⟨I, A', fd, rfl, hC, h26, h22⟩ := h
  refine ⟨mm_gN25, ?_⟩
  rw [mm_aI22, if_pos (inr_nI (show k < 160 by omega) (by decide)), nI_clamp (show k < 2 ^ 31 by omega), h22 k hk]
theorem r_isAt (hl : LnA A n T) {L : List Int32} {M : Mem} (h : MK m A B N L M) (h160 : L.length ≤ 160) {p : Nat} (hp : p < 10000) : fX8_isAt m (nI p) M = some (bI (decide (At T n p L)), M) := by
  have hn := hl.1
  have R := h.rm
  have h26 := mk_26 h
  have h10 := rm_gN10 R
  have hln := rm_len hl.2.1 R
  have h11 := rm_gN11 R
  have loop : ∀ (d j f : Nat), j + d = L.length → d < f → p + L.length ≤ n → (∀ k, k < j → T (p + k) = lf L k) → fX8_isAt_19 f m (nI p) (nI j) M = some (bI (decide (At T n p L)), M) := by
    intro d
    induction d with
    | zero =>
      intro j f hj hf hle hall
      obtain ⟨f, rfl⟩ : ∃ g, f = g + 1 := ⟨f - 1, by omega⟩
      rw [fX8_isAt_19, h26, Option.bind_some, if_pos (nI_le (by omega) (by omega)), Option.bind_some, h10, Option.bind_some, hln, Option.bind_some, nI_add]
      unfold fX8_isAt_83 fX8_isAt_88
      by_cases he : p + L.length = n
      · have hq : At T n p L := ⟨hle, fun k hk => hall k (by omega), Or.inl he⟩
        rw [if_pos (congrArg nI he), nz1, Option.bind_some, decide_eq_true hq]
        rfl
      · rw [if_neg (fun q => he ((nI_eq (by omega) (by omega)).mp q)), h11, Option.bind_some, Option.bind_some, nI_add, ln_aI hl R (show p + L.length < n by omega), Option.bind_some]
        by_cases h32 : T (p + L.length) = 32
        · have hq : At T n p L := ⟨hle, fun k hk => hall k (by omega), Or.inr h32⟩
          rw [if_pos h32, nz1, Option.bind_some, decide_eq_true hq]
          rfl
        · have hq : ¬ At T n p L := fun q => q.2.2.elim he h32
          rw [if_neg h32, nz0, Option.bind_some, decide_eq_false hq]
          rfl
    | succ d ih =>
      intro j f hj hf hle hall
      obtain ⟨f, rfl⟩ : ∃ g, f = g + 1 := ⟨f - 1, by omega⟩
      obtain ⟨g25, g22⟩ := mk_22 h (k := j) (by omega) h160
      rw [fX8_isAt_19, h26, Option.bind_some, if_neg (nI_ge (by omega) (by omega)), h11, Option.bind_some, nI_add, ln_aI hl R (show p + j < n by omega), Option.bind_some, g25, Option.bind_some, g22, Option.bind_some]
      by_cases hb : T (p + j) = lf L j
      · rw [if_pos hb, nI_1]
        refine ih (j + 1) f (by omega) (by omega) hle (fun k hk => ?_)
        by_cases hkj : k = j
        · rw [hkj]; exact hb
        · exact hall k (by omega)
      · have hq : ¬ At T n p L := fun q => hb (q.2.1 j (by omega))
        rw [if_neg hb, nz0, Option.bind_some, decide_eq_false hq]
        rfl
  unfold fX8_isAt
  rw [h26, Option.bind_some, h10, Option.bind_some, hln, Option.bind_some, nI_add]
  by_cases hle : p + L.length ≤ n
  · rw [if_pos (nI_le hle (by omega))]
    exact loop L.length 0 FU (by omega) (by unfold FU; omega) hle (fun k hk => absurd hk (Nat.not_lt_zero k))
  · have hq : ¬ At T n p L := fun q => hle q.1
    rw [if_neg (nI_ge (by omega) (by omega)), nz0, Option.bind_some, decide_eq_false hq]
    rfl
/-- one word there -/
theorem r_wordAt (hl : LnA A n T) {M : Mem} (R : RM m A B N M) {i p : Nat} (hi : i < 31) (h17 : ¬ i = 17) (hp : p < 10000) : ∃ M', fX8_wordAt m (nI p) (cw i) M = some (bI (decide (At T n p (nmB i))), M') ∧ RM m A B N M' := by
  obtain ⟨M1, e1, K1⟩ := mk_start R
  obtain ⟨M2, e2, K2⟩ := mk_word hi h17 K1 (by simp)
  have ha : adW [] i = nmB i := by unfold adW; rw [if_pos rfl]; rfl
  rw [ha] at K2
  have h9 := nm_len i hi
  refine ⟨M2, ?_, K2.rm⟩
  unfold fX8_wordAt
  rw [e1, Option.bind_some, mk_ck K1, Option.bind_some, e2, Option.bind_some, mk_ck K2, Option.bind_some, r_isAt hl K2 (by omega) hp, Option.bind_some]
  dsimp only
  have : ∀ b, nz (bI b) = some (bI b) := by decide
  rw [this, Option.bind_some]
theorem wB_lt {b : Nat} (hb : b < 1000) : ∀ t ∈ tkB b, t < 31 := fun t ht => by have := tkB_lt hb t ht; omega
theorem tkB_ne {b : Nat} (hb : b < 1000) (h0 : 0 < b) : ¬ tkB b = [] := by
  intro q
  have h := mf_tkB hb 0
  rw [q] at h
  have h' : ((0, 0) : Nat × Nat) = (0, b) := h
  injection h' with h1 h2
  omega
theorem jB_len {b : Nat} (hb : b < 1000) : (jn (tkB b)).length ≤ 28 := by
  rw [← jw_jn (wB_lt hb)]
  exact jw_len (wB_lt hb) (by have := wl_tkB b hb; have : ln [] = 0 := rfl; omega)
/-- the longest number below one thousand that stands there (among those below k) -/
def Bst (T : Nat → Int32) (n p k best long : Nat) : Prop := ((best = 0 ∧ long = 0) ∨ (0 < best ∧ best < 1000 ∧ long = (jn (tkB best)).length ∧ At T n p (jn (tkB best)))) ∧ ∀ b, 0 < b → b < k → At T n p (jn (tkB b)) → (jn (tkB b)).length ≤ long
theorem r_below (hl : LnA A n T) {M : Mem} (R : RM m A B N M) {p : Nat} (hp : p < 5000) : ∃ best long M', Bst T n p 1000 best long ∧ fX8_below1000At m (nI p) M = some (nI best, M') ∧ RM m A B N M' ∧ gI M' 5 m 27 = some (nI (p + long)) := by
  have loop : ∀ (d k f best long : Nat) (M : Mem), 0 < k → k + d = 1000 → d < f → Bst T n p k best long → RM m A B N M → ∃ b' l' M', Bst T n p 1000 b' l' ∧ fX8_below1000At_7 f m (nI p) (nI best) (nI long) (nI k) M = some (nI b', M') ∧ RM m A B N M' ∧ gI M' 5 m 27 = some (nI (p + l')) := by
    intro d
    induction d with
    | zero =>
      intro k f best long M h0 hk hf hB R
      obtain ⟨f, rfl⟩ : ∃ g, f = g + 1 := ⟨f - 1, by omega⟩
      obtain ⟨I, A', fd, rfl, hC⟩ := R
      rw [show k = 1000 by omega] at hB ⊢
      refine ⟨best, long, mm m (upI I 27 (nI (p + long))) A' B fd N, hB, ?_, ⟨_, _, _, rfl, hC⟩, ?_⟩
      · rw [fX8_below1000At_7, if_pos (show (1000 : Int32) ≤ nI 1000 by decide), nI_add, mm_pI27, Option.bind_some]
      · rw [mm_gI27]
        rfl
    | succ d ih =>
      intro k f best long M h0 hk hf hB R
      obtain ⟨f, rfl⟩ : ∃ g, f = g + 1 := ⟨f - 1, by omega⟩
      have hk1 : k < 1000 := by omega
      have hlong : long ≤ 28 := by
        rcases hB.1 with ⟨-, q⟩ | ⟨-, q1, q2, -⟩
        · omega
        · have := jB_len q1
          omega
      have hlk := jB_len hk1
      obtain ⟨M1, e1, K1⟩ := mk_start R
      obtain ⟨M2, e2, K2⟩ := mk_1000 hk1 K1 (by have : ln [] = 0 := rfl; omega)
      rw [jw_jn (wB_lt hk1)] at K2
      rw [fX8_below1000At_7, if_neg (li_nge 1000 k 1000 rfl hk1 (by decide)), e1, Option.bind_some, mk_ck K1, Option.bind_some, e2, Option.bind_some, mk_26 K2, Option.bind_some]
      unfold fX8_below1000At_50
      rw [nI_1]
      have same : (At T n p (jn (tkB k)) → (jn (tkB k)).length ≤ long) → Bst T n p (k + 1) best long := by
        intro hq
        refine ⟨hB.1, fun b b0 bk hA => ?_⟩
        by_cases hbk : b = k
        · rw [hbk] at hA ⊢; exact hq hA
        · exact hB.2 b b0 (by omega) hA
      by_cases hle : (jn (tkB k)).length ≤ long
      · rw [if_pos (nI_le hle (by omega))]
        exact ih (k + 1) f best long M2 (by omega) (by omega) (by omega) (same (fun _ => hle)) K2.rm
      · rw [if_neg (nI_ge (by omega) (by omega)), mk_ck K2, Option.bind_some, r_isAt hl K2 (by omega) (by omega), Option.bind_some]
        dsimp only
        by_cases hA : At T n p (jn (tkB k))
        · rw [decide_eq_true hA, if_neg (show ¬ bI true = 0 by decide), mk_26 K2, Option.bind_some]
          refine ih (k + 1) f k _ M2 (by omega) (by omega) (by omega) ⟨Or.inr ⟨h0, hk1, rfl, hA⟩, fun b b0 bk hb => ?_⟩ K2.rm
          by_cases hbk : b = k
          · rw [hbk]; exact Nat.le_refl _
          · have := hB.2 b b0 (by omega) hb
            omega
        · rw [decide_eq_false hA, if_pos (show bI false = 0 by decide)]
          exact ih (k + 1) f best long M2 (by omega) (by omega) (by omega) (same (fun q => absurd q hA)) K2.rm
  unfold fX8_below1000At
  exact loop 999 1 FU 0 0 M (by decide) (by decide) (by unfold FU; omega) ⟨Or.inl ⟨rfl, rfl⟩, fun b b0 b1 _ => by omega⟩ R
end RAT
