/-! ===== the reference: state ===== -/
def stS (W : Nat → Int32 × Option Int64) (C bit : Nat → Bool) : Nat → Nat → Bool → Bool → Bool → Int64 → Int32
  | 0, _, s, d, o, _ => if s = true then (if d = true then 2 else 0) else if o = true then 1 else 3
  | k + 1, l, s, d, o, f => if bit l = true then (if C l = true then stS W C bit k (l + 1) true (d || (s && decide (¬ (W l).2.getD 0 = f))) (o || decide (¬ (W l).1 ≤ 0)) (if s = true then f else (W l).2.getD 0) else stS W C bit k (l + 1) s d (o || decide (¬ (W l).1 ≤ 0)) f) else stS W C bit k (l + 1) s d o f
section MSTATE
variable {m : Nat} {A : Nat → Nat → Int32} {B : Nat → Nat → Int64} {N M : Mem} {nl len : Nat} {T : Nat → Int32}
theorem cmp_eq (x y : Int64) : lg_cmp x y = 0 ↔ x = y := by
  unfold lg_cmp
  by_cases h : y < x
  · rw [if_pos h]
    constructor
    · intro q; exact absurd q (by decide)
    · intro q; rw [q] at h; exact absurd h Int64.lt_irrefl
  · rw [if_neg h]
    by_cases h2 : x = y
    · rw [if_pos h2]
      exact ⟨fun _ => h2, fun _ => rfl⟩
    · rw [if_neg h2]
      exact ⟨fun q => absurd q (by decide), fun q => absurd q h2⟩
theorem rt_B {k : Nat} (hk : k < 12) (R : RT m A B N T len M) : gN M 5 m 12 = some (m + 12) ∧ aL M (m + 12) (nI k) = some (B 12 k) ∧ gN M 5 m 13 = some (m + 13) ∧ aL M (m + 13) (nI k) = some (B 13 k) := by
  obtain ⟨I, A', fd, rfl, -⟩ := R
  refine ⟨mm_gN12, ?_, mm_gN13, ?_⟩
  · rw [mm_aL12, if_pos (inr_nI hk (by decide)), nI_clamp (by omega)]
  · rw [mm_aL13, if_pos (inr_nI hk (by decide)), nI_clamp (by omega)]
theorem p_stLoop {k : Nat} (hk : k < 12) (hnl : nl ≤ 6) (hA1 : A 1 0 = nI nl) (hlen : len ≤ 60) (x : Int32) : ∀ (dd l f : Nat) (s d o : Bool) (fi : Int64) (M : Mem), l + dd = nl → dd < f → RT m A B N T len M → ∃ M', RM m A B N M' ∧ fX8_state_34 f m x (nI k) (bI s) (bI d) (bI o) fi (nI l) M = some (stS (fun l => hld A l (nI k) T len) (fun l => cnt (hld A l (nI k) T len) (B 12 k) (B 13 k)) (fun l => decide (¬ (x >>> (nI l &&& 31)) &&& 1 = 0)) dd l s d o fi, M') := by
  intro dd
  induction dd with
  | zero =>
    intro l f s d o fi M hl hf R
    obtain ⟨f, rfl⟩ : ∃ g, f = g + 1 := ⟨f - 1, by omega⟩
    refine ⟨M, R.rm, ?_⟩
    rw [fX8_state_34, (rm_1 hA1 R.rm).1, Option.bind_some, (rm_1 hA1 R.rm).2, Option.bind_some, if_pos (nI_le (by omega) (by omega))]
    unfold fX8_state_209
    cases s <;> cases d <;> cases o <;> rfl
  | succ dd ih =>
    intro l f s d o fi M hl hf R
    obtain ⟨f, rfl⟩ : ∃ g, f = g + 1 := ⟨f - 1, by omega⟩
    rw [fX8_state_34, (rm_1 hA1 R.rm).1, Option.bind_some, (rm_1 hA1 R.rm).2, Option.bind_some, if_neg (nI_ge (by omega) (by omega))]
    by_cases hb : (x >>> (nI l &&& 31)) &&& 1 = 0
    · obtain ⟨M1, R1, h1⟩ := ih (l + 1) f s d o fi M (by omega) (by omega) R
      refine ⟨M1, R1, ?_⟩
      rw [if_pos hb]
      unfold fX8_state_176
      rw [nI_1, h1]
      simp [stS, hb]
    · obtain ⟨M1, h1, R1, hv⟩ := rt_held (l := l) (n' := len) (by omega) (by omega) (Nat.le_refl _) (nI k) R
      obtain ⟨b1, b2, b3, b4⟩ := rt_B hk R1
      rw [if_neg hb, rt_n R, Option.bind_some, rm_ck R.rm, Option.bind_some, h1, Option.bind_some]
      dsimp only
      have hstep : stS (fun l => hld A l (nI k) T len) (fun l => cnt (hld A l (nI k) T len) (B 12 k) (B 13 k)) (fun l => decide (¬ (x >>> (nI l &&& 31)) &&& 1 = 0)) (dd + 1) l s d o fi = if cnt (hld A l (nI k) T len) (B 12 k) (B 13 k) = true then stS (fun l => hld A l (nI k) T len) (fun l => cnt (hld A l (nI k) T len) (B 12 k) (B 13 k)) (fun l => decide (¬ (x >>> (nI l &&& 31)) &&& 1 = 0)) dd (l + 1) true (d || (s && decide (¬ (hld A l (nI k) T len).2.getD 0 = fi))) (o || decide (¬ (hld A l (nI k) T len).1 ≤ 0)) (if s = true then fi else (hld A l (nI k) T len).2.getD 0) else stS (fun l => hld A l (nI k) T len) (fun l => cnt (hld A l (nI k) T len) (B 12 k) (B 13 k)) (fun l => decide (¬ (x >>> (nI l &&& 31)) &&& 1 = 0)) dd (l + 1) s d (o || decide (¬ (hld A l (nI k) T len).1 ≤ 0)) fi := by
        simp [stS, hb]
      rw [hstep]
      have h109 : ∀ c : Bool, (c = true → ∃ v, (hld A l (nI k) T len).2 = some v) → fX8_state_109 (fX8_state_34 f) m x (nI k) (bI s) (bI d) (bI o) fi (nI l) (hld A l (nI k) T len).1 (bI c) M1 = if c = true then fX8_state_34 f m x (nI k) 1 (bI (d || (s && decide (¬ (hld A l (nI k) T len).2.getD 0 = fi)))) (bI (o || decide (¬ (hld A l (nI k) T len).1 ≤ 0))) (if s = true then fi else (hld A l (nI k) T len).2.getD 0) (nI l + 1) M1 else fX8_state_34 f m x (nI k) (bI s) (bI d) (bI (o || decide (¬ (hld A l (nI k) T len).1 ≤ 0))) fi (nI l + 1) M1 := by
        intro c hcv
        unfold fX8_state_109 fX8_state_121 fX8_state_126 fX8_state_152 fX8_state_156 fX8_state_157 fX8_state_172 fX8_state_176
        have ho : (if bI o = 0 then (if (hld A l (nI k) T len).1 ≤ 0 then (0 : Int32) else 1) else 1) = bI (o || decide (¬ (hld A l (nI k) T len).1 ≤ 0)) := by
          cases o
          · by_cases hh : (hld A l (nI k) T len).1 ≤ 0
            · simp [bI, hh]
            · simp [bI, hh]
          · simp [bI]
        rw [← ho]
        cases c with
        | false =>
          simp only [show bI false = 0 from rfl, if_true, Bool.false_eq_true, if_false]
          split
          · split <;> rfl
          · rfl
        | true =>
          obtain ⟨v, hw⟩ := hcv rfl
          have g24 := hv v hw
          simp only [show bI true = 1 from rfl, if_neg one_ne, if_true, g24, Option.bind_some, cmp_eq, hw, Option.getD_some]
          cases o <;> cases d <;> cases s <;> by_cases hvf : v = fi <;> by_cases hh : (hld A l (nI k) T len).1 ≤ 0 <;> simp [bI, hvf, hh]
      by_cases h2 : (hld A l (nI k) T len).1 = 2
      · rw [if_pos h2]
        obtain ⟨v, hw⟩ := Option.isSome_iff_exists.mp (hld_2 (A := A) l (nI k) T len h2)
        have g24 := hv v hw
        rw [g24, Option.bind_some, b1, Option.bind_some, b2, Option.bind_some]
        unfold fX8_state_108
        have hcn : cnt (hld A l (nI k) T len) (B 12 k) (B 13 k) = decide (¬ v < B 12 k ∧ ¬ B 13 k < v) := by
          unfold cnt
          rw [hw]
          simp [h2]
        have go : ∀ c : Bool, cnt (hld A l (nI k) T len) (B 12 k) (B 13 k) = c → ∃ M', RM m A B N M' ∧ fX8_state_109 (fX8_state_34 f) m x (nI k) (bI s) (bI d) (bI o) fi (nI l) (hld A l (nI k) T len).1 (bI c) M1 = some (if cnt (hld A l (nI k) T len) (B 12 k) (B 13 k) = true then stS (fun l => hld A l (nI k) T len) (fun l => cnt (hld A l (nI k) T len) (B 12 k) (B 13 k)) (fun l => decide (¬ (x >>> (nI l &&& 31)) &&& 1 = 0)) dd (l + 1) true (d || (s && decide (¬ (hld A l (nI k) T len).2.getD 0 = fi))) (o || decide (¬ (hld A l (nI k) T len).1 ≤ 0)) (if s = true then fi else (hld A l (nI k) T len).2.getD 0) else stS (fun l => hld A l (nI k) T len) (fun l => cnt (hld A l (nI k) T len) (B 12 k) (B 13 k)) (fun l => decide (¬ (x >>> (nI l &&& 31)) &&& 1 = 0)) dd (l + 1) s d (o || decide (¬ (hld A l (nI k) T len).1 ≤ 0)) fi, M') := by
          intro c hc
          rw [h109 c (fun _ => ⟨v, hw⟩), hc]
          cases c with
          | false =>
            obtain ⟨M2, R2, e2⟩ := ih (l + 1) f s d (o || decide (¬ (hld A l (nI k) T len).1 ≤ 0)) fi M1 (by omega) (by omega) R1
            refine ⟨M2, R2, ?_⟩
            rw [nI_1]
            simp only [Bool.false_eq_true, if_false]
            exact e2
          | true =>
            obtain ⟨M2, R2, e2⟩ := ih (l + 1) f true (d || (s && decide (¬ (hld A l (nI k) T len).2.getD 0 = fi))) (o || decide (¬ (hld A l (nI k) T len).1 ≤ 0)) (if s = true then fi else (hld A l (nI k) T len).2.getD 0) M1 (by omega) (by omega) R1
            refine ⟨M2, R2, ?_⟩
            rw [nI_1]
            simp only [if_true]
            exact e2
        by_cases c1 : v < B 12 k
        · rw [if_pos ((cmp_lt _ _).mpr c1)]
          exact go false (by rw [hcn]; simp [c1])
        · rw [if_neg (fun q => c1 ((cmp_lt _ _).mp q)), Option.bind_some, b3, Option.bind_some, b4, Option.bind_some]
          by_cases c2 : B 13 k < v
          · rw [if_pos ((cmp_gt _ _).mpr c2)]
            exact go false (by rw [hcn]; simp [c2])
          · rw [if_neg (fun q => c2 ((cmp_gt _ _).mp q))]
            exact go true (by rw [hcn]; simp [c1, c2])
      · rw [if_neg h2]
        unfold fX8_state_108
        have hcn : cnt (hld A l (nI k) T len) (B 12 k) (B 13 k) = false := by
          unfold cnt
          simp [h2]
        obtain ⟨M2, R2, e2⟩ := ih (l + 1) f s d (o || decide (¬ (hld A l (nI k) T len).1 ≤ 0)) fi M1 (by omega) (by omega) R1
        refine ⟨M2, R2, ?_⟩
        have := h109 false (fun q => by cases q)
        rw [show bI false = 0 from rfl] at this
        rw [this, hcn, nI_1]
        simp only [Bool.false_eq_true, if_false]
        exact e2
theorem p_state (hnl : nl ≤ 6) (hA1 : A 1 0 = nI nl) (hlen : len ≤ 60) (hA : A 10 0 = nI len) (x kd : Int32) (h : RM m A B N M) :
    ∃ M', RM m A B N M' ∧ ((¬ (¬ kd < 0 ∧ ¬ 2 < kd) ∧ fX8_state m x kd M = some (-1, M')) ∨ ∃ k, k < 3 ∧ kd = nI k ∧ fX8_state m x kd M = some (stS (fun l => hld A l (nI k) (A 11) len) (fun l => cnt (hld A l (nI k) (A 11) len) (B 12 k) (B 13 k)) (fun l => decide (¬ (x >>> (nI l &&& 31)) &&& 1 = 0)) nl 0 false false false 0, M')) := by
  obtain ⟨M1, h1, R1⟩ := rm_code h 0
  unfold fX8_state
  rw [h1, Option.bind_some, e_in, Option.bind_some]
  dsimp only
  by_cases hk : ¬ kd < 0 ∧ ¬ 2 < kd
  · obtain ⟨k, hk3, rfl⟩ := kind_of hk
    obtain ⟨M2, h2, R2⟩ := rm_lineText hlen hA R1
    obtain ⟨M3, R3, h3⟩ := p_stLoop (k := k) (by omega) hnl hA1 hlen x nl 0 FU false false false 0 M2 (by omega) (by unfold FU; omega) R2
    rw [if_pos hk, if_neg one_ne, rm_ck R1, Option.bind_some, h2, Option.bind_some]
    exact ⟨M3, R3, Or.inr ⟨k, hk3, rfl, h3⟩⟩
  · rw [if_neg hk, if_pos rfl]
    exact ⟨M1, R1, Or.inl ⟨hk, rfl⟩⟩
end MSTATE
