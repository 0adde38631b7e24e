/-! ===== amounts: groups ===== -/
def K3 (g : Int32) (K : Pat → Bool → Prop) : Nat → Pat → Bool → Prop
  | 0, Q, b => K Q b
  | d + 1, Q, b => K Q b ∨ ∃ Q', Q = (g, 0) :: (-1, 1) :: (-1, 1) :: (-1, 1) :: Q' ∧ K3 g K d Q' b
def K2 (g : Int32) (K : Pat → Bool → Prop) : Nat → Pat → Bool → Prop
  | 0, _, _ => False
  | d + 1, Q, b => (∃ Q', Q = (g, 0) :: (-1, 1) :: (-1, 1) :: (-1, 1) :: Q' ∧ K Q' b) ∨ ∃ Q', Q = (g, 0) :: (-1, 1) :: (-1, 1) :: Q' ∧ K2 g K d Q' b
/-- what follows a number does not look like a digit, nor like a group -/
def Sep (T : Nat → Int32) (n : Nat) (g : Int32) (K : Pat → Bool → Prop) : Prop := ∀ Q b j, K Q b → ft T n Q j → j < n → n ≤ j + Q.length → digB (T j) = false ∧ (T j = g → (j + 1 < n → digB (T (j + 1)) = false) ∧ 2 ≤ Q.length)
section ISGRP
variable {T : Nat → Int32} {n : Nat} {g : Int32} {K : Pat → Bool → Prop} {F : Qs → Bool × Qs}
theorem gnB_iff {k : Nat} {nu : Int64} : gnB T n g (k, 0, nu) = true ↔ k < n ∧ T k = g ∧ (n ≤ k + 1 ∨ digB (T (k + 1)) = true) := by
  simp [gnB]
theorem grp_f {d : Nat} {x : Int32} {cm : Bool} {q : Qs} : grpQ T n g x d false cm q = if cm = true then q else lackQ n q := by
  cases d with
  | zero => rfl
  | succ d => rw [grpQ, if_neg (fun h => by cases h.1)]
theorem vq3 (k : Nat) (nu : Int64) (Q : Pat) : vq T k nu ((g, 0) :: (-1, 1) :: (-1, 1) :: (-1, 1) :: Q) = vq T (k + 4) (dv T 3 (k + 1) nu) Q := by
  simp [vq, cls, tw, dv]
theorem vq2 (k : Nat) (nu : Int64) (Q : Pat) : vq T k nu ((g, 0) :: (-1, 1) :: (-1, 1) :: Q) = vq T (k + 3) (dv T 2 (k + 1) nu) Q := by
  simp [vq, cls, tw, dv]
theorem ft3 {k : Nat} {Q : Pat} (hg : ¬ g < 0) : ft T n ((g, 0) :: (-1, 1) :: (-1, 1) :: (-1, 1) :: Q) k ↔ (k < n → T k = g) ∧ (∀ j, j < 3 → k + 1 + j < n → digB (T (k + 1 + j)) = true) ∧ ft T n Q (k + 4) := by
  simp only [ft, pm_sg hg, pm_d]
  constructor
  · rintro ⟨h0, h1, h2, h3, h4⟩
    refine ⟨h0, fun j hj hk => ?_, h4⟩
    rcases (show j = 0 ∨ j = 1 ∨ j = 2 by omega) with rfl | rfl | rfl
    · exact h1 hk
    · exact h2 hk
    · exact h3 hk
  · rintro ⟨h0, h1, h2⟩
    exact ⟨h0, h1 0 (by decide), h1 1 (by decide), h1 2 (by decide), h2⟩
theorem ft2 {k : Nat} {Q : Pat} (hg : ¬ g < 0) : ft T n ((g, 0) :: (-1, 1) :: (-1, 1) :: Q) k ↔ (k < n → T k = g) ∧ (∀ j, j < 2 → k + 1 + j < n → digB (T (k + 1 + j)) = true) ∧ ft T n Q (k + 3) := by
  simp only [ft, pm_sg hg, pm_d]
  constructor
  · rintro ⟨h0, h1, h2, h4⟩
    refine ⟨h0, fun j hj hk => ?_, h4⟩
    rcases (show j = 0 ∨ j = 1 by omega) with rfl | rfl
    · exact h1 hk
    · exact h2 hk
  · rintro ⟨h0, h1, h2⟩
    exact ⟨h0, h1 0 (by decide), h1 1 (by decide), h2⟩
theorem lack_st (k : Nat) (nu : Int64) : lackQ n (k, 0, nu) = (k, (if k < n then 2 else 1), nu) := by
  unfold lackQ
  rw [if_pos rfl]
theorem is_g3 (hg : ¬ g < 0) (hF : ∀ q : Qs, ¬ q.2.1 = 0 → (F q).2.2.1 = q.2.1) (hne : ∃ Q b, K Q b) (hS : Sep T n g K) (h : ∀ (j : Nat) (v : Int64), j ≤ n → Is T n K (vq T j v) j (F (j, 0, v))) : ∀ (d k : Nat) (nu : Int64), k ≤ n → Is T n (K3 g K d) (vq T k nu) k (F (grpQ T n g 0 d true true (k, 0, nu))) := by
  intro d
  have hne3 : ∀ d, ∃ Q b, K3 g K d Q b := by
    intro d
    obtain ⟨Q, b, hQ⟩ := hne
    cases d with
    | zero => exact ⟨Q, b, hQ⟩
    | succ d => exact ⟨Q, b, Or.inl hQ⟩
  induction d with
  | zero => exact fun k nu hk => h k nu hk
  | succ d ih =>
    intro k nu hk
    by_cases hb : gnB T n g (k, 0, nu) = true
    · obtain ⟨hkn, hT, hnx⟩ := gnB_iff.mp hb
      rw [grpQ, if_pos ⟨rfl, hb⟩]
      obtain ⟨c, c1, c2, c3, c4, c5⟩ := digs_spec (T := T) (n := n) 3 0 (k + 1) nu (by omega)
      have c2' : digsQ T n 3 0 ((k, 0, nu).1 + 1, (k, (0 : Int32), nu).2) = (0 + c, (k + 1 + c, 0, dv T c (k + 1) nu)) := c2
      rw [c2']
      simp only [Nat.zero_add, if_true]
      have noK : 0 < c → ∀ Q b, K Q b → ft T n Q k → n ≤ k + Q.length → False := by
        intro hc Q b hQ hf hn
        have := ((hS Q b k hQ hf hkn hn).2 hT).1 (by omega)
        have h4 := c4 0 hc
        rw [Nat.add_zero] at h4
        rw [h4] at this
        cases this
      by_cases hc : c = 3
      · subst hc
        rw [show decide (3 = 3) = true from rfl]
        have hI := ih (k + 1 + 3) (dv T 3 (k + 1) nu) c3
        obtain ⟨g1, g2, g3, g4⟩ := hI
        have mkQ : ∀ Q', ft T n Q' (k + 1 + 3) → ft T n ((g, 0) :: (-1, 1) :: (-1, 1) :: (-1, 1) :: Q') k := fun Q' hf => (ft3 hg).mpr ⟨fun _ => hT, fun j hj _ => c4 j hj, hf⟩
        refine ⟨?_, fun hs => ?_, fun hs => ?_, g4⟩
        · rintro Q b (hQ | ⟨Q', rfl, hQ⟩) hf hn
          · exact absurd (noK (by decide) Q b hQ hf hn) id
          · simp only [List.length_cons] at hn ⊢
            have := g1 Q' b hQ ((ft3 hg).mp hf).2.2 (by omega)
            refine ⟨this.1, fun he => ?_⟩
            rw [vq3]
            exact this.2 (by omega)
        · obtain ⟨Q', b, q1, q2, q3⟩ := g2 hs
          exact ⟨_, b, Or.inr ⟨Q', rfl, q1⟩, mkQ Q' q2, by simp only [List.length_cons]; omega⟩
        · obtain ⟨Q', b, q1, q2, q3⟩ := g3 hs
          exact ⟨_, b, Or.inr ⟨Q', rfl, q1⟩, mkQ Q' q2, by simp only [List.length_cons]; omega⟩
      · rw [decide_eq_false hc, grp_f, if_neg (by decide), lack_st]
        by_cases hk1 : k + 1 + c < n
        · rw [if_pos hk1]
          refine Is.dead (hF _ (show ¬ (2 : Int32) = 0 by decide)) ?_
          have hnd : digB (T (k + 1 + c)) = false := by
            rcases c5 with c5 | c5 | c5
            · exact absurd c5 hc
            · omega
            · exact c5
          rintro Q b (hQ | ⟨Q', rfl, hQ⟩) hf hn
          · rcases Nat.eq_zero_or_pos c with h0 | h0
            · subst h0
              rcases hnx with q | q
              · omega
              · rw [Nat.add_zero] at hnd
                rw [q] at hnd
                cases hnd
            · exact noK h0 Q b hQ hf hn
          · have := ((ft3 hg).mp hf).2.1 c (by omega) hk1
            rw [this] at hnd
            cases hnd
        · rw [if_neg hk1]
          obtain ⟨Q0, b0, h0⟩ := hne3 d
          refine Is.opened (hF _ (show ¬ (1 : Int32) = 0 by decide)) ⟨_, b0, Or.inr ⟨Q0, rfl, h0⟩, (ft3 hg).mpr ⟨fun _ => hT, fun j hj hk => c4 j (by omega), ft_end (by omega)⟩, by simp only [List.length_cons]; omega⟩ ?_
          rintro Q b (hQ | ⟨Q', rfl, hQ⟩) hf hn
          · rcases Nat.eq_zero_or_pos c with h0 | h0
            · have := ((hS Q b k hQ hf hkn (by omega)).2 hT).2
              omega
            · exact noK h0 Q b hQ hf (by omega)
          · simp only [List.length_cons] at hn
            omega
    · rw [grpQ, if_neg (fun q => hb q.2), if_pos rfl]
      have hI := h k nu hk
      have ha : k = n → ¬ (F (k, 0, nu)).2.2.1 = 2 := fun he => by
        have := h k nu hk
        rw [he] at this ⊢
        exact this.alive hne
      obtain ⟨g1, g2, g3, g4⟩ := hI
      refine ⟨?_, fun hs => ?_, fun hs => ?_, g4⟩
      · rintro Q b (hQ | ⟨Q', rfl, hQ⟩) hf hn
        · exact g1 Q b hQ hf hn
        · have hf := (ft3 hg).mp hf
          have hkn : k = n := by
            rcases Nat.lt_or_ge k n with q | q
            · exfalso
              apply hb
              refine gnB_iff.mpr ⟨q, hf.1 q, ?_⟩
              rcases Nat.lt_or_ge (k + 1) n with q2 | q2
              · exact Or.inr (hf.2.1 0 (by decide) q2)
              · exact Or.inl q2
            · omega
          refine ⟨ha hkn, fun he => ?_⟩
          simp only [List.length_cons] at he
          omega
      · obtain ⟨Q', b, q1, q2, q3⟩ := g2 hs
        exact ⟨_, b, Or.inl q1, q2, q3⟩
      · obtain ⟨Q', b, q1, q2, q3⟩ := g3 hs
        exact ⟨_, b, Or.inl q1, q2, q3⟩
theorem k2_len {d : Nat} {Q : Pat} {b : Bool} (h : K2 g K d Q b) : ∃ r, Q = (g, 0) :: r := by
  cases d with
  | zero => cases h
  | succ d =>
    rcases h with ⟨Q', rfl, -⟩ | ⟨Q', rfl, -⟩
    · exact ⟨_, rfl⟩
    · exact ⟨_, rfl⟩
theorem is_g2 {x : Int32} (hx : ¬ x = 0) (hg : ¬ g < 0) (hgd : digB g = false) (hF : ∀ q : Qs, ¬ q.2.1 = 0 → (F q).2.2.1 = q.2.1) (hne : ∃ Q b, K Q b) (hS : Sep T n g K) (h : ∀ (j : Nat) (v : Int64), j ≤ n → Is T n K (vq T j v) j (F (j, 0, v))) : ∀ (d : Nat) (cm : Bool) (k : Nat) (nu : Int64), k ≤ n → (cm = true ∨ k < n) → Is T n (fun Q b => (cm = true ∧ K Q b) ∨ K2 g K d Q b) (vq T k nu) k (F (grpQ T n g x d true cm (k, 0, nu))) := by
  intro d
  obtain ⟨Q0, b0, h0⟩ := hne
  induction d with
  | zero =>
    intro cm k nu hk hcm
    cases cm with
    | true =>
      refine Is.congr (h k nu hk) (fun Q b => ?_) (fun _ _ _ => rfl)
      simp [K2]
    | false =>
      have hkn : k < n := by
        rcases hcm with q | q
        · cases q
        · exact q
      have e : grpQ T n g x 0 true false (k, 0, nu) = (k, 2, nu) := by
        rw [grpQ, if_neg (by decide), lack_st, if_pos hkn]
      rw [e]
      refine Is.dead (hF _ (show ¬ (2 : Int32) = 0 by decide)) ?_
      rintro Q b (⟨q, -⟩ | hQ) - -
      · cases q
      · exact hQ
  | succ d ih =>
    intro cm k nu hk hcm
    by_cases hb : gnB T n g (k, 0, nu) = true
    · obtain ⟨hkn, hT, hnx⟩ := gnB_iff.mp hb
      rw [grpQ, if_pos ⟨rfl, hb⟩]
      obtain ⟨c, c1, c2, c3, c4, c5⟩ := digs_spec (T := T) (n := n) 3 0 (k + 1) nu (by omega)
      have c2' : digsQ T n 3 0 ((k, 0, nu).1 + 1, (k, (0 : Int32), nu).2) = (0 + c, (k + 1 + c, 0, dv T c (k + 1) nu)) := c2
      rw [c2']
      simp only [Nat.zero_add, if_neg hx]
      have noK : 0 < c → ∀ Q b, K Q b → ft T n Q k → n ≤ k + Q.length → False := by
        intro hc Q b hQ hf hn
        have := ((hS Q b k hQ hf hkn hn).2 hT).1 (by omega)
        have h4 := c4 0 hc
        rw [Nat.add_zero] at h4
        rw [h4] at this
        cases this
      by_cases hc : c = 3
      · subst hc
        rw [show decide (3 = 3) = true from rfl, show decide (3 = 2) = false from rfl, grp_f, if_pos rfl]
        have hI := h (k + 1 + 3) (dv T 3 (k + 1) nu) c3
        obtain ⟨g1, g2, g3, g4⟩ := hI
        have mkQ : ∀ Q', ft T n Q' (k + 1 + 3) → ft T n ((g, 0) :: (-1, 1) :: (-1, 1) :: (-1, 1) :: Q') k := fun Q' hf => (ft3 hg).mpr ⟨fun _ => hT, fun j hj _ => c4 j hj, hf⟩
        refine ⟨?_, fun hs => ?_, fun hs => ?_, g4⟩
        · rintro Q b (⟨-, hQ⟩ | ⟨Q', rfl, hQ⟩ | ⟨Q', rfl, hQ⟩) hf hn
          · exact absurd (noK (by decide) Q b hQ hf hn) id
          · simp only [List.length_cons] at hn ⊢
            have := g1 Q' b hQ ((ft3 hg).mp hf).2.2 (by omega)
            refine ⟨this.1, fun he => ?_⟩
            rw [vq3]
            exact this.2 (by omega)
          · exfalso
            obtain ⟨r, rfl⟩ := k2_len hQ
            have := (pm_sg hg).mp (((ft2 hg).mp hf).2.2.1 (by omega))
            have h4 := c4 2 (by decide)
            rw [show k + 1 + 2 = k + 3 by omega, this, hgd] at h4
            cases h4
        · obtain ⟨Q', b, q1, q2, q3⟩ := g2 hs
          exact ⟨_, b, Or.inr (Or.inl ⟨Q', rfl, q1⟩), mkQ Q' q2, by simp only [List.length_cons]; omega⟩
        · obtain ⟨Q', b, q1, q2, q3⟩ := g3 hs
          exact ⟨_, b, Or.inr (Or.inl ⟨Q', rfl, q1⟩), mkQ Q' q2, by simp only [List.length_cons]; omega⟩
      · have wit : k + 1 + c = n → ∃ Q b, ((cm = true ∧ K Q b) ∨ K2 g K (d + 1) Q b) ∧ ft T n Q k ∧ n ≤ k + Q.length := fun hn => ⟨_, b0, Or.inr (Or.inl ⟨Q0, rfl, h0⟩), (ft3 hg).mpr ⟨fun _ => hT, fun j hj hk => c4 j (by omega), ft_end (by omega)⟩, by simp only [List.length_cons]; omega⟩
        have noF : k + 1 + c = n → ∀ Q b, ((cm = true ∧ K Q b) ∨ K2 g K (d + 1) Q b) → ft T n Q k → k + Q.length = n → False := by
          rintro hcn Q b (⟨-, hQ⟩ | ⟨Q', rfl, hQ⟩ | ⟨Q', rfl, hQ⟩) hf hn
          · rcases Nat.eq_zero_or_pos c with h0 | h0
            · have := ((hS Q b k hQ hf hkn (by omega)).2 hT).2
              omega
            · exact noK h0 Q b hQ hf (by omega)
          · simp only [List.length_cons] at hn
            omega
          · obtain ⟨r, rfl⟩ := k2_len hQ
            simp only [List.length_cons] at hn
            omega
        have hnd : k + 1 + c < n → digB (T (k + 1 + c)) = false := by
          intro hl
          rcases c5 with c5 | c5 | c5
          · exact absurd c5 hc
          · omega
          · exact c5
        have noK2 : k + 1 + c < n → ∀ Q b, K Q b → ft T n Q k → n ≤ k + Q.length → False := by
          intro hl Q b hQ hf hn
          rcases Nat.eq_zero_or_pos c with h0 | h0
          · subst h0
            have hnd := hnd hl
            rcases hnx with q | q
            · omega
            · rw [Nat.add_zero] at hnd
              rw [q] at hnd
              cases hnd
          · exact noK h0 Q b hQ hf hn
        rw [decide_eq_false hc]
        by_cases hc2 : c = 2
        · subst hc2
          rw [show decide (2 = 2) = true from rfl]
          rcases Nat.lt_or_ge (k + 1 + 2) n with hl | hl
          · obtain ⟨g1, g2, g3, g4⟩ := ih false (k + 1 + 2) (dv T 2 (k + 1) nu) c3 (Or.inr hl)
            have mkQ : ∀ Q', ft T n Q' (k + 1 + 2) → ft T n ((g, 0) :: (-1, 1) :: (-1, 1) :: Q') k := fun Q' hf => (ft2 hg).mpr ⟨fun _ => hT, fun j hj _ => c4 j hj, hf⟩
            refine ⟨?_, fun hs => ?_, fun hs => ?_, g4⟩
            · rintro Q b (⟨-, hQ⟩ | ⟨Q', rfl, hQ⟩ | ⟨Q', rfl, hQ⟩) hf hn
              · exact absurd (noK2 hl Q b hQ hf hn) id
              · exfalso
                have := ((ft3 hg).mp hf).2.1 2 (by decide) hl
                rw [hnd hl] at this
                cases this
              · simp only [List.length_cons] at hn ⊢
                have := g1 Q' b (Or.inr hQ) ((ft2 hg).mp hf).2.2 (by omega)
                refine ⟨this.1, fun he => ?_⟩
                rw [vq2]
                exact this.2 (by omega)
            · obtain ⟨Q', b, q1, q2, q3⟩ := g2 hs
              rcases q1 with ⟨q1, -⟩ | q1
              · cases q1
              · exact ⟨_, b, Or.inr (Or.inr ⟨Q', rfl, q1⟩), mkQ Q' q2, by simp only [List.length_cons]; omega⟩
            · obtain ⟨Q', b, q1, q2, q3⟩ := g3 hs
              rcases q1 with ⟨q1, -⟩ | q1
              · cases q1
              · exact ⟨_, b, Or.inr (Or.inr ⟨Q', rfl, q1⟩), mkQ Q' q2, by simp only [List.length_cons]; omega⟩
          · have hcn : k + 1 + 2 = n := by omega
            have e : grpQ T n g x d true false (k + 1 + 2, 0, dv T 2 (k + 1) nu) = (k + 1 + 2, 1, dv T 2 (k + 1) nu) := by
              have hl2 : lackQ n (k + 1 + 2, 0, dv T 2 (k + 1) nu) = (k + 1 + 2, 1, dv T 2 (k + 1) nu) := by
                rw [lack_st, if_neg (by omega)]
              cases d with
              | zero => rw [grpQ, if_neg (by decide), hl2]
              | succ d =>
                rw [grpQ, if_neg (fun q => by have := (gnB_iff.mp q.2).1; omega), if_neg (by decide), hl2]
            rw [e]
            exact Is.opened (hF _ (show ¬ (1 : Int32) = 0 by decide)) (wit hcn) (noF hcn)
        · rw [decide_eq_false hc2, grp_f, if_neg (by decide), lack_st]
          by_cases hk1 : k + 1 + c < n
          · rw [if_pos hk1]
            have hlt3 : c < 3 := Nat.lt_of_le_of_ne c1 hc
            have hlt2 : c < 2 := Nat.lt_of_le_of_ne (Nat.lt_succ_iff.mp hlt3) hc2
            refine Is.dead (hF _ (show ¬ (2 : Int32) = 0 by decide)) ?_
            rintro Q b (⟨-, hQ⟩ | ⟨Q', rfl, hQ⟩ | ⟨Q', rfl, hQ⟩) hf hn
            · exact noK2 hk1 Q b hQ hf hn
            · have := ((ft3 hg).mp hf).2.1 c hlt3 hk1
              rw [hnd hk1] at this
              cases this
            · have := ((ft2 hg).mp hf).2.1 c hlt2 hk1
              rw [hnd hk1] at this
              cases this
          · rw [if_neg hk1]
            exact Is.opened (hF _ (show ¬ (1 : Int32) = 0 by decide)) (wit (by omega)) (noF (by omega))
    · have nog : k < n → ∀ Q b, K2 g K (d + 1) Q b → ft T n Q k → False := by
        rintro hkn Q b hQ hf
        apply hb
        rcases hQ with ⟨Q', rfl, hQ⟩ | ⟨Q', rfl, hQ⟩
        · have hf := (ft3 hg).mp hf
          refine gnB_iff.mpr ⟨hkn, hf.1 hkn, ?_⟩
          rcases Nat.lt_or_ge (k + 1) n with q2 | q2
          · exact Or.inr (hf.2.1 0 (by decide) q2)
          · exact Or.inl q2
        · have hf := (ft2 hg).mp hf
          refine gnB_iff.mpr ⟨hkn, hf.1 hkn, ?_⟩
          rcases Nat.lt_or_ge (k + 1) n with q2 | q2
          · exact Or.inr (hf.2.1 0 (by decide) q2)
          · exact Or.inl q2
      rw [grpQ, if_neg (fun q => hb q.2)]
      cases cm with
      | true =>
        rw [if_pos rfl]
        have hI := h k nu hk
        have ha : k = n → ¬ (F (k, 0, nu)).2.2.1 = 2 := fun he => by
          have := h k nu hk
          rw [he] at this ⊢
          exact this.alive ⟨Q0, b0, h0⟩
        obtain ⟨g1, g2, g3, g4⟩ := hI
        refine ⟨?_, fun hs => ?_, fun hs => ?_, g4⟩
        · rintro Q b (⟨-, hQ⟩ | hQ) hf hn
          · exact g1 Q b hQ hf hn
          · have hkn : k = n := by
              rcases Nat.lt_or_ge k n with q | q
              · exact absurd (nog q Q b hQ hf) id
              · omega
            refine ⟨ha hkn, fun he => ?_⟩
            obtain ⟨r, rfl⟩ := k2_len hQ
            simp only [List.length_cons] at he
            omega
        · obtain ⟨Q', b, q1, q2, q3⟩ := g2 hs
          exact ⟨_, b, Or.inl ⟨rfl, q1⟩, q2, q3⟩
        · obtain ⟨Q', b, q1, q2, q3⟩ := g3 hs
          exact ⟨_, b, Or.inl ⟨rfl, q1⟩, q2, q3⟩
      | false =>
        have hkn : k < n := by
          rcases hcm with q | q
          · cases q
          · exact q
        rw [if_neg (by decide), lack_st, if_pos hkn]
        refine Is.dead (hF _ (show ¬ (2 : Int32) = 0 by decide)) ?_
        rintro Q b (⟨q, -⟩ | hQ) hf hn
        · cases q
        · exact nog hkn Q b hQ hf
end ISGRP
