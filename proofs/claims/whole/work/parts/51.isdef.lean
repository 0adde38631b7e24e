/-! ===== amounts: what the patterns allow, against what the class's parser finds ===== -/
def ft (T : Nat → Int32) (n : Nat) : Pat → Nat → Prop
  | [], _ => True
  | c :: r, k => (k < n → pm c.1 (T k) = true) ∧ ft T n r (k + 1)
def p10 : Nat → Int64
  | 0 => 1
  | d + 1 => 10 * p10 d
/-- the digits of a pattern as one number -/
def cls (T : Nat → Int32) : Pat → Nat → Int64 → Int64
  | [], _, v => v
  | c :: r, k, v => cls T r (k + 1) (if c.2 = 0 then v else v * 10 + (T k - 48).toInt64)
def tw : Pat → Nat
  | [] => 0
  | c :: r => (if c.2 = 2 then 1 else 0) + tw r
def vq (T : Nat → Int32) (k : Nat) (nu : Int64) (Q : Pat) : Int64 := cls T Q k nu * p10 (6 - tw Q)
def Is (T : Nat → Int32) (n : Nat) (K : Pat → Bool → Prop) (V : Pat → Int64) (k : Nat) (w : Bool × Qs) : Prop :=
  (∀ Q b, K Q b → ft T n Q k → n ≤ k + Q.length → ¬ w.2.2.1 = 2 ∧ (k + Q.length = n → w.2.2.1 = 0 ∧ w.1 = b ∧ w.2.2.2 = V Q)) ∧
  (w.2.2.1 = 0 → ∃ Q b, K Q b ∧ ft T n Q k ∧ k + Q.length = n) ∧
  (w.2.2.1 = 1 → ∃ Q b, K Q b ∧ ft T n Q k ∧ n ≤ k + Q.length) ∧ (w.2.2.1 = 0 ∨ w.2.2.1 = 1 ∨ w.2.2.1 = 2)
section ISDEF
variable {T : Nat → Int32} {n : Nat}
theorem ft_app {P Q : Pat} {k : Nat} : ft T n (P ++ Q) k ↔ ft T n P k ∧ ft T n Q (k + P.length) := by
  induction P generalizing k with
  | nil => simp [ft]
  | cons c r ih =>
    simp only [List.cons_append, ft, ih, List.length_cons]
    rw [show k + 1 + r.length = k + (r.length + 1) by omega]
    exact and_assoc.symm
theorem ft_end {P : Pat} {k : Nat} (h : n ≤ k) : ft T n P k := by
  induction P generalizing k with
  | nil => exact True.intro
  | cons c r ih => exact ⟨fun q => absurd q (by omega), ih (by omega)⟩
theorem ft_all {P : Pat} {k : Nat} : ft T n P k ↔ ∀ j, j < P.length → k + j < n → pm ((P.map Prod.fst).getD j 0) (T (k + j)) = true := by
  induction P generalizing k with
  | nil => simp [ft]
  | cons c r ih =>
    simp only [ft, ih, List.length_cons, List.map_cons]
    constructor
    · rintro ⟨h1, h2⟩ j hj hk
      cases j with
      | zero => exact h1 hk
      | succ j =>
        have := h2 j (by omega) (by omega)
        rw [show k + 1 + j = k + (j + 1) by omega] at this
        exact this
    · intro h
      refine ⟨fun hk => h 0 (by omega) hk, fun j hj hk => ?_⟩
      have := h (j + 1) (by omega) (by omega)
      rw [show k + (j + 1) = k + 1 + j by omega] at this
      exact this
theorem pmAll_ft {P : Pat} (h : n ≤ P.length) : pmAll P T 0 n = true ↔ ft T n P 0 := by
  rw [ft_all]
  unfold pmAll
  rw [List.all_eq_true]
  constructor
  · intro h1 j hj hk
    have := h1 j (List.mem_range.mpr (by omega))
    simp only [Nat.zero_add] at this ⊢
    exact this
  · intro h1 j hj
    have hj := List.mem_range.mp hj
    simp only [Nat.zero_add]
    have := h1 j (by omega) (by omega)
    rw [Nat.zero_add] at this
    exact this
theorem mres_2 {P : Pat} : mres P T n = 2 ↔ P.length = n ∧ ft T n P 0 := by
  unfold mres
  by_cases h : n ≤ P.length
  · rw [if_pos h]
    have hp := pmAll_ft (T := T) h
    by_cases hf : pmAll P T 0 n = true
    · rw [if_pos hf]
      by_cases he : n = P.length
      · rw [if_pos he]
        exact ⟨fun _ => ⟨he.symm, hp.mp hf⟩, fun _ => rfl⟩
      · rw [if_neg he]
        exact ⟨fun q => absurd q (by decide), fun q => absurd q.1.symm he⟩
    · rw [if_neg hf]
      exact ⟨fun q => absurd q (by decide), fun q => absurd (hp.mpr q.2) hf⟩
  · rw [if_neg h]
    exact ⟨fun q => absurd q (by decide), fun q => by omega⟩
theorem mres_1 {P : Pat} : mres P T n = 1 ↔ n < P.length ∧ ft T n P 0 := by
  unfold mres
  by_cases h : n ≤ P.length
  · rw [if_pos h]
    have hp := pmAll_ft (T := T) h
    by_cases hf : pmAll P T 0 n = true
    · rw [if_pos hf]
      by_cases he : n = P.length
      · rw [if_pos he]
        exact ⟨fun q => absurd q (by decide), fun q => by omega⟩
      · rw [if_neg he]
        exact ⟨fun _ => ⟨by omega, hp.mp hf⟩, fun _ => rfl⟩
    · rw [if_neg hf]
      exact ⟨fun q => absurd q (by decide), fun q => absurd (hp.mpr q.2) hf⟩
  · rw [if_neg h]
    exact ⟨fun q => absurd q (by decide), fun q => by omega⟩
theorem mres_012 (P : Pat) : mres P T n = 0 ∨ mres P T n = 1 ∨ mres P T n = 2 := by
  unfold mres
  split
  · split
    · split
      · exact Or.inr (Or.inr rfl)
      · exact Or.inr (Or.inl rfl)
    · exact Or.inl rfl
  · exact Or.inl rfl
variable {K K1 K2 : Pat → Bool → Prop} {V V1 V2 : Pat → Int64} {k : Nat} {w w1 w2 : Bool × Qs}
theorem Is.congr (h : Is T n K V k w) (hK : ∀ Q b, K Q b ↔ K1 Q b) (hV : ∀ Q b, K Q b → V Q = V1 Q) : Is T n K1 V1 k w := by
  obtain ⟨h1, h2, h3, h4⟩ := h
  refine ⟨fun Q b hQ hf hn => ?_, fun hs => ?_, fun hs => ?_, h4⟩
  · have := h1 Q b ((hK Q b).mpr hQ) hf hn
    rw [hV Q b ((hK Q b).mpr hQ)] at this
    exact this
  · obtain ⟨Q, b, q1, q2, q3⟩ := h2 hs
    exact ⟨Q, b, (hK Q b).mp q1, q2, q3⟩
  · obtain ⟨Q, b, q1, q2, q3⟩ := h3 hs
    exact ⟨Q, b, (hK Q b).mp q1, q2, q3⟩
/-- at the end of the bytes, where the set is not empty, nothing is dead -/
theorem Is.alive (h : Is T n K V n w) (hK : ∃ Q b, K Q b) : ¬ w.2.2.1 = 2 := by
  obtain ⟨Q, b, hQ⟩ := hK
  exact (h.1 Q b hQ (ft_end (Nat.le_refl _)) (by omega)).1
theorem Is.dead (hw : w.2.2.1 = 2) (h : ∀ Q b, K Q b → ft T n Q k → n ≤ k + Q.length → False) : Is T n K V k w := by
  refine ⟨fun Q b hQ hf hn => absurd (h Q b hQ hf hn) id, fun q => ?_, fun q => ?_, Or.inr (Or.inr hw)⟩
  · rw [hw] at q; exact absurd q (by decide)
  · rw [hw] at q; exact absurd q (by decide)
theorem Is.opened (hw : w.2.2.1 = 1) (h : ∃ Q b, K Q b ∧ ft T n Q k ∧ n ≤ k + Q.length) (h2 : ∀ Q b, K Q b → ft T n Q k → k + Q.length = n → False) : Is T n K V k w := by
  refine ⟨fun Q b hQ hf hn => ⟨by rw [hw]; decide, fun he => absurd (h2 Q b hQ hf he) id⟩, fun q => ?_, fun _ => h, Or.inr (Or.inl hw)⟩
  rw [hw] at q; exact absurd q (by decide)
theorem pm_sg {sg c : Int32} (h : ¬ sg < 0) : pm sg c = true ↔ c = sg := by
  unfold pm
  rw [if_neg h]
  exact decide_eq_true_iff
theorem pm_d (c : Int32) : pm (-1) c = digB c := by
  unfold pm digB
  rw [if_pos (by decide), if_pos rfl]
/-- what is needed next -/
theorem Is.need {sg : Int32} {nu : Int64} {F : Qs → Bool × Qs} (hsg : ¬ sg < 0) (hF : ∀ q : Qs, ¬ q.2.1 = 0 → (F q).2.2.1 = q.2.1) (hk : k ≤ n) (hne : ∃ Q b, K Q b)
    (h : k < n → T k = sg → Is T n K V (k + 1) (F (k + 1, 0, nu))) (hV : ∀ Q, V1 ((sg, 0) :: Q) = V Q) :
    Is T n (fun Q b => ∃ Q', Q = (sg, 0) :: Q' ∧ K Q' b) V1 k (F (needQ T n sg (k, 0, nu))) := by
  by_cases hp : passB T n sg (k, 0, nu) = true
  · have hp2 := hp
    simp only [passB, decide_eq_true_eq] at hp2
    obtain ⟨-, hkn, hT⟩ := hp2
    have e : needQ T n sg (k, 0, nu) = (k + 1, 0, nu) := by
      unfold needQ
      rw [if_pos hp]
    rw [e]
    obtain ⟨h1, h2, h3, h4⟩ := h hkn hT
    refine ⟨?_, fun hs => ?_, fun hs => ?_, h4⟩
    · rintro Q b ⟨Q', rfl, hQ⟩ hf hn
      simp only [List.length_cons] at hn ⊢
      have := h1 Q' b hQ hf.2 (by omega)
      refine ⟨this.1, fun he => ?_⟩
      rw [hV]
      exact this.2 (by omega)
    · obtain ⟨Q, b, q1, q2, q3⟩ := h2 hs
      exact ⟨(sg, 0) :: Q, b, ⟨Q, rfl, q1⟩, ⟨fun _ => (pm_sg hsg).mpr hT, q2⟩, by simp only [List.length_cons]; omega⟩
    · obtain ⟨Q, b, q1, q2, q3⟩ := h3 hs
      exact ⟨(sg, 0) :: Q, b, ⟨Q, rfl, q1⟩, ⟨fun _ => (pm_sg hsg).mpr hT, q2⟩, by simp only [List.length_cons]; omega⟩
  · have e : needQ T n sg (k, 0, nu) = (k, (if k < n then 2 else 1), nu) := by
      unfold needQ
      rw [if_neg hp]
      unfold lackQ
      rw [if_pos rfl]
    rw [e]
    by_cases hkn : k < n
    · rw [if_pos hkn]
      refine Is.dead (hF (k, 2, nu) (show ¬ (2 : Int32) = 0 by decide)) ?_
      rintro Q b ⟨Q', rfl, hQ⟩ hf hn
      apply hp
      simp only [passB, decide_eq_true_eq]
      exact ⟨trivial, hkn, (pm_sg hsg).mp (hf.1 hkn)⟩
    · rw [if_neg hkn]
      obtain ⟨Q, b, hQ⟩ := hne
      refine Is.opened (hF (k, 1, nu) (show ¬ (1 : Int32) = 0 by decide)) ⟨_, b, ⟨Q, rfl, hQ⟩, ft_end (by omega), by omega⟩ ?_
      rintro Q b ⟨Q', rfl, hQ⟩ hf hn
      simp only [List.length_cons] at hn
      omega
/-- what may come next -/
theorem Is.may {sg : Int32} {nu : Int64} (hsg : ¬ sg < 0) (hk : k ≤ n) (hne : ∃ Q b, K2 Q b)
    (h1 : passB T n sg (k, 0, nu) = true → Is T n K1 V1 (k + 1) w) (h2 : ¬ passB T n sg (k, 0, nu) = true → Is T n K2 V2 k w)
    (hg : k < n → T k = sg → ∀ Q b, K2 Q b → ft T n Q k → n ≤ k + Q.length → False)
    (hV1 : ∀ Q b, K1 Q b → V ((sg, 0) :: Q) = V1 Q) (hV2 : ∀ Q b, K2 Q b → V Q = V2 Q) :
    Is T n (fun Q b => (∃ Q', Q = (sg, 0) :: Q' ∧ K1 Q' b) ∨ K2 Q b) V k w := by
  by_cases hp : passB T n sg (k, 0, nu) = true
  · have hp2 := hp
    simp only [passB, decide_eq_true_eq] at hp2
    obtain ⟨-, hkn, hT⟩ := hp2
    obtain ⟨g1, g2, g3, g4⟩ := h1 hp
    refine ⟨?_, fun hs => ?_, fun hs => ?_, g4⟩
    · rintro Q b (⟨Q', rfl, hQ⟩ | hQ) hf hn
      · simp only [List.length_cons] at hn ⊢
        have := g1 Q' b hQ hf.2 (by omega)
        refine ⟨this.1, fun he => ?_⟩
        rw [hV1 Q' b hQ]
        exact this.2 (by omega)
      · exact absurd (hg hkn hT Q b hQ hf hn) id
    · obtain ⟨Q, b, q1, q2, q3⟩ := g2 hs
      exact ⟨(sg, 0) :: Q, b, Or.inl ⟨Q, rfl, q1⟩, ⟨fun _ => (pm_sg hsg).mpr hT, q2⟩, by simp only [List.length_cons]; omega⟩
    · obtain ⟨Q, b, q1, q2, q3⟩ := g3 hs
      exact ⟨(sg, 0) :: Q, b, Or.inl ⟨Q, rfl, q1⟩, ⟨fun _ => (pm_sg hsg).mpr hT, q2⟩, by simp only [List.length_cons]; omega⟩
  · have hh := h2 hp
    have ha : k = n → ¬ w.2.2.1 = 2 := fun he => by subst he; exact hh.alive hne
    obtain ⟨g1, g2, g3, g4⟩ := hh
    refine ⟨?_, fun hs => ?_, fun hs => ?_, g4⟩
    · rintro Q b (⟨Q', rfl, hQ⟩ | hQ) hf hn
      · have hkn : k = n := by
          rcases Nat.lt_or_ge k n with q | q
          · exfalso
            apply hp
            simp only [passB, decide_eq_true_eq]
            exact ⟨trivial, q, (pm_sg hsg).mp (hf.1 q)⟩
          · omega
        refine ⟨ha hkn, fun he => ?_⟩
        simp only [List.length_cons] at he
        omega
      · rw [hV2 Q b hQ]
        exact g1 Q b hQ hf hn
    · obtain ⟨Q, b, q1, q2, q3⟩ := g2 hs
      exact ⟨Q, b, Or.inr q1, q2, q3⟩
    · obtain ⟨Q, b, q1, q2, q3⟩ := g3 hs
      exact ⟨Q, b, Or.inr q1, q2, q3⟩
end ISDEF
