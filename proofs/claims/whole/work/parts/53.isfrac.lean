/-! ===== amounts: digits, the fraction ===== -/
/-- c digits from k on, as one number behind v -/
def dv (T : Nat → Int32) : Nat → Nat → Int64 → Int64
  | 0, _, v => v
  | c + 1, k, v => dv T c (k + 1) (v * 10 + (T k - 48).toInt64)
section ISFRAC
variable {T : Nat → Int32} {n : Nat}
/-- what passDigits finds -/
theorem digs_spec : ∀ (d a k : Nat) (nu : Int64), k ≤ n → ∃ c, c ≤ d ∧ digsQ T n d a (k, 0, nu) = (a + c, (k + c, 0, dv T c k nu)) ∧ k + c ≤ n ∧ (∀ j, j < c → digB (T (k + j)) = true) ∧ (c = d ∨ k + c = n ∨ digB (T (k + c)) = false) := by
  intro d
  induction d with
  | zero => exact fun a k nu hk => ⟨0, Nat.le_refl _, rfl, hk, fun j hj => absurd hj (Nat.not_lt_zero _), Or.inl rfl⟩
  | succ d ih =>
    intro a k nu hk
    by_cases h : k < n ∧ digB (T k) = true
    · obtain ⟨c, h1, h2, h3, h4, h5⟩ := ih (a + 1) (k + 1) (nu * 10 + (T k - 48).toInt64) (by omega)
      refine ⟨c + 1, by omega, ?_, by omega, ?_, ?_⟩
      · rw [digsQ, if_pos ⟨rfl, h.1, h.2⟩]
        show digsQ T n d (a + 1) (k + 1, 0, nu * 10 + (T k - 48).toInt64) = _
        rw [h2, dv]
        rw [show a + 1 + c = a + (c + 1) by omega, show k + 1 + c = k + (c + 1) by omega]
      · intro j hj
        cases j with
        | zero => exact h.2
        | succ j =>
          have := h4 j (by omega)
          rw [show k + 1 + j = k + (j + 1) by omega] at this
          exact this
      · rcases h5 with h5 | h5 | h5
        · exact Or.inl (by omega)
        · exact Or.inr (Or.inl (by omega))
        · rw [show k + 1 + c = k + (c + 1) by omega] at h5
          exact Or.inr (Or.inr h5)
    · refine ⟨0, by omega, ?_, hk, fun j hj => absurd hj (Nat.not_lt_zero _), ?_⟩
      · rw [digsQ, if_neg (fun q => h ⟨q.2.1, q.2.2⟩)]
        rfl
      · rcases Nat.lt_or_ge k n with q | q
        · refine Or.inr (Or.inr ?_)
          cases hd : digB (T k) with
          | true => exact absurd ⟨q, hd⟩ h
          | false => rfl
        · exact Or.inr (Or.inl (by omega))
theorem ft_rep {p k : Nat} {x : Int32} : ft T n (List.replicate p (-1, x)) k ↔ ∀ j, j < p → k + j < n → digB (T (k + j)) = true := by
  rw [ft_all]
  simp only [List.length_replicate, List.map_replicate]
  constructor
  · intro h j hj hk
    have := h j hj hk
    rw [List.getD_eq_getElem?_getD, List.getElem?_replicate, if_pos hj] at this
    rw [← pm_d]
    exact this
  · intro h j hj hk
    rw [List.getD_eq_getElem?_getD, List.getElem?_replicate, if_pos hj]
    have := h j hj hk
    rw [← pm_d] at this
    exact this
theorem cls_app (P Q : Pat) (k : Nat) (v : Int64) : cls T (P ++ Q) k v = cls T Q (k + P.length) (cls T P k v) := by
  induction P generalizing k v with
  | nil => rfl
  | cons c r ih =>
    simp only [List.cons_append, cls, ih, List.length_cons]
    rw [show k + 1 + r.length = k + (r.length + 1) by omega]
theorem tw_app (P Q : Pat) : tw (P ++ Q) = tw P + tw Q := by
  induction P with
  | nil => simp [tw]
  | cons c r ih =>
    simp only [List.cons_append, tw, ih]
    omega
theorem cls_rep (p : Nat) (x : Int32) (hx : ¬ x = 0) (k : Nat) (v : Int64) : cls T (List.replicate p (-1, x)) k v = dv T p k v := by
  induction p generalizing k v with
  | zero => rfl
  | succ p ih =>
    simp only [List.replicate_succ, cls, if_neg hx, dv, ih]
theorem tw_rep2 (p : Nat) : tw (List.replicate p (-1, 2)) = p := by
  induction p with
  | zero => rfl
  | succ p ih =>
    simp only [List.replicate_succ, tw, ih]
    simp
    omega
theorem tw_rep1 (p : Nat) : tw (List.replicate p (-1, 1)) = 0 := by
  induction p with
  | zero => rfl
  | succ p ih =>
    simp only [List.replicate_succ, tw, ih]
    rfl
theorem pPat_0 (pt : Int32) : pPat pt 0 = [] := rfl
theorem pPat_s (pt : Int32) (p : Nat) : pPat pt (p + 1) = (pt, 0) :: List.replicate (p + 1) (-1, 2) := by
  unfold pPat
  rw [if_pos (by omega)]
theorem is_frac {pt : Int32} {K : Pat → Bool → Prop} {F : Qs → Bool × Qs} {k : Nat} {nu : Int64} (hpt : pt = 44 ∨ pt = 46) (hF : ∀ q : Qs, ¬ q.2.1 = 0 → (F q).2.2.1 = q.2.1) (hne : ∃ Q b, K Q b) (hH : ∀ Q b, K Q b → Hd Q ∧ Z0 Q)
    (h : ∀ (j : Nat) (v : Int64), j ≤ n → Is T n K (fun _ => v) j (F (j, 0, v))) (hk : k ≤ n) : Is T n (Kfr pt K) (vq T k nu) k (F (fracQ T n pt (k, 0, nu))) := by
  have hpt0 : ¬ pt < 0 := by rcases hpt with rfl | rfl <;> decide
  have vz : ∀ (Q : Pat) (j : Nat) (v : Int64), Z0 Q → cls T Q j v = v ∧ tw Q = 0 := fun Q j v hz => z0_cls hz j v
  -- what does not begin with the point
  have nope : k < n → T k = pt → ∀ Q b, K Q b → ft T n Q k → n ≤ k + Q.length → False := by
    intro hkn hT Q b hQ hf hn
    have := hd_at (hH Q b hQ).1 hf hkn hn
    rcases hpt with rfl | rfl
    · exact this.2.1 hT
    · exact this.2.2.1 hT
  unfold fracQ
  by_cases hp : passB T n pt (k, 0, nu) = true
  · rw [if_pos hp]
    have hp2 := hp
    simp only [passB, decide_eq_true_eq] at hp2
    obtain ⟨-, hkn, hT⟩ := hp2
    have e2 : passQ T n pt (k, 0, nu) = (k + 1, 0, nu) := by
      unfold passQ
      rw [if_pos hp]
    rw [e2]
    obtain ⟨c, c1, c2, c3, c4, c5⟩ := digs_spec (T := T) (n := n) 6 0 (k + 1) nu (by omega)
    rw [c2, mulQ_eq]
    simp only [Nat.zero_add]
    by_cases hc : c = 0
    · subst hc
      rw [if_pos rfl]
      have hl : lackQ n (k + 1 + 0, 0, dv T 0 (k + 1) nu) = (k + 1, (if k + 1 < n then 2 else 1), nu) := by
        unfold lackQ
        rw [if_pos rfl]
        rfl
      rw [hl]
      by_cases hk1 : k + 1 < n
      · rw [if_pos hk1]
        refine Is.dead (hF _ (show ¬ (2 : Int32) = 0 by decide)) ?_
        rintro Q b ⟨p, hp6, Q', rfl, hQ⟩ hf hn
        cases p with
        | zero => exact nope hkn hT Q' b hQ hf hn
        | succ p =>
          rw [pPat_s] at hf
          have h1 := (ft_app.mp hf.2).1
          have := (ft_rep.mp h1) 0 (by omega) (by omega)
          rcases c5 with c5 | c5 | c5
          · exact absurd c5 (by decide)
          · omega
          · rw [this] at c5
            cases c5
      · rw [if_neg hk1]
        obtain ⟨Q0, b0, h0⟩ := hne
        refine Is.opened (hF _ (show ¬ (1 : Int32) = 0 by decide)) ⟨pPat pt 1 ++ Q0, b0, ⟨1, by decide, Q0, rfl, h0⟩, ?_, ?_⟩ ?_
        · exact ⟨fun _ => (pm_sg hpt0).mpr hT, ft_end (by omega)⟩
        · simp only [pPat, List.length_append, List.length_cons, if_pos (show 0 < 1 by decide)]
          omega
        · rintro Q b ⟨p, hp6, Q', rfl, hQ⟩ hf hn
          cases p with
          | zero => exact nope hkn hT Q' b hQ hf (Nat.le_of_eq hn.symm)
          | succ p =>
            rw [pPat_s] at hn
            simp only [List.cons_append, List.length_cons, List.length_append, List.length_replicate] at hn
            omega
    · rw [if_neg hc]
      have hI := h (k + 1 + c) (dv T c (k + 1) nu * p10 (6 - c)) c3
      have ha : k + 1 + c = n → ¬ (F (k + 1 + c, 0, dv T c (k + 1) nu * p10 (6 - c))).2.2.1 = 2 := fun he => by
        have := h (k + 1 + c) (dv T c (k + 1) nu * p10 (6 - c)) c3
        rw [he] at this ⊢
        exact this.alive hne
      obtain ⟨g1, g2, g3, g4⟩ := hI
      have mkQ : ∀ Q', ft T n Q' (k + 1 + c) → ft T n (pPat pt c ++ Q') k ∧ k + (pPat pt c ++ Q').length = k + 1 + c + Q'.length := by
        intro Q' hf
        obtain ⟨c', rfl⟩ : ∃ c', c = c' + 1 := ⟨c - 1, by omega⟩
        rw [pPat_s]
        refine ⟨⟨fun _ => (pm_sg hpt0).mpr hT, ft_app.mpr ⟨ft_rep.mpr (fun j hj _ => c4 j hj), ?_⟩⟩, ?_⟩
        · rw [List.length_replicate]
          exact hf
        · simp only [List.cons_append, List.length_cons, List.length_append, List.length_replicate]
          omega
      refine ⟨?_, fun hs => ?_, fun hs => ?_, g4⟩
      · rintro Q b ⟨p, hp6, Q', rfl, hQ⟩ hf hn
        cases p with
        | zero => exact absurd (nope hkn hT Q' b hQ hf hn) id
        | succ p =>
          rw [pPat_s] at hf hn ⊢
          have hf2 := ft_app.mp hf.2
          have hd := ft_rep.mp hf2.1
          have hr := hf2.2
          simp only [List.cons_append, List.length_cons, List.length_append, List.length_replicate] at hn hr ⊢
          rcases Nat.lt_trichotomy (p + 1) c with hpc | hpc | hpc
          · exfalso
            have := hd_at (hH Q' b hQ).1 hr (by omega) (by omega)
            rw [c4 (p + 1) hpc] at this
            exact absurd this.1 (by decide)
          · subst hpc
            have := g1 Q' b hQ hr (by omega)
            refine ⟨this.1, fun he => ?_⟩
            obtain ⟨a1, a2, a3⟩ := this.2 (by omega)
            refine ⟨a1, a2, ?_⟩
            rw [a3]
            unfold vq
            have e3 : cls T ((pt, 0) :: (List.replicate (p + 1) (-1, 2) ++ Q')) k nu = dv T (p + 1) (k + 1) nu := by
              show cls T (List.replicate (p + 1) (-1, 2) ++ Q') (k + 1) nu = _
              rw [cls_app, cls_rep _ _ (by decide), (vz Q' _ _ (hH Q' b hQ).2).1]
            have e4 : tw ((pt, 0) :: (List.replicate (p + 1) (-1, 2) ++ Q')) = p + 1 := by
              show 0 + tw (List.replicate (p + 1) (-1, 2) ++ Q') = _
              rw [tw_app, tw_rep2, (vz Q' 0 0 (hH Q' b hQ).2).2]
              omega
            rw [e3, e4]
          · rcases c5 with c5 | c5 | c5
            · omega
            · exact ⟨ha c5, fun he => by omega⟩
            · rcases Nat.lt_or_ge (k + 1 + c) n with q | q
              · exfalso
                have := hd c hpc q
                rw [this] at c5
                cases c5
              · exact ⟨ha (by omega), fun he => by omega⟩
      · obtain ⟨Q', b, q1, q2, q3⟩ := g2 hs
        obtain ⟨f1, f2⟩ := mkQ Q' q2
        exact ⟨_, b, ⟨c, c1, Q', rfl, q1⟩, f1, by omega⟩
      · obtain ⟨Q', b, q1, q2, q3⟩ := g3 hs
        obtain ⟨f1, f2⟩ := mkQ Q' q2
        exact ⟨_, b, ⟨c, c1, Q', rfl, q1⟩, f1, by omega⟩
  · rw [if_neg hp, mulQ_eq]
    have hI := h k (nu * p10 6) hk
    have ha : k = n → ¬ (F (k, 0, nu * p10 6)).2.2.1 = 2 := fun he => by
      have := h k (nu * p10 6) hk
      rw [he] at this ⊢
      exact this.alive hne
    obtain ⟨g1, g2, g3, g4⟩ := hI
    refine ⟨?_, fun hs => ?_, fun hs => ?_, g4⟩
    · rintro Q b ⟨p, hp6, Q', rfl, hQ⟩ hf hn
      cases p with
      | zero =>
        have := g1 Q' b hQ hf hn
        refine ⟨this.1, fun he => ?_⟩
        obtain ⟨a1, a2, a3⟩ := this.2 he
        refine ⟨a1, a2, ?_⟩
        rw [a3]
        unfold vq
        show _ = cls T Q' k nu * p10 (6 - tw Q')
        rw [(vz Q' k nu (hH Q' b hQ).2).1, (vz Q' k nu (hH Q' b hQ).2).2]
      | succ p =>
        rw [pPat_s] at hf hn ⊢
        have hkn : k = n := by
          rcases Nat.lt_or_ge k n with q | q
          · exfalso
            apply hp
            simp only [passB, decide_eq_true_eq]
            exact ⟨trivial, q, (pm_sg hpt0).mp (hf.1 q)⟩
          · omega
        refine ⟨ha hkn, fun he => ?_⟩
        simp only [List.cons_append, List.length_cons] at he
        omega
    · obtain ⟨Q', b, q1, q2, q3⟩ := g2 hs
      exact ⟨Q', b, ⟨0, by decide, Q', rfl, q1⟩, q2, q3⟩
    · obtain ⟨Q', b, q1, q2, q3⟩ := g3 hs
      exact ⟨Q', b, ⟨0, by decide, Q', rfl, q1⟩, q2, q3⟩
end ISFRAC
