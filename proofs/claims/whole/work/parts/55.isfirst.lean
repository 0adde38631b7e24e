/-! ===== amounts: the first digits, with groups behind them ===== -/
def limG (x : Int32) : Nat := if x = 0 then 3 else 2
def Kg (g x : Int32) (K : Pat → Bool → Prop) (Q : Pat) (b : Bool) : Prop := if x = 0 then (∃ Q', Q = (g, 0) :: (-1, 1) :: (-1, 1) :: (-1, 1) :: Q' ∧ K3 g K 1 Q' b) else K2 g K 3 Q b
def Km (g x : Int32) (K : Pat → Bool → Prop) (c : Nat) (Q : Pat) (b : Bool) : Prop := K Q b ∨ (¬ g = 0 ∧ c ≤ limG x ∧ Kg g x K Q b)
def wPat (c : Nat) : Pat := (-2, 1) :: List.replicate (c - 1) (-1, 1)
def Kw (g x : Int32) (K : Pat → Bool → Prop) (Q : Pat) (b : Bool) : Prop := (∃ Q', Q = (-1, 1) :: Q' ∧ K Q' b) ∨ ∃ c, 1 ≤ c ∧ c ≤ 9 ∧ ∃ Q', Q = wPat c ++ Q' ∧ ((2 ≤ c ∧ K Q' b) ∨ (¬ g = 0 ∧ c ≤ limG x ∧ Kg g x K Q' b))
theorem dig_n {c : Int32} (h : digB c = true) : ∃ d, d ≤ 9 ∧ c = nI (48 + d) ∧ (c - 48).toInt64 = lN d := by
  simp only [digB, decide_eq_true_eq] at h
  obtain ⟨j, hj, rfl⟩ := nI_of (x := c) (fun q => h.1 (Int32.lt_trans q (by decide)))
  have h1 : 48 ≤ j := by
    rcases Nat.lt_or_ge j 48 with q | q
    · exact absurd (nI_lt (b := 48) q (by decide)) h.1
    · exact q
  have h2 : j ≤ 57 := by
    rcases Nat.lt_or_ge 57 j with q | q
    · exact absurd (nI_lt (a := 57) q hj) h.2
    · exact q
  refine ⟨j - 48, by omega, by rw [show 48 + (j - 48) = j by omega], ?_⟩
  rw [show nI j - 48 = nI (j - 48) from pk_sub (b := 48) h1, nI_l (by omega)]
theorem dv_n {T : Nat → Int32} : ∀ (c k v : Nat), (∀ j, j < c → digB (T (k + j)) = true) → ∃ u, dv T c k (lN v) = lN u ∧ v * 10 ^ c ≤ u ∧ u < (v + 1) * 10 ^ c := by
  intro c
  induction c with
  | zero => exact fun k v _ => ⟨v, rfl, by omega, by omega⟩
  | succ c ih =>
    intro k v h
    obtain ⟨d, d1, -, d2⟩ := dig_n (h 0 (by omega))
    rw [Nat.add_zero] at d2
    have e : lN v * 10 + (T k - 48).toInt64 = lN (v * 10 + d) := by
      rw [d2, show lN v * 10 = lN (v * 10) from lN_mul v 10, lN_add]
    obtain ⟨u, u1, u2, u3⟩ := ih (k + 1) (v * 10 + d) (fun j hj => by
      have := h (j + 1) (by omega)
      rw [show k + (j + 1) = k + 1 + j by omega] at this
      exact this)
    refine ⟨u, ?_, ?_, ?_⟩
    · rw [dv, e, u1]
    · refine Nat.le_trans ?_ u2
      rw [Nat.pow_succ, Nat.mul_comm (10 ^ c) 10, ← Nat.mul_assoc]
      exact Nat.mul_le_mul_right _ (by omega)
    · refine Nat.lt_of_lt_of_le u3 ?_
      rw [Nat.pow_succ, Nat.mul_comm (10 ^ c) 10, ← Nat.mul_assoc]
      exact Nat.mul_le_mul_right _ (by omega)
theorem pm_2 {c : Int32} : pm (-2) c = true ↔ digB c = true ∧ ¬ c = 48 := by
  unfold pm digB
  rw [if_pos (by decide), if_neg (by decide)]
  simp only [decide_eq_true_eq]
  constructor
  · rintro ⟨h1, h2⟩
    refine ⟨⟨fun q => h1 (Int32.lt_trans q (by decide)), h2⟩, ?_⟩
    rintro rfl
    exact h1 (by decide)
  · rintro ⟨⟨h1, h2⟩, h3⟩
    refine ⟨fun q => ?_, h2⟩
    obtain ⟨j, hj, rfl⟩ := nI_of (x := c) (fun q => h1 (Int32.lt_trans q (by decide)))
    have a1 : 48 ≤ j := by
      rcases Nat.lt_or_ge j 48 with q | q
      · exact absurd (nI_lt (b := 48) q (by decide)) h1
      · exact q
    have a2 : j < 49 := by
      rcases Nat.lt_or_ge j 49 with q2 | q2
      · exact q2
      · exact absurd q (nI_nlt (b := 49) q2 hj)
    have : j = 48 := by omega
    subst this
    exact h3 rfl
theorem stuck_grp {t : Nat → Int32} {e : Nat} {g x : Int32} {d : Nat} {may : Bool} {q : Qs} (h : ¬ q.2.1 = 0) : grpQ t e g x d may true q = q := by
  cases d with
  | zero => rfl
  | succ d =>
    have : gnB t e g q = false := by simp [gnB, h]
    rw [grpQ, this, if_neg (by simp), if_pos rfl]
section ISFIRST
variable {T : Nat → Int32} {n : Nat} {g x : Int32} {K : Pat → Bool → Prop} {F : Qs → Bool × Qs}
theorem ft_w {c k : Nat} {Q : Pat} (hc : 1 ≤ c) : ft T n (wPat c ++ Q) k ↔ (k < n → ¬ T k = 48) ∧ (∀ j, j < c → k + j < n → digB (T (k + j)) = true) ∧ ft T n Q (k + c) := by
  unfold wPat
  simp only [List.cons_append, ft, pm_2, ft_app, ft_rep, List.length_replicate]
  rw [show k + 1 + (c - 1) = k + c by omega]
  constructor
  · rintro ⟨h1, h2, h3⟩
    refine ⟨fun q => (h1 q).2, fun j hj hk => ?_, h3⟩
    cases j with
    | zero => exact (h1 hk).1
    | succ j =>
      have := h2 j (by omega) (by omega)
      rw [show k + 1 + j = k + (j + 1) by omega] at this
      exact this
  · rintro ⟨h1, h2, h3⟩
    refine ⟨fun q => ⟨h2 0 (by omega) q, h1 q⟩, fun j hj hk => ?_, h3⟩
    have := h2 (j + 1) (by omega) (by omega)
    rw [show k + (j + 1) = k + 1 + j by omega] at this
    exact this
theorem len_w {c : Nat} (hc : 1 ≤ c) (Q : Pat) : (wPat c ++ Q).length = c + Q.length := by
  unfold wPat
  simp only [List.cons_append, List.length_cons, List.length_append, List.length_replicate]
  omega
theorem vq_w {c k : Nat} (hc : 1 ≤ c) (Q : Pat) : vq T k 0 (wPat c ++ Q) = vq T (k + c) (dv T c k 0) Q := by
  obtain ⟨c, rfl⟩ : ∃ d, c = d + 1 := ⟨c - 1, by omega⟩
  unfold vq wPat
  simp only [Nat.add_sub_cancel]
  have e1 : tw ((-2, 1) :: List.replicate c (-1, 1) ++ Q) = tw Q := by
    simp only [List.cons_append, tw, tw_app, tw_rep1]
    simp
  have e2 : cls T ((-2, 1) :: List.replicate c (-1, 1) ++ Q) k 0 = cls T Q (k + (c + 1)) (dv T (c + 1) k 0) := by
    simp only [List.cons_append, cls, cls_app, List.length_replicate]
    rw [if_neg (by decide), cls_rep _ _ (by decide), show k + 1 + c = k + (c + 1) by omega]
    rfl
  rw [e1, e2]
theorem kg_hd {Q : Pat} {b : Bool} (h : Kg g x K Q b) : ∃ r, Q = (g, 0) :: r := by
  unfold Kg at h
  split at h
  · obtain ⟨Q', rfl, -⟩ := h
    exact ⟨_, rfl⟩
  · exact k2_len h
theorem is_groups (hg : ¬ g < 0) (hgd : digB g = false) (hF : ∀ q : Qs, ¬ q.2.1 = 0 → (F q).2.2.1 = q.2.1) (hne : ∃ Q b, K Q b) (hS : Sep T n g K) (h : ∀ (j : Nat) (v : Int64), j ≤ n → Is T n K (vq T j v) j (F (j, 0, v))) (c k : Nat) (nu : Int64) (hk : k ≤ n) (hpos : ¬ lg_cmp nu 0 ≤ 0) : Is T n (Km g x K c) (vq T k nu) k (F (groupsQ T n g x c (k, 0, nu))) := by
  unfold groupsQ
  by_cases hm : ¬ g = 0 ∧ c ≤ limG x
  · have e : decide (¬ g = 0 ∧ ¬ lg_cmp ((k, 0, nu) : Qs).2.2 0 ≤ 0 ∧ c ≤ (if x = 0 then 3 else 2)) = true := decide_eq_true ⟨hm.1, hpos, hm.2⟩
    rw [e]
    by_cases hx : x = 0
    · subst hx
      rw [if_pos rfl]
      refine Is.congr (is_g3 hg hF hne hS h 2 k nu hk) (fun Q b => ?_) (fun _ _ _ => rfl)
      unfold Km Kg
      rw [if_pos rfl]
      show (K Q b ∨ _) ↔ _
      constructor
      · rintro (q | q)
        · exact Or.inl q
        · exact Or.inr ⟨hm.1, hm.2, q⟩
      · rintro (q | q)
        · exact Or.inl q
        · exact Or.inr q.2.2
    · rw [if_neg hx]
      refine Is.congr (is_g2 hx hg hgd hF hne hS h 3 true k nu hk (Or.inl rfl)) (fun Q b => ?_) (fun _ _ _ => rfl)
      unfold Km Kg
      rw [if_neg hx]
      constructor
      · rintro (q | q)
        · exact Or.inl q.2
        · exact Or.inr ⟨hm.1, hm.2, q⟩
      · rintro (q | q)
        · exact Or.inl ⟨rfl, q⟩
        · exact Or.inr q.2.2
  · have e : decide (¬ g = 0 ∧ ¬ lg_cmp ((k, 0, nu) : Qs).2.2 0 ≤ 0 ∧ c ≤ (if x = 0 then 3 else 2)) = false := decide_eq_false (fun q => hm ⟨q.1, q.2.2⟩)
    rw [e, grp_f, if_pos rfl]
    refine Is.congr (h k nu hk) (fun Q b => ?_) (fun _ _ _ => rfl)
    unfold Km
    exact ⟨Or.inl, fun q => q.elim id (fun q => absurd ⟨q.1, q.2.1⟩ hm)⟩
theorem is_first (hg : ¬ g < 0) (hgd : digB g = false) (hF : ∀ q : Qs, ¬ q.2.1 = 0 → (F q).2.2.1 = q.2.1) (hne : ∃ Q b, K Q b) (hS : Sep T n g K) (h : ∀ (j : Nat) (v : Int64), j ≤ n → Is T n K (vq T j v) j (F (j, 0, v))) (k : Nat) (hk : k ≤ n) : Is T n (Kw g x K) (vq T k 0) k (F (groupsQ T n g x (firstQ T n (k, 0, 0)).1 (firstQ T n (k, 0, 0)).2)) := by
  by_cases hp : passB T n 48 (k, 0, 0) = true
  · have hp2 := hp
    simp only [passB, decide_eq_true_eq] at hp2
    obtain ⟨-, hkn, hT⟩ := hp2
    have e : firstQ T n (k, 0, 0) = (1, (k + 1, 0, 0)) := by
      unfold firstQ passQ
      rw [if_pos hp, if_pos hp]
    have e2 : groupsQ T n g x 1 (k + 1, 0, 0) = (k + 1, 0, 0) := by
      unfold groupsQ
      rw [decide_eq_false (fun q => q.2.1 (show lg_cmp (0 : Int64) 0 ≤ 0 by decide)), grp_f, if_pos rfl]
    rw [e, e2]
    obtain ⟨g1, g2, g3, g4⟩ := h (k + 1) 0 (by omega)
    have hv : ∀ Q, vq T k 0 ((-1, 1) :: Q) = vq T (k + 1) 0 Q := by
      intro Q
      unfold vq
      simp only [cls, tw]
      rw [if_neg (by decide), hT, if_neg (by decide)]
      simp
    refine ⟨?_, fun hs => ?_, fun hs => ?_, g4⟩
    · rintro Q b (⟨Q', rfl, hQ⟩ | ⟨c, c1, c2, Q', rfl, hQ⟩) hf hn
      · simp only [List.length_cons] at hn ⊢
        have := g1 Q' b hQ hf.2 (by omega)
        refine ⟨this.1, fun he => ?_⟩
        rw [hv]
        exact this.2 (by omega)
      · exact absurd hT (((ft_w c1).mp hf).1 hkn)
    · obtain ⟨Q, b, q1, q2, q3⟩ := g2 hs
      exact ⟨_, b, Or.inl ⟨Q, rfl, q1⟩, ⟨fun _ => by rw [pm_d, hT]; rfl, q2⟩, by simp only [List.length_cons]; omega⟩
    · obtain ⟨Q, b, q1, q2, q3⟩ := g3 hs
      exact ⟨_, b, Or.inl ⟨Q, rfl, q1⟩, ⟨fun _ => by rw [pm_d, hT]; rfl, q2⟩, by simp only [List.length_cons]; omega⟩
  · obtain ⟨c, c1, c2, c3, c4, c5⟩ := digs_spec (T := T) (n := n) 9 0 k 0 hk
    rw [Nat.zero_add] at c2
    have e : firstQ T n (k, 0, 0) = if c = 0 then (0, lackQ n (k + c, 0, dv T c k 0)) else (c, (k + c, 0, dv T c k 0)) := by
      unfold firstQ
      rw [if_neg hp, c2]
    rw [e]
    by_cases hc : c = 0
    · subst hc
      rw [if_pos rfl, lack_st]
      rw [Nat.add_zero] at c5 ⊢
      by_cases hkn : k < n
      · rw [if_pos hkn]
        have hd : digB (T k) = false := by
          rcases c5 with q | q | q
          · exact absurd q (by decide)
          · omega
          · exact q
        unfold groupsQ
        rw [stuck_grp (show ¬ (2 : Int32) = 0 by decide)]
        refine Is.dead (hF _ (show ¬ (2 : Int32) = 0 by decide)) ?_
        rintro Q b (⟨Q', rfl, hQ⟩ | ⟨c, c1, c2, Q', rfl, hQ⟩) hf hn
        · have := hf.1 hkn
          rw [pm_d, hd] at this
          cases this
        · have := ((ft_w c1).mp hf).2.1 0 (by omega) hkn
          rw [Nat.add_zero, hd] at this
          cases this
      · rw [if_neg hkn]
        unfold groupsQ
        rw [stuck_grp (show ¬ (1 : Int32) = 0 by decide)]
        obtain ⟨Q0, b0, h0⟩ := hne
        refine Is.opened (hF _ (show ¬ (1 : Int32) = 0 by decide)) ⟨_, b0, Or.inl ⟨Q0, rfl, h0⟩, ft_end (by omega), by omega⟩ ?_
        rintro Q b (⟨Q', rfl, hQ⟩ | ⟨c, c1, c2, Q', rfl, hQ⟩) hf hn
        · simp only [List.length_cons] at hn
          omega
        · rw [len_w c1] at hn
          omega
    · rw [if_neg hc]
      have hc1 : 1 ≤ c := by omega
      have hkn : k < n := by omega
      have h48 : ¬ T k = 48 := fun q => hp (by simp only [passB, decide_eq_true_eq]; exact ⟨trivial, hkn, q⟩)
      have hpos : ¬ lg_cmp (dv T c k 0) 0 ≤ 0 := by
        obtain ⟨c', rfl⟩ : ∃ d, c = d + 1 := ⟨c - 1, by omega⟩
        obtain ⟨d, d1, d2, d3⟩ := dig_n (c4 0 (by omega))
        rw [Nat.add_zero] at d2 d3
        have hd0 : 1 ≤ d := by
          rcases Nat.eq_zero_or_pos d with q | q
          · subst q
            exact absurd d2 h48
          · exact q
        obtain ⟨u, u1, u2, u3⟩ := dv_n (T := T) c' (k + 1) d (fun j hj => by
          have := c4 (j + 1) (by omega)
          rw [show k + (j + 1) = k + 1 + j by omega] at this
          exact this)
        have e3 : dv T (c' + 1) k 0 = lN u := by
          rw [dv, d3, ← u1]
          congr 1
          rw [show (0 : Int64) * 10 = 0 from rfl]
          exact Int64.zero_add _
        rw [cmp_le, e3]
        intro q
        apply q
        have hu1 : 1 ≤ u := by
          have : 1 * 1 ≤ d * 10 ^ c' := Nat.mul_le_mul hd0 (Nat.one_le_pow _ _ (by decide))
          omega
        have hu2 : u < 2 ^ 31 := by
          have : (d + 1) * 10 ^ c' ≤ 10 * 10 ^ 8 := Nat.mul_le_mul (by omega) (Nat.pow_le_pow_right (by decide) (by omega))
          omega
        exact (lN_lt (a := 0) (by decide) hu2).mpr (by omega)
      have hI := is_groups hg hgd hF hne hS h (x := x) c (k + c) (dv T c k 0) c3 hpos
      have ha : k + c = n → ¬ (F (groupsQ T n g x c (k + c, 0, dv T c k 0))).2.2.1 = 2 := fun he => by
        have hI := hI
        rw [he] at hI ⊢
        obtain ⟨Q0, b0, h0⟩ := hne
        exact hI.alive ⟨Q0, b0, Or.inl h0⟩
      obtain ⟨g1, g2, g3, g4⟩ := hI
      have hw1 : ∀ Q : Pat, (-1, 1) :: Q = List.replicate 1 ((-1 : Int32), (1 : Int32)) ++ Q := fun Q => rfl
      have hv1 : ∀ Q, vq T k 0 ((-1, 1) :: Q) = vq T (k + 1) (dv T 1 k 0) Q := by
        intro Q
        unfold vq
        simp only [cls, tw, dv]
        rw [if_neg (by decide), if_neg (by decide)]
        simp
      have mkQ : ∀ Q' b, Km g x K c Q' b → ft T n Q' (k + c) → ∃ Q, Kw g x K Q b ∧ ft T n Q k ∧ Q.length = c + Q'.length := by
        intro Q' b hQ hf
        have hW : ∀ hh : (2 ≤ c ∧ K Q' b) ∨ (¬ g = 0 ∧ c ≤ limG x ∧ Kg g x K Q' b), ∃ Q, Kw g x K Q b ∧ ft T n Q k ∧ Q.length = c + Q'.length := fun hh => ⟨wPat c ++ Q', Or.inr ⟨c, hc1, c1, Q', rfl, hh⟩, (ft_w hc1).mpr ⟨fun _ => h48, fun j hj _ => c4 j hj, hf⟩, len_w hc1 _⟩
        rcases hQ with hQ | hQ
        · by_cases h1 : c = 1
          · subst h1
            refine ⟨(-1, 1) :: Q', Or.inl ⟨Q', rfl, hQ⟩, ⟨fun _ => ?_, hf⟩, by simp only [List.length_cons]; omega⟩
            have := c4 0 (by decide)
            rw [pm_d]
            exact this
          · exact hW (Or.inl ⟨by omega, hQ⟩)
        · exact hW (Or.inr hQ)
      refine ⟨?_, fun hs => ?_, fun hs => ?_, g4⟩
      · rintro Q b (⟨Q', rfl, hQ⟩ | ⟨d, d1, d2, Q', rfl, hQ⟩) hf hn
        · simp only [List.length_cons] at hn ⊢
          by_cases h1 : c = 1
          · subst h1
            have := g1 Q' b (Or.inl hQ) hf.2 (by omega)
            refine ⟨this.1, fun he => ?_⟩
            rw [hv1]
            exact this.2 (by omega)
          · exfalso
            have := (hS Q' b (k + 1) hQ hf.2 (by omega) (by omega)).1
            rw [c4 1 (by omega)] at this
            cases this
        · rw [len_w d1] at hn ⊢
          obtain ⟨f1, f2, f3⟩ := (ft_w d1).mp hf
          rcases Nat.lt_trichotomy d c with hdc | hdc | hdc
          · exfalso
            have h4 := c4 d hdc
            rcases hQ with ⟨-, hQ⟩ | ⟨-, -, hQ⟩
            · have := (hS Q' b (k + d) hQ f3 (by omega) (by omega)).1
              rw [h4] at this
              cases this
            · obtain ⟨r, rfl⟩ := kg_hd hQ
              have := (pm_sg hg).mp (f3.1 (by omega))
              rw [this, hgd] at h4
              cases h4
          · subst hdc
            have hQ2 : Km g x K d Q' b := by
              rcases hQ with ⟨-, hQ⟩ | hQ
              · exact Or.inl hQ
              · exact Or.inr hQ
            have := g1 Q' b hQ2 f3 (by omega)
            refine ⟨this.1, fun he => ?_⟩
            rw [vq_w d1]
            exact this.2 (by omega)
          · have hkc : k + c = n := by
              rcases c5 with q | q | q
              · omega
              · exact q
              · rcases Nat.lt_or_ge (k + c) n with q2 | q2
                · have := f2 c hdc q2
                  rw [q] at this
                  cases this
                · omega
            exact ⟨ha hkc, fun he => by omega⟩
      · obtain ⟨Q', b, q1, q2, q3⟩ := g2 hs
        obtain ⟨Q, r1, r2, r3⟩ := mkQ Q' b q1 q2
        exact ⟨Q, b, r1, r2, by omega⟩
      · obtain ⟨Q', b, q1, q2, q3⟩ := g3 hs
        obtain ⟨Q, r1, r2, r3⟩ := mkQ Q' b q1 q2
        exact ⟨Q, b, r1, r2, by omega⟩
end ISFIRST
