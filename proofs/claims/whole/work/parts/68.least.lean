/-! ===== no value is the least long ===== -/
def cn : Pat → Nat
  | [] => 0
  | c :: r => (if c.2 = 0 then 0 else 1) + cn r
theorem cn_app (P Q : Pat) : cn (P ++ Q) = cn P + cn Q := by
  induction P with
  | nil => simp [cn]
  | cons c r ih =>
    simp only [List.cons_append, cn, ih]
    omega
def dgs (P : Pat) : Prop := ∀ c ∈ P, c.2 = 0 ∨ c.1 = -1 ∨ c.1 = -2
theorem cls_n {T : Nat → Int32} {n : Nat} : ∀ (P : Pat) (k v : Nat), dgs P → ft T n P k → k + P.length ≤ n → ∃ u, cls T P k (lN v) = lN u ∧ u < (v + 1) * 10 ^ cn P := by
  intro P
  induction P with
  | nil => exact fun k v _ _ _ => ⟨v, rfl, by simp [cn]⟩
  | cons c r ih =>
    intro k v hd hf hk
    simp only [List.length_cons] at hk
    have hr : dgs r := fun d h => hd d (List.mem_cons_of_mem _ h)
    simp only [cls, cn]
    by_cases h0 : c.2 = 0
    · rw [if_pos h0, if_pos h0, Nat.zero_add]
      exact ih (k + 1) v hr hf.2 (by omega)
    · rw [if_neg h0, if_neg h0]
      have hdig : digB (T k) = true := by
        have hp := hf.1 (by omega)
        rcases hd c List.mem_cons_self with q | q | q
        · exact absurd q h0
        · rw [q, pm_d] at hp; exact hp
        · rw [q] at hp; exact (pm_2.mp hp).1
      obtain ⟨d, d1, -, d2⟩ := dig_n hdig
      have e : lN v * 10 + (T k - 48).toInt64 = lN (v * 10 + d) := by
        rw [d2, show lN v * 10 = lN (v * 10) from lN_mul v 10, lN_add]
      rw [e]
      obtain ⟨u, u1, u2⟩ := ih (k + 1) (v * 10 + d) hr hf.2 (by omega)
      refine ⟨u, u1, Nat.lt_of_lt_of_le u2 ?_⟩
      rw [Nat.add_comm 1, Nat.pow_succ, Nat.mul_comm (10 ^ cn r) 10, ← Nat.mul_assoc]
      exact Nat.mul_le_mul_right _ (by omega)
theorem p10_n : ∀ j, j ≤ 6 → p10 j = lN (10 ^ j) := by decide
theorem cn_z {P : Pat} (h : ∀ c ∈ P, c.2 = 0) : cn P = 0 := by
  induction P with
  | nil => rfl
  | cons c r ih =>
    simp only [cn, h c List.mem_cons_self, if_true, ih (fun d hd => h d (List.mem_cons_of_mem _ hd))]
theorem cn_d (gp g : Int32) (gr : Bool) (w d k : Nat) : cn (dPat gp g gr w d k) = d := by
  induction d generalizing k with
  | zero => rfl
  | succ d ih =>
    have e : cn (if gr = true ∧ sgn gp (w - 1 - k) = true then [(g, 0)] else []) = 0 := by
      split <;> rfl
    rw [dPat, cn, cn_app, ih, e, if_neg (show ¬ (1 : Int32) = 0 by decide)]
    omega
theorem tw_d (gp g : Int32) (gr : Bool) (w d k : Nat) : tw (dPat gp g gr w d k) = 0 := by
  induction d generalizing k with
  | zero => rfl
  | succ d ih =>
    have e : tw (if gr = true ∧ sgn gp (w - 1 - k) = true then [(g, 0)] else []) = 0 := by
      split <;> rfl
    rw [dPat, tw, tw_app, ih, e, if_neg (show ¬ (1 : Int32) = 2 by decide)]
theorem dgs_app {P Q : Pat} (h1 : dgs P) (h2 : dgs Q) : dgs (P ++ Q) := fun c hc => (List.mem_append.mp hc).elim (h1 c) (h2 c)
theorem dgs_z {P : Pat} (h : ∀ c ∈ P, c.2 = 0) : dgs P := fun c hc => Or.inl (h c hc)
theorem dgs_d (gp g : Int32) (gr : Bool) (w d k : Nat) : dgs (dPat gp g gr w d k) := by
  induction d generalizing k with
  | zero => intro c hc; cases hc
  | succ d ih =>
    intro c hc
    simp only [dPat, List.mem_cons, List.mem_append] at hc
    rcases hc with rfl | hc | hc
    · dsimp only
      split
      · exact Or.inr (Or.inr rfl)
      · exact Or.inr (Or.inl rfl)
    · split at hc
      · simp only [List.mem_singleton] at hc
        rw [hc]; exact Or.inl rfl
      · cases hc
    · exact ih (k + 1) c hc
theorem cn_p (pt : Int32) {p : Nat} (hp : p ≤ 6) : cn (pPat pt p) = tw (pPat pt p) ∧ tw (pPat pt p) ≤ 6 ∧ dgs (pPat pt p) := by
  cases p with
  | zero => exact ⟨rfl, (by decide : 0 ≤ 6), fun c hc => (by cases hc)⟩
  | succ p =>
    rw [pPat_s]
    have e : ∀ q, cn (List.replicate q (-1, 2)) = q := by
      intro q
      induction q with
      | zero => rfl
      | succ q ih =>
        rw [List.replicate_succ, cn, ih, if_neg (by decide)]
        omega
    refine ⟨?_, ?_, fun c hc => ?_⟩
    · show 0 + cn (List.replicate (p + 1) (-1, 2)) = 0 + tw (List.replicate (p + 1) (-1, 2))
      rw [e, tw_rep2]
    · show 0 + tw (List.replicate (p + 1) (-1, 2)) ≤ 6
      rw [tw_rep2]; omega
    · rcases List.mem_cons.mp hc with rfl | hc
      · exact Or.inl rfl
      · rw [List.eq_of_mem_replicate hc]; exact Or.inr (Or.inl rfl)
theorem fval_n {T : Nat → Int32} {n : Nat} {pt g gp mn mk bh kd : Int32} {P : Pat} {b : Bool} (h : CA pt g gp mn mk bh kd P b) (hm : mres P T n = 2) : ∃ u, fval P T = lN u ∧ u < 10 ^ 15 := by
  rw [fval_c h]
  obtain ⟨hl, hf⟩ := mres_2.mp hm
  obtain ⟨w, w1, w2, p, p1, gr, hgr, blank, rfl⟩ := h
  have z1 : ∀ c ∈ (if b = true ∧ ¬ mn = 1 then [(if mn = 0 then (45 : Int32) else 40, (0 : Int32))] else []), c.2 = 0 := by
    intro c hc
    split at hc
    · simp only [List.mem_singleton] at hc; rw [hc]
    · cases hc
  have z2 : ∀ c ∈ (if kd = 1 ∧ bh = 0 then mkPat mk ++ (if blank = true then [((32 : Int32), (0 : Int32))] else []) else []), c.2 = 0 := by
    intro c hc
    split at hc
    · cases blank <;> simp [mkPat] at hc <;> rcases hc with rfl | rfl | rfl | rfl <;> rfl
    · cases hc
  have z3 : ∀ c ∈ (if kd = 1 ∧ ¬ bh = 0 then (if blank = true then [((32 : Int32), (0 : Int32))] else []) ++ mkPat mk else []), c.2 = 0 := by
    intro c hc
    split at hc
    · cases blank <;> simp [mkPat] at hc <;> rcases hc with rfl | rfl | rfl | rfl <;> rfl
    · cases hc
  have z4 : ∀ c ∈ (if b = true ∧ ¬ mn = 0 then [(if mn = 1 then (45 : Int32) else 41, (0 : Int32))] else []), c.2 = 0 := by
    intro c hc
    split at hc
    · simp only [List.mem_singleton] at hc; rw [hc]
    · cases hc
  have tz : ∀ L : Pat, (∀ c ∈ L, c.2 = 0) → tw L = 0 := fun L hL => (z0_cls (T := T) hL 0 0).2
  obtain ⟨p2, p3, p4⟩ := cn_p pt p1
  have hcn : cn (aPat pt g gp mn mk bh kd w p gr b blank) = w + tw (pPat pt p) := by
    unfold aPat nPat
    rw [cn_app, cn_app, cn_app, cn_app, cn_app, cn_z z1, cn_z z2, cn_z z3, cn_z z4, cn_d, p2]
    omega
  have htw : tw (aPat pt g gp mn mk bh kd w p gr b blank) = tw (pPat pt p) := by
    unfold aPat nPat
    rw [tw_app, tw_app, tw_app, tw_app, tw_app, tz _ z1, tz _ z2, tz _ z3, tz _ z4, tw_d]
    omega
  have hdg : dgs (aPat pt g gp mn mk bh kd w p gr b blank) := by
    unfold aPat nPat
    exact dgs_app (dgs_z z1) (dgs_app (dgs_z z2) (dgs_app (dgs_app (dgs_d _ _ _ _ _ _) p4) (dgs_app (dgs_z z3) (dgs_z z4))))
  obtain ⟨u, u1, u2⟩ := cls_n (T := T) (n := n) _ 0 0 hdg hf (by omega)
  refine ⟨u * 10 ^ (6 - tw (aPat pt g gp mn mk bh kd w p gr b blank)), ?_, ?_⟩
  · unfold vq
    rw [show (0 : Int64) = lN 0 from rfl, u1, p10_n _ (by omega), lN_mul]
  · rw [hcn] at u2
    rw [htw]
    generalize tw (pPat pt p) = t at u2 p3
    have hpos : 0 < 10 ^ (6 - t) := Nat.pow_pos (by decide)
    have h1 : u * 10 ^ (6 - t) < (0 + 1) * 10 ^ (w + t) * 10 ^ (6 - t) := Nat.mul_lt_mul_of_pos_right u2 hpos
    have h2 : (0 + 1) * 10 ^ (w + t) * 10 ^ (6 - t) = 10 ^ (w + 6) := by
      rw [Nat.zero_add, Nat.one_mul, ← Nat.pow_add]
      congr 1
      omega
    have h3 : 10 ^ (w + 6) ≤ 10 ^ 15 := Nat.pow_le_pow_right (by decide) (by omega)
    omega
theorem lN_le_ne {u : Nat} (h : u < 2 ^ 62) : ¬ lN u = LEAST ∧ ¬ - lN u = LEAST := by
  have h1 : (lN u).toInt = (u : Int) := pk_lT (by omega)
  have hL : (LEAST : Int64).toInt = -9223372036854775808 := by decide
  constructor
  · intro q
    have := congrArg Int64.toInt q
    rw [h1, hL] at this
    omega
  · intro q
    have q2 : lN u = - (LEAST : Int64) := by rw [← q]; exact (Int64.neg_neg).symm
    have hL2 : - (LEAST : Int64) = LEAST := by decide
    rw [hL2] at q2
    have := congrArg Int64.toInt q2
    rw [h1, hL] at this
    omega
theorem hlv_least {v : L8} {kd : Int32} {T : Nat → Int32} {n : Nat} {x : Int64} (hv : L8Ok v) (hkd : kd = 0 ∨ kd = 1 ∨ kd = 2) (h : hlv v kd T n = (2, some x)) : ¬ x = LEAST := by
  unfold hlv at h
  split at h
  · have h2 := congrArg Prod.snd h
    simp only at h2
    cases hh : (hday T v.2.2.2.2.2.2.1 v.2.2.2.2.2.2.2 n).2 with
    | none => rw [hh] at h2; cases h2
    | some y =>
      rw [hh] at h2
      have e : lN y = x := Option.some.inj h2
      rw [← e]
      have hp : ∃ w z, y = dayN (z 0) (z 1) (z 2) ∧ isDayN (z 2) (z 1) (z 0) = true ∧ okD w z := by
        have main : ∀ p1 p2 p3 : Nat, ((v.2.2.2.2.2.2.1 = 0 ∧ p1 = 0 ∧ p2 = 1 ∧ p3 = 2) ∨ (v.2.2.2.2.2.2.1 = 1 ∧ p1 = 1 ∧ p2 = 0 ∧ p3 = 2) ∨ (v.2.2.2.2.2.2.1 = 2 ∧ p1 = 2 ∧ p2 = 1 ∧ p3 = 0)) → ∃ w z, y = dayN (z 0) (z 1) (z 2) ∧ isDayN (z 2) (z 1) (z 0) = true ∧ okD w z := by
          intro p1 p2 p3 ho
          rcases hday_pp (T := T) (n := n) (sg := v.2.2.2.2.2.2.2) ho with ⟨u, ⟨w, z, q1, q2, q3⟩, q4⟩ | ⟨-, q, -⟩
          · rw [hh] at q4
            cases q4
            exact ⟨w, z, q3, q1.2.2, q1.1⟩
          · rw [hh] at q; cases q
        rcases hv.2.2.2.2.2.1 with q | q | q
        · exact main 0 1 2 (Or.inl ⟨q, rfl, rfl, rfl⟩)
        · exact main 1 0 2 (Or.inr (Or.inl ⟨q, rfl, rfl, rfl⟩))
        · exact main 2 1 0 (Or.inr (Or.inr ⟨q, rfl, rfl, rfl⟩))
      obtain ⟨w, z, q1, q2, q3⟩ := hp
      simp only [isDayN, decide_eq_true_eq] at q2
      have := dimN_le (z 1) (z 2)
      have hlt := dayN_lt (y := z 2) (m := z 1) (d := z 0) q2.2.1 q2.2.2.2.1.2 (by omega)
      rw [← q1] at hlt
      exact (lN_le_ne (by omega)).1
  · have h2 := congrArg Prod.snd h
    simp only at h2
    by_cases hex : ∃ P b, (P, b) ∈ cands v.1 v.2.1 v.2.2.1 v.2.2.2.1 v.2.2.2.2.1 v.2.2.2.2.2.1 kd (if kd = 1 then 4 else 2) ∧ mres P T n = 2
    · obtain ⟨P, b, r1, r2, r3⟩ := scan_2 _ 0 hex
      rw [r3] at h2
      have e := Option.some.inj h2
      obtain ⟨u, u1, u2⟩ := fval_n (mem_cands.mp r1) r2
      have hn := lN_le_ne (show u < 2 ^ 62 by omega)
      rw [← e, u1]
      cases b with
      | true => rw [if_pos rfl]; exact hn.2
      | false => rw [if_neg (by decide)]; exact hn.1
    · exfalso
      have hn : ∀ P b, (P, b) ∈ cands v.1 v.2.1 v.2.2.1 v.2.2.2.1 v.2.2.2.2.1 v.2.2.2.2.2.1 kd (if kd = 1 then 4 else 2) → ¬ mres P T n = 2 := fun P b hP hm => hex ⟨P, b, hP, hm⟩
      have hs := scan_01 (T := T) (n := n) _ 0 (Or.inl rfl) hn
      by_cases h1 : ∃ P b, (P, b) ∈ cands v.1 v.2.1 v.2.2.1 v.2.2.2.1 v.2.2.2.2.1 v.2.2.2.2.2.1 kd (if kd = 1 then 4 else 2) ∧ mres P T n = 1
      · rw [hs.1 (Or.inr h1)] at h2; cases h2
      · rw [hs.2 ⟨rfl, fun P b hP => ?_⟩] at h2
        · cases h2
        · rcases mres_012 (T := T) (n := n) P with q | q | q
          · exact q
          · exact absurd ⟨P, b, hP, q⟩ h1
          · exact absurd q (hn P b hP)
