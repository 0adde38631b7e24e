/-! ===== amounts: the whole of an amount ===== -/
def gQ (T : Nat → Int32) (n : Nat) (pt g x mk mb mo mn : Int32) (below : Bool) (q : Qs) : Bool × Qs := tF T n pt mk mb mo mn below (groupsQ T n g x (firstQ T n q).1 (firstQ T n q).2)
def hQ (T : Nat → Int32) (n : Nat) (pt g x mk mb mo mn : Int32) (below : Bool) (q : Qs) : Bool × Qs := if ¬ mo = 0 ∧ mb = 0 then gQ T n pt g x mk mb mo mn below (passQ T n 32 (markQ T n mk q)) else gQ T n pt g x mk mb mo mn below q
def KN (pt g x mk mb mo mn : Int32) (below : Bool) : Pat → Bool → Prop := Kw g x (Kfr pt (Kbeh mk mb mo (Kend mn below)))
def KH (pt g x mk mb mo mn : Int32) (below : Bool) : Pat → Bool → Prop := if ¬ mo = 0 ∧ mb = 0 then Kmk mk (Kbl (KN pt g x mk mb mo mn below)) else KN pt g x mk mb mo mn below
def KA (pt g x mk mb mo mn : Int32) (Q : Pat) (b : Bool) : Prop := if mn = 1 then KH pt g x mk mb mo mn false Q b else ((∃ Q', Q = (if mn = 2 then 40 else 45, 0) :: Q' ∧ KH pt g x mk mb mo mn true Q' b) ∨ KH pt g x mk mb mo mn false Q b)
/-- what a land's signs keep to -/
def gOk (pt g : Int32) : Prop := (pt = 44 ∨ pt = 46) ∧ (g = 44 ∨ g = 46 ∨ g = 32 ∨ g = 39 ∨ g = 0) ∧ ¬ g = pt
section ISALL
variable {T : Nat → Int32} {n : Nat} {pt g x mk mb mo mn : Int32} {below : Bool}
theorem stuck_first {q : Qs} (h : ¬ q.2.1 = 0) : firstQ T n q = (0, q) := by
  unfold firstQ
  rw [(stuck_pass h).1, if_neg (by decide), stuck_digs h, if_pos rfl, stuck_lack h]
theorem gQ_st {q : Qs} (h : ¬ q.2.1 = 0) : (gQ T n pt g x mk mb mo mn below q).2.2.1 = q.2.1 := by
  unfold gQ
  rw [stuck_first h]
  unfold groupsQ
  rw [stuck_grp h]
  exact tF_st h
theorem hQ_st {q : Qs} (h : ¬ q.2.1 = 0) : (hQ T n pt g x mk mb mo mn below q).2.2.1 = q.2.1 := by
  unfold hQ
  split
  · unfold markQ
    rw [stuck_need h, stuck_need h, stuck_need h, (stuck_pass h).2]
    exact gQ_st h
  · exact gQ_st h
theorem amtQ_h : amtQ T n pt g x mn mk mb mo = hQ T n pt g x mk mb mo mn (passB T n (mnA mn) (0, 0, 0)) (passQ T n (mnA mn) (0, 0, 0)) := by
  unfold amtQ aheadQ hQ
  split <;> rfl
theorem kfr_ne (hm : ∀ i, i < 3 → ltr (mbyte mk i)) : ∃ Q b, Kfr pt (Kbeh mk mb mo (Kend mn below)) Q b := by
  obtain ⟨Q, b, h⟩ := kbeh_ne (mk := mk) (mb := mb) (mo := mo) (mn := mn) (below := below) hm
  exact ⟨Q, b, 0, by decide, Q, rfl, h⟩
theorem sep_fr (hg : gOk pt g) (hm : ∀ i, i < 3 → ltr (mbyte mk i)) : Sep T n g (Kfr pt (Kbeh mk mb mo (Kend mn below))) := by
  obtain ⟨h1, h2, h3⟩ := hg
  rintro Q b j ⟨p, hp, Q', rfl, hQ⟩ hf hj hn
  have hpt0 : ¬ pt < 0 := by rcases h1 with rfl | rfl <;> decide
  cases p with
  | zero =>
    have hH := (kbeh_hd hm hQ).1
    have hA := hd_at hH hf hj hn
    refine ⟨hA.1, fun hT => ?_⟩
    rcases h2 with rfl | rfl | rfl | rfl | rfl
    · exact absurd hT hA.2.1
    · exact absurd hT hA.2.2.1
    · refine ⟨hA.2.2.2.2 hT, ?_⟩
      rcases hH with rfl | ⟨c, r, rfl, hc⟩
      · simp [pPat_0] at hn
        omega
      · have hp := hf.1 hj
        rw [hT] at hp
        rcases hc with hc | hc | hc | ⟨-, c2, r2, rfl, -⟩
        · rw [hc] at hp; exact absurd hp (by decide)
        · rw [hc] at hp; exact absurd hp (by decide)
        · have := (hd_first (Or.inr (Or.inr (Or.inl hc))) hp).1
          rw [← this] at hc
          exact absurd hc.1 (by decide)
        · show 2 ≤ (c :: c2 :: r2).length
          simp only [List.length_cons]
          omega
    · exact absurd hT hA.2.2.2.1
    · exfalso
      rcases hH with rfl | ⟨c, r, rfl, hc⟩
      · simp [pPat_0] at hn
        omega
      · have hp := hf.1 hj
        rw [hT] at hp
        rcases hc with hc | hc | hc | ⟨hc, -⟩
        · rw [hc] at hp; exact absurd hp (by decide)
        · rw [hc] at hp; exact absurd hp (by decide)
        · have := (hd_first (Or.inr (Or.inr (Or.inl hc))) hp).1
          rw [← this] at hc
          exact absurd hc.1 (by decide)
        · rw [hc] at hp; exact absurd hp (by decide)
  | succ p =>
    rw [pPat_s] at hf
    have hT := (pm_sg hpt0).mp (hf.1 hj)
    refine ⟨?_, fun q => absurd (q.symm.trans hT) h3⟩
    rw [hT]
    rcases h1 with rfl | rfl <;> decide
theorem is_num (hg : gOk pt g) (hmn : mn = 0 ∨ mn = 1 ∨ mn = 2) (hm : ∀ i, i < 3 → ltr (mbyte mk i)) (k : Nat) (hk : k ≤ n) : Is T n (KN pt g x mk mb mo mn below) (vq T k 0) k (gQ T n pt g x mk mb mo mn below (k, 0, 0)) := by
  have h1 : ∀ (j : Nat) (v : Int64), j ≤ n → Is T n (Kfr pt (Kbeh mk mb mo (Kend mn below))) (vq T j v) j (tF T n pt mk mb mo mn below (j, 0, v)) := fun j v hj => is_frac (F := tB T n mk mb mo mn below) hg.1 (fun q hq => tB_st hq) (kbeh_ne hm) (fun Q b hQ => kbeh_hd hm hQ) (fun i u hi => is_beh hmn hm hi) hj
  have g0 : ¬ g < 0 := by rcases hg.2.1 with rfl | rfl | rfl | rfl | rfl <;> decide
  have gd : digB g = false := by rcases hg.2.1 with rfl | rfl | rfl | rfl | rfl <;> decide
  exact is_first g0 gd (fun q hq => tF_st hq) (kfr_ne hm) (sep_fr hg hm) h1 k hk
theorem kn_hd {Q : Pat} {b : Bool} (h : KN pt g x mk mb mo mn below Q b) : ∃ w r, Q = (w, 1) :: r ∧ (w = -1 ∨ w = -2) := by
  rcases h with ⟨Q', rfl, -⟩ | ⟨c, -, -, Q', rfl, -⟩
  · exact ⟨_, _, rfl, Or.inl rfl⟩
  · exact ⟨_, _, rfl, Or.inr rfl⟩
theorem kn_ne (hm : ∀ i, i < 3 → ltr (mbyte mk i)) : ∃ Q b, KN pt g x mk mb mo mn below Q b := by
  obtain ⟨Q, b, h⟩ := kfr_ne (pt := pt) (mk := mk) (mb := mb) (mo := mo) (mn := mn) (below := below) hm
  exact ⟨_, b, Or.inl ⟨Q, rfl, h⟩⟩
theorem kn_dig {Q : Pat} {b : Bool} {k : Nat} (h : KN pt g x mk mb mo mn below Q b) (hf : ft T n Q k) (hk : k < n) : digB (T k) = true := by
  obtain ⟨w, r, rfl, hw⟩ := kn_hd h
  have := hf.1 hk
  rcases hw with rfl | rfl
  · rw [pm_d] at this
    exact this
  · exact (pm_2.mp this).1
theorem vq_0 (j : Nat) (sg : Int32) (Q : Pat) : vq T j 0 ((sg, 0) :: Q) = vq T (j + 1) 0 Q := by
  unfold vq
  simp [cls, tw]
theorem is_ahead (hg : gOk pt g) (hmn : mn = 0 ∨ mn = 1 ∨ mn = 2) (hm : ∀ i, i < 3 → ltr (mbyte mk i)) (k : Nat) (hk : k ≤ n) : Is T n (KH pt g x mk mb mo mn below) (vq T k 0) k (hQ T n pt g x mk mb mo mn below (k, 0, 0)) := by
  unfold KH hQ
  by_cases hc : ¬ mo = 0 ∧ mb = 0
  · rw [if_pos hc, if_pos hc]
    obtain ⟨Q0, b0, h0⟩ := kn_ne (pt := pt) (g := g) (x := x) (mk := mk) (mb := mb) (mo := mo) (mn := mn) (below := below) hm
    refine is_mark (F := fun q => gQ T n pt g x mk mb mo mn below (passQ T n 32 q)) (V := fun j => vq T j 0) hm (fun q hq => ?_) ⟨Q0, b0, Or.inr h0⟩ (fun j sg Q => vq_0 j sg Q) (fun j hj => ?_) hk
    · show (gQ T n pt g x mk mb mo mn below (passQ T n 32 q)).2.2.1 = _
      rw [(stuck_pass hq).2]
      exact gQ_st hq
    · refine Is.may (sg := 32) (nu := 0) (V1 := vq T (j + 1) 0) (V2 := vq T j 0) (by decide) hj ⟨Q0, b0, h0⟩ (fun hp => ?_) (fun hp => ?_) ?_ (fun Q b _ => vq_0 j 32 Q) (fun _ _ _ => rfl)
      · have hp2 := hp
        simp only [passB, decide_eq_true_eq] at hp2
        have e2 : passQ T n 32 (j, 0, 0) = (j + 1, 0, 0) := by
          unfold passQ
          rw [if_pos hp]
        rw [e2]
        exact is_num hg hmn hm (j + 1) (by omega)
      · have e2 : passQ T n 32 (j, 0, 0) = (j, 0, 0) := by
          unfold passQ
          rw [if_neg hp]
        rw [e2]
        exact is_num hg hmn hm j hj
      · rintro hkn hT Q b hQ hf -
        have := kn_dig hQ hf hkn
        rw [hT] at this
        exact absurd this (by decide)
  · rw [if_neg hc, if_neg hc]
    exact is_num hg hmn hm k hk
theorem kh_hd (hm : ∀ i, i < 3 → ltr (mbyte mk i)) {Q : Pat} {b : Bool} {k : Nat} (h : KH pt g x mk mb mo mn below Q b) (hf : ft T n Q k) (hk : k < n) : digB (T k) = true ∨ ltr (T k) := by
  unfold KH at h
  split at h
  · obtain ⟨Q', rfl, -⟩ := h
    right
    rw [(pm_sg (ltr_pos (hm 0 (by decide)))).mp (hf.1 hk)]
    exact hm 0 (by decide)
  · exact Or.inl (kn_dig h hf hk)
theorem kh_ne (hm : ∀ i, i < 3 → ltr (mbyte mk i)) : ∃ Q b, KH pt g x mk mb mo mn below Q b := by
  obtain ⟨Q0, b0, h0⟩ := kn_ne (pt := pt) (g := g) (x := x) (mk := mk) (mb := mb) (mo := mo) (mn := mn) (below := below) hm
  unfold KH
  split
  · exact ⟨_, b0, _, rfl, Or.inr h0⟩
  · exact ⟨_, b0, h0⟩
theorem is_amt (hg : gOk pt g) (hmn : mn = 0 ∨ mn = 1 ∨ mn = 2) (hm : ∀ i, i < 3 → ltr (mbyte mk i)) (hT : ∀ k, k < n → ¬ T k < 0) : Is T n (KA pt g x mk mb mo mn) (vq T 0 0) 0 (amtQ T n pt g x mn mk mb mo) := by
  rw [amtQ_h]
  by_cases h1 : mn = 1
  · have hb : passB T n (mnA mn) (0, 0, 0) = false := by
      rw [Bool.eq_false_iff]
      intro hp
      simp only [passB, decide_eq_true_eq] at hp
      have h3 := hp.2.2
      rw [mnA, if_pos h1] at h3
      exact hT 0 hp.2.1 (by rw [h3]; decide)
    have e2 : passQ T n (mnA mn) (0, 0, 0) = (0, 0, 0) := by
      unfold passQ
      rw [hb, if_neg (by decide)]
    rw [hb, e2]
    refine Is.congr (is_ahead (x := x) (mb := mb) (mo := mo) (below := false) hg hmn hm 0 (Nat.zero_le _)) (fun Q b => ?_) (fun _ _ _ => rfl)
    unfold KA
    rw [if_pos h1]
  · have es : mnA mn = if mn = 2 then 40 else 45 := by
      unfold mnA
      rw [if_neg h1]
    have hsg : (if mn = 2 then (40 : Int32) else 45) = 40 ∨ (if mn = 2 then (40 : Int32) else 45) = 45 := by
      split
      · exact Or.inl rfl
      · exact Or.inr rfl
    have hs0 : ¬ (if mn = 2 then (40 : Int32) else 45) < 0 := by
      rcases hsg with q | q <;> rw [q] <;> decide
    rw [es]
    refine Is.congr (Is.may (sg := if mn = 2 then (40 : Int32) else 45) (nu := 0) (K1 := KH pt g x mk mb mo mn true) (K2 := KH pt g x mk mb mo mn false) (V1 := vq T 1 0) (V2 := vq T 0 0) hs0 (Nat.zero_le _) (kh_ne hm) (fun hp => ?_) (fun hp => ?_) ?_ (fun Q b _ => vq_0 0 _ Q) (fun _ _ _ => rfl)) (fun Q b => ?_) (fun _ _ _ => rfl)
    · have hp2 := hp
      simp only [passB, decide_eq_true_eq] at hp2
      have e2 : passQ T n (if mn = 2 then 40 else 45) (0, 0, 0) = (1, 0, 0) := by
        unfold passQ
        rw [if_pos hp]
      rw [e2, hp]
      exact is_ahead hg hmn hm 1 (by omega)
    · have e2 : passQ T n (if mn = 2 then 40 else 45) (0, 0, 0) = (0, 0, 0) := by
        unfold passQ
        rw [if_neg hp]
      rw [e2, Bool.eq_false_iff.mpr hp]
      exact is_ahead hg hmn hm 0 (Nat.zero_le _)
    · rintro hkn hT Q b hQ hf -
      have := kh_hd hm hQ hf hkn
      rw [hT] at this
      rcases hsg with q | q
      · rw [q] at this
        rcases this with q | q
        · exact absurd q (by decide)
        · exact absurd q.1 (by decide)
      · rw [q] at this
        rcases this with q | q
        · exact absurd q (by decide)
        · exact absurd q.1 (by decide)
    · unfold KA
      rw [if_neg h1]
end ISALL
