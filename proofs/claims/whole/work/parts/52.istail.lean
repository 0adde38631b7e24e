/-! ===== amounts: the end of an amount ===== -/
def tE (T : Nat → Int32) (n : Nat) (mn : Int32) (below : Bool) (q : Qs) : Bool × Qs := ((endQ T n mn below q).1, closeQ n (endQ T n mn below q).2)
def tB (T : Nat → Int32) (n : Nat) (mk mb mo mn : Int32) (below : Bool) (q : Qs) : Bool × Qs := tE T n mn below (behindQ T n mk mb mo q)
def tF (T : Nat → Int32) (n : Nat) (pt mk mb mo mn : Int32) (below : Bool) (q : Qs) : Bool × Qs := tB T n mk mb mo mn below (fracQ T n pt q)
def Kend (mn : Int32) (below : Bool) (Q : Pat) (b : Bool) : Prop := (mn = 1 ∨ b = below) ∧ Q = (if b = true ∧ ¬ mn = 0 then [(if mn = 1 then 45 else 41, 0)] else [])
def Kmk (mk : Int32) (K : Pat → Bool → Prop) (Q : Pat) (b : Bool) : Prop := ∃ Q', Q = (mbyte mk 0, 0) :: (mbyte mk 1, 0) :: (mbyte mk 2, 0) :: Q' ∧ K Q' b
def Kbl (K : Pat → Bool → Prop) (Q : Pat) (b : Bool) : Prop := (∃ Q', Q = (32, 0) :: Q' ∧ K Q' b) ∨ K Q b
def Kbeh (mk mb mo : Int32) (K : Pat → Bool → Prop) : Pat → Bool → Prop := if ¬ mo = 0 ∧ ¬ mb = 0 then Kbl (Kmk mk K) else K
def Kfr (pt : Int32) (K : Pat → Bool → Prop) (Q : Pat) (b : Bool) : Prop := ∃ p, p ≤ 6 ∧ ∃ Q', Q = pPat pt p ++ Q' ∧ K Q' b
def ltr (c : Int32) : Prop := ¬ c < 65 ∧ ¬ 90 < c
theorem mulQ_eq (d : Nat) (q : Qs) : mulQ d q = (q.1, q.2.1, q.2.2 * p10 d) := by
  induction d generalizing q with
  | zero => simp [mulQ, p10]
  | succ d ih =>
    rw [mulQ, ih]
    simp only [p10]
    rw [show q.2.2 * 10 * p10 d = q.2.2 * (10 * p10 d) by grind]
section ISTAIL
variable {T : Nat → Int32} {n : Nat} {mn mk mb mo pt : Int32} {below : Bool}
theorem tE_st {q : Qs} (h : ¬ q.2.1 = 0) : (tE T n mn below q).2.2.1 = q.2.1 := by
  have hc : closeQ n q = q := by
    unfold closeQ
    split
    · exact stuck_lack h
    · rfl
  unfold tE endQ
  split
  · rw [(stuck_pass h).2]
    show (closeQ n q).2.1 = _
    rw [hc]
  · split
    · rw [stuck_need h]
      show (closeQ n q).2.1 = _
      rw [hc]
    · show (closeQ n q).2.1 = _
      rw [hc]
theorem tB_st {q : Qs} (h : ¬ q.2.1 = 0) : (tB T n mk mb mo mn below q).2.2.1 = q.2.1 := by
  unfold tB behindQ
  split
  · rw [(stuck_pass h).2]
    unfold markQ
    rw [stuck_need h, stuck_need h, stuck_need h]
    exact tE_st h
  · exact tE_st h
theorem tF_st {q : Qs} (h : ¬ q.2.1 = 0) : (tF T n pt mk mb mo mn below q).2.2.1 = q.2.1 := by
  unfold tF fracQ
  rw [(stuck_pass h).1, if_neg (by decide), mulQ_eq]
  exact tB_st h
theorem is_close {k : Nat} {nu : Int64} (be : Bool) (hk : k ≤ n) : Is T n (fun Q b => Q = [] ∧ b = be) (fun _ => nu) k (be, closeQ n (k, 0, nu)) := by
  unfold closeQ
  by_cases h : k < n
  · rw [if_pos h]
    refine Is.dead ?_ ?_
    · show (lackQ n (k, 0, nu)).2.1 = 2
      unfold lackQ
      rw [if_pos rfl, if_pos h]
    · rintro Q b ⟨rfl, rfl⟩ - hn
      simp only [List.length_nil] at hn
      omega
  · rw [if_neg h]
    refine ⟨?_, fun _ => ⟨[], be, ⟨rfl, rfl⟩, True.intro, by simp only [List.length_nil]; omega⟩, fun q => absurd q (by show ¬ (0 : Int32) = 1; decide), Or.inl rfl⟩
    rintro Q b ⟨rfl, rfl⟩ - hn
    exact ⟨by show ¬ (0 : Int32) = 2; decide, fun _ => ⟨rfl, rfl, rfl⟩⟩
theorem close_st {be : Bool} (q : Qs) (h : ¬ q.2.1 = 0) : (be, closeQ n q).2.2.1 = q.2.1 := by
  show (closeQ n q).2.1 = _
  unfold closeQ
  split
  · rw [stuck_lack h]
  · rfl
theorem is_end {k : Nat} {nu : Int64} (hmn : mn = 0 ∨ mn = 1 ∨ mn = 2) (hk : k ≤ n) : Is T n (Kend mn below) (fun _ => nu) k (tE T n mn below (k, 0, nu)) := by
  rcases hmn with rfl | rfl | rfl
  · have := is_close (T := T) (nu := nu) below hk
    refine Is.congr (this) (fun Q b => ?_) (fun _ _ _ => rfl)
    unfold Kend
    simp
    exact ⟨fun h => ⟨h.2, h.1⟩, fun h => ⟨h.2, h.1⟩⟩
  · have e : tE T n 1 below (k, 0, nu) = (passB T n 45 (k, 0, nu), closeQ n (passQ T n 45 (k, 0, nu))) := rfl
    rw [e]
    refine Is.congr (Is.may (T := T) (n := n) (K1 := fun Q b => Q = [] ∧ b = true) (K2 := fun Q b => Q = [] ∧ b = false) (V := fun _ => nu) (V1 := fun _ => nu) (V2 := fun _ => nu) (sg := 45) (nu := nu) (by decide) hk ⟨[], false, rfl, rfl⟩ ?_ ?_ ?_ (fun _ _ _ => rfl) (fun _ _ _ => rfl)) (fun Q b => ?_) (fun _ _ _ => rfl)
    · intro hp
      have hp2 := hp
      simp only [passB, decide_eq_true_eq] at hp2
      have e2 : passQ T n 45 (k, 0, nu) = (k + 1, 0, nu) := by
        unfold passQ
        rw [if_pos hp]
      rw [e2, hp]
      exact is_close true (by omega)
    · intro hp
      have e2 : passQ T n 45 (k, 0, nu) = (k, 0, nu) := by
        unfold passQ
        rw [if_neg hp]
      rw [e2, Bool.eq_false_iff.mpr hp]
      exact is_close false hk
    · rintro hkn - Q b ⟨rfl, -⟩ - hn
      simp only [List.length_nil] at hn
      omega
    · unfold Kend
      cases b <;> simp
  · cases below with
    | true =>
      have e : tE T n 2 true (k, 0, nu) = (fun q => (true, closeQ n q)) (needQ T n 41 (k, 0, nu)) := rfl
      rw [e]
      refine Is.congr (Is.need (T := T) (n := n) (K := fun Q b => Q = [] ∧ b = true) (V := fun _ => nu) (V1 := fun _ => nu) (sg := 41) (nu := nu) (F := fun q => (true, closeQ n q)) (by decide) (fun q h => close_st q h) hk ⟨[], true, rfl, rfl⟩ (fun h1 _ => is_close true (by omega)) (fun _ => rfl)) (fun Q b => ?_) (fun _ _ _ => rfl)
      unfold Kend
      cases b <;> simp
    | false =>
      have e : tE T n 2 false (k, 0, nu) = (false, closeQ n (k, 0, nu)) := rfl
      rw [e]
      refine Is.congr (is_close (T := T) (nu := nu) false hk) (fun Q b => ?_) (fun _ _ _ => rfl)
      unfold Kend
      cases b <;> simp
theorem ltr_pos {c : Int32} (h : ltr c) : ¬ c < 0 := fun q => h.1 (Int32.lt_trans q (by decide))
theorem is_mark {K : Pat → Bool → Prop} {V : Nat → Pat → Int64} {F : Qs → Bool × Qs} {k : Nat} {nu : Int64} (hm : ∀ i, i < 3 → ltr (mbyte mk i)) (hF : ∀ q : Qs, ¬ q.2.1 = 0 → (F q).2.2.1 = q.2.1) (hne : ∃ Q b, K Q b) (hV : ∀ (j : Nat) (sg : Int32) (Q : Pat), V j ((sg, 0) :: Q) = V (j + 1) Q)
    (h : ∀ j, j ≤ n → Is T n K (V j) j (F (j, 0, nu))) (hk : k ≤ n) : Is T n (Kmk mk K) (V k) k (F (markQ T n mk (k, 0, nu))) := by
  obtain ⟨Q0, b0, h0⟩ := hne
  have s2 : ∀ j, j ≤ n → Is T n (fun Q b => ∃ Q', Q = (mbyte mk 2, 0) :: Q' ∧ K Q' b) (V j) j (F (needQ T n (mbyte mk 2) (j, 0, nu))) := fun j hj => Is.need (ltr_pos (hm 2 (by decide))) hF hj ⟨Q0, b0, h0⟩ (fun h1 _ => h (j + 1) (by omega)) (fun Q => hV j _ Q)
  have s1 : ∀ j, j ≤ n → Is T n (fun Q b => ∃ Q', Q = (mbyte mk 1, 0) :: Q' ∧ ∃ Q'', Q' = (mbyte mk 2, 0) :: Q'' ∧ K Q'' b) (V j) j (F (needQ T n (mbyte mk 2) (needQ T n (mbyte mk 1) (j, 0, nu)))) := fun j hj => Is.need (F := fun q => F (needQ T n (mbyte mk 2) q)) (ltr_pos (hm 1 (by decide))) (fun q hq => by show (F (needQ T n (mbyte mk 2) q)).2.2.1 = _; rw [stuck_need hq]; exact hF q hq) hj ⟨_, b0, Q0, rfl, h0⟩ (fun h1 _ => s2 (j + 1) (by omega)) (fun Q => hV j _ Q)
  have s0 := Is.need (F := fun q => F (needQ T n (mbyte mk 2) (needQ T n (mbyte mk 1) q))) (nu := nu) (V1 := V k) (ltr_pos (hm 0 (by decide))) (fun q hq => by show (F (needQ T n (mbyte mk 2) (needQ T n (mbyte mk 1) q))).2.2.1 = _; rw [stuck_need hq, stuck_need hq]; exact hF q hq) hk ⟨_, b0, _, rfl, Q0, rfl, h0⟩ (fun h1 _ => s1 (k + 1) (by omega)) (fun Q => hV k _ Q)
  refine Is.congr s0 (fun Q b => ?_) (fun _ _ _ => rfl)
  unfold Kmk
  constructor
  · rintro ⟨Q1, rfl, Q2, rfl, Q3, rfl, hQ⟩
    exact ⟨Q3, rfl, hQ⟩
  · rintro ⟨Q3, rfl, hQ⟩
    exact ⟨_, rfl, _, rfl, _, rfl, hQ⟩
theorem is_beh {k : Nat} {nu : Int64} (hmn : mn = 0 ∨ mn = 1 ∨ mn = 2) (hm : ∀ i, i < 3 → ltr (mbyte mk i)) (hk : k ≤ n) : Is T n (Kbeh mk mb mo (Kend mn below)) (fun _ => nu) k (tB T n mk mb mo mn below (k, 0, nu)) := by
  have hne : ∃ Q b, Kend mn below Q b := ⟨_, below, Or.inr rfl, rfl⟩
  unfold Kbeh tB behindQ
  by_cases hc : ¬ mo = 0 ∧ ¬ mb = 0
  · rw [if_pos hc, if_pos hc]
    have hmk : ∀ j, j ≤ n → Is T n (Kmk mk (Kend mn below)) (fun _ => nu) j (tE T n mn below (markQ T n mk (j, 0, nu))) := fun j hj => is_mark (V := fun _ _ => nu) hm (fun q hq => tE_st hq) hne (fun _ _ _ => rfl) (fun j hj => is_end hmn hj) hj
    obtain ⟨Q0, b0, h0⟩ := hne
    refine Is.may (sg := 32) (nu := nu) (V1 := fun _ => nu) (V2 := fun _ => nu) (by decide) hk ⟨_, b0, Q0, rfl, h0⟩ (fun hp => ?_) (fun hp => ?_) ?_ (fun _ _ _ => rfl) (fun _ _ _ => rfl)
    · have hp2 := hp
      simp only [passB, decide_eq_true_eq] at hp2
      have e2 : passQ T n 32 (k, 0, nu) = (k + 1, 0, nu) := by
        unfold passQ
        rw [if_pos hp]
      rw [e2]
      exact hmk _ (by omega)
    · have e2 : passQ T n 32 (k, 0, nu) = (k, 0, nu) := by
        unfold passQ
        rw [if_neg hp]
      rw [e2]
      exact hmk _ hk
    · rintro hkn hT Q b ⟨Q', rfl, -⟩ hf -
      have := (pm_sg (ltr_pos (hm 0 (by decide)))).mp (hf.1 hkn)
      have h2 := (hm 0 (by decide)).1
      rw [← this, hT] at h2
      exact h2 (by decide)
  · rw [if_neg hc, if_neg hc]
    exact is_end hmn hk
/-- how what stands behind a number begins -/
def Hd (Q : Pat) : Prop := Q = [] ∨ ∃ c r, Q = c :: r ∧ (c.1 = 45 ∨ c.1 = 41 ∨ ltr c.1 ∨ (c.1 = 32 ∧ ∃ c2 r2, r = c2 :: r2 ∧ ltr c2.1))
def Z0 (Q : Pat) : Prop := ∀ c ∈ Q, c.2 = 0
theorem kend_hd {Q : Pat} {b : Bool} (h : Kend mn below Q b) : Hd Q ∧ Z0 Q := by
  obtain ⟨-, rfl⟩ := h
  split
  · refine ⟨Or.inr ⟨_, _, rfl, ?_⟩, ?_⟩
    · by_cases h1 : mn = 1
      · exact Or.inl (by rw [if_pos h1])
      · exact Or.inr (Or.inl (by rw [if_neg h1]))
    · intro c hc
      simp at hc
      rw [hc]
  · exact ⟨Or.inl rfl, fun c hc => by cases hc⟩
theorem kbeh_hd (hm : ∀ i, i < 3 → ltr (mbyte mk i)) {Q : Pat} {b : Bool} (h : Kbeh mk mb mo (Kend mn below) Q b) : Hd Q ∧ Z0 Q := by
  have hmkZ : ∀ Q, Kmk mk (Kend mn below) Q b → Z0 Q ∧ ∃ c r, Q = c :: r ∧ ltr c.1 := by
    rintro Q ⟨Q', rfl, hQ⟩
    refine ⟨fun c hc => ?_, _, _, rfl, hm 0 (by decide)⟩
    simp only [List.mem_cons] at hc
    rcases hc with rfl | rfl | rfl | hc
    · rfl
    · rfl
    · rfl
    · exact (kend_hd hQ).2 c hc
  unfold Kbeh at h
  split at h
  · rcases h with ⟨Q', rfl, hQ⟩ | hQ
    · obtain ⟨hz, c, r, rfl, hc⟩ := hmkZ _ hQ
      refine ⟨Or.inr ⟨_, _, rfl, Or.inr (Or.inr (Or.inr ⟨rfl, c, r, rfl, hc⟩))⟩, fun d hd => ?_⟩
      rcases List.mem_cons.mp hd with rfl | hd
      · rfl
      · exact hz d hd
    · obtain ⟨hz, c, r, rfl, hc⟩ := hmkZ _ hQ
      exact ⟨Or.inr ⟨_, _, rfl, Or.inr (Or.inr (Or.inl hc))⟩, hz⟩
  · exact kend_hd h
theorem kbeh_ne (hm : ∀ i, i < 3 → ltr (mbyte mk i)) : ∃ Q b, Kbeh mk mb mo (Kend mn below) Q b := by
  unfold Kbeh
  split
  · exact ⟨_, below, Or.inr ⟨_, rfl, Or.inr rfl, rfl⟩⟩
  · exact ⟨_, below, Or.inr rfl, rfl⟩
theorem z0_cls {Q : Pat} (h : Z0 Q) (k : Nat) (v : Int64) : cls T Q k v = v ∧ tw Q = 0 := by
  induction Q generalizing k v with
  | nil => exact ⟨rfl, rfl⟩
  | cons c r ih =>
    have hc := h c List.mem_cons_self
    have ih := ih (fun d hd => h d (List.mem_cons_of_mem _ hd)) (k + 1) v
    simp only [cls, tw, hc, if_true]
    exact ⟨ih.1, by rw [ih.2]; rfl⟩
theorem hd_first {c x : Int32} (h : c = 45 ∨ c = 41 ∨ ltr c ∨ c = 32) (hp : pm c x = true) : x = c ∧ digB x = false ∧ ¬ x = 44 ∧ ¬ x = 46 ∧ ¬ x = 39 := by
  have h0 : ¬ c < 0 := by
    rcases h with rfl | rfl | h | rfl
    · decide
    · decide
    · exact ltr_pos h
    · decide
  have := (pm_sg h0).mp hp
  subst this
  rcases h with rfl | rfl | h | rfl
  · decide
  · decide
  · refine ⟨rfl, ?_, ?_, ?_, ?_⟩
    · simp only [digB, decide_eq_false_iff_not]
      intro q
      exact q.2 (Int32.lt_of_lt_of_le (by decide : (57 : Int32) < 65) (Int32.not_lt.mp h.1))
    · rintro rfl; exact h.1 (by decide)
    · rintro rfl; exact h.1 (by decide)
    · rintro rfl; exact h.1 (by decide)
  · decide
theorem hd_at {Q : Pat} {k : Nat} (h : Hd Q) (hf : ft T n Q k) (hk : k < n) (hn : n ≤ k + Q.length) : digB (T k) = false ∧ ¬ T k = 44 ∧ ¬ T k = 46 ∧ ¬ T k = 39 ∧ (T k = 32 → k + 1 < n → digB (T (k + 1)) = false) := by
  rcases h with rfl | ⟨c, r, rfl, h⟩
  · simp only [List.length_nil] at hn
    omega
  · have hp := hf.1 hk
    obtain ⟨h1, h2, h3, h4, h5⟩ := hd_first (c := c.1) (x := T k) (by rcases h with h | h | h | h; exact Or.inl h; exact Or.inr (Or.inl h); exact Or.inr (Or.inr (Or.inl h)); exact Or.inr (Or.inr (Or.inr h.1))) hp
    refine ⟨h2, h3, h4, h5, fun h32 hk1 => ?_⟩
    rcases h with h | h | h | ⟨-, c2, r2, rfl, h⟩
    · rw [h, h32] at h1; exact absurd h1 (by decide)
    · rw [h, h32] at h1; exact absurd h1 (by decide)
    · rw [← h1, h32] at h; exact absurd h.1 (by decide)
    · exact (hd_first (Or.inr (Or.inr (Or.inl h))) (hf.2.1 hk1)).2.1
end ISTAIL
