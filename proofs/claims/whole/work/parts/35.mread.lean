/-! ===== the reference: its reading methods, whatever its scratch holds ===== -/
def Core (A A' : Nat → Nat → Int32) : Prop := ∀ k, (k ≤ 18 ∨ k = 23) → A' k = A k
def RM (m : Nat) (A : Nat → Nat → Int32) (B : Nat → Nat → Int64) (N M : Mem) : Prop := ∃ (I : Nat → Int32) (A' : Nat → Nat → Int32) (fd : Int64), M = mm m I A' B fd N ∧ Core A A'
def RT (m : Nat) (A : Nat → Nat → Int32) (B : Nat → Nat → Int64) (N : Mem) (T : Nat → Int32) (n : Nat) (M : Mem) : Prop := ∃ (I : Nat → Int32) (A' : Nat → Nat → Int32) (fd : Int64), M = mm m I A' B fd N ∧ Core A A' ∧ agree (A' 19) T n ∧ I 20 = nI n
theorem Core.rf (A : Nat → Nat → Int32) : Core A A := fun _ _ => rfl
theorem RT.rm {m : Nat} {A : Nat → Nat → Int32} {B : Nat → Nat → Int64} {N : Mem} {T : Nat → Int32} {n : Nat} {M : Mem} (h : RT m A B N T n M) : RM m A B N M := by
  obtain ⟨I, A', fd, h1, h2, -⟩ := h
  exact ⟨I, A', fd, h1, h2⟩
theorem mm_sm {m : Nat} {I : Nat → Int32} {A : Nat → Nat → Int32} {B : Nat → Nat → Int64} {fd : Int64} {N : Mem} : mm m I A B fd N = sm m I A B fd N (I 23) (A 20) (A 21) := by
  unfold sm
  rw [upA_same, upA_same]
  congr 1
  funext k
  unfold upI
  by_cases h : k = 23 <;> simp [h]
section MREAD
variable {m : Nat} {A : Nat → Nat → Int32} {B : Nat → Nat → Int64} {N M : Mem} {T : Nat → Int32} {n : Nat}
theorem Core.lands {A' : Nat → Nat → Int32} (h : Core A A') (l : Nat) (kd : Int32) (T : Nat → Int32) (n : Nat) : hld A' l kd T n = hld A l kd T n := hld_land (fun k _ h2 => h k (Or.inl (by omega))) l kd T n
theorem Core.sm {A' : Nat → Nat → Int32} (h : Core A A') (a b : Nat → Int32) : Core A (upA (upA A' 20 a) 21 b) := by
  intro k hk
  have h1 : ¬ k = 21 := by omega
  have h2 : ¬ k = 20 := by omega
  simp only [upA, if_neg h1, if_neg h2]
  exact h k hk
theorem rm_ck (h : RM m A B N M) : ck M 5 m = some () := by
  obtain ⟨I, A', fd, rfl, -⟩ := h
  exact mm_ck
theorem rm_code (h : RM m A B N M) (x : Int32) : ∃ M', pF M 5 m 0 (.int x) = some M' ∧ RM m A B N M' := by
  obtain ⟨I, A', fd, rfl, hC⟩ := h
  exact ⟨_, mm_pI0, _, _, _, rfl, hC⟩
theorem rm_lineText {len : Nat} (hlen : len ≤ 60) (hA : A 10 0 = nI len) (h : RM m A B N M) : ∃ M', fX8_lineText m M = some M' ∧ RT m A B N (A 11) len M' := by
  obtain ⟨I, A', fd, rfl, hC⟩ := h
  refine ⟨_, e_lineText (len := len) hlen (by rw [hC 10 (by decide)]; exact hA), _, _, _, rfl, ?_, ?_, ?_⟩
  · intro k hk
    have : ¬ k = 19 := by omega
    simp only [upA, if_neg this]
    exact hC k hk
  · intro k hk
    show ovf (A' 19) (A' 11) len k = A 11 k
    unfold ovf
    rw [if_pos hk, hC 11 (by decide)]
  · simp [upI]
theorem rm_rowText {r len : Nat} (hr : r < 30) (hlen : len ≤ 60) (hA : A 15 r = nI len) (h : RM m A B N M) : ∃ M', fX8_rowText m (nI r) M = some M' ∧ RT m A B N (fun j => A 16 (60 * r + j) &&& 255) len M' := by
  obtain ⟨I, A', fd, rfl, hC⟩ := h
  refine ⟨_, e_rowText (r := r) (len := len) hr hlen (by rw [hC 15 (by decide)]; exact hA), _, _, _, rfl, ?_, ?_, ?_⟩
  · intro k hk
    have : ¬ k = 19 := by omega
    simp only [upA, if_neg this]
    exact hC k hk
  · intro k hk
    show ovf (A' 19) (fun j => A' 16 (60 * r + j) &&& 255) len k = _
    unfold ovf
    rw [if_pos hk, hC 16 (by decide)]
  · simp [upI]
theorem rt_held {l n' : Nat} (hl : l < 24) (hn : n ≤ 200) (hn' : n' ≤ n) (kd : Int32) (h : RT m A B N T n M) : ∃ M', fX8_held m (nI l) kd (nI n') M = some ((hld A l kd T n').1, M') ∧ RT m A B N T n M' ∧ ∀ v, (hld A l kd T n').2 = some v → gL M' 5 m 24 = some v := by
  obtain ⟨I, A', fd, rfl, hC, hag, hI⟩ := h
  obtain ⟨c', a', b', h⟩ := e_held (m := m) (I := I) (A := A') (B := B) (fd := fd) (N := N) hl (show n' ≤ 200 by omega) kd (I 23) (A' 20) (A' 21)
  rw [← mm_sm, hld_congr (T := A' 19) (T' := T) (fun k hk => hag k (by omega)), hC.lands] at h
  refine ⟨_, h, ⟨_, _, _, rfl, hC.sm a' b', hag, ?_⟩, fun v hv => ?_⟩
  · show upI I 23 c' 20 = nI n
    exact hI
  · rw [hv]
    exact mm_gL24
theorem rt_counts {l k : Nat} (hl : l < 24) (hn : n ≤ 200) (hk : k < 12) (h : RT m A B N T n M) : ∃ M', fX8_countsNow m (nI l) (nI k) M = some (if cnt (hld A l (nI k) T n) (B 12 k) (B 13 k) = true then 1 else 0, M') ∧ RT m A B N T n M' ∧ ∀ v, (hld A l (nI k) T n).2 = some v → gL M' 5 m 24 = some v := by
  obtain ⟨I, A', fd, rfl, hC, hag, hI⟩ := h
  obtain ⟨c', a', b', h⟩ := e_countsNow (m := m) (I := I) (A := A') (B := B) (fd := fd) (N := N) hl hn hk hI (I 23) (A' 20) (A' 21)
  rw [← mm_sm, hld_congr (T := A' 19) (T' := T) hag, hC.lands] at h
  refine ⟨_, h, ⟨_, _, _, rfl, hC.sm a' b', hag, ?_⟩, fun v hv => ?_⟩
  · show upI I 23 c' 20 = nI n
    exact hI
  · rw [hv]
    exact mm_gL24
theorem rt_n (h : RT m A B N T n M) : gI M 5 m 20 = some (nI n) := by
  obtain ⟨I, A', fd, rfl, hC, hag, hI⟩ := h
  rw [mm_gI20, hI]
theorem rm_isLand {nl : Nat} (hnl : nl ≤ 6) (hA : A 1 0 = nI nl) (x : Int32) (h : RM m A B N M) : fX8_isLand m x M = some (if ¬ x < 0 ∧ ¬ nI nl - 1 < x then 1 else 0, M) := by
  obtain ⟨I, A', fd, rfl, hC⟩ := h
  unfold fX8_isLand
  have h0 : aI (mm m I A' B fd N) (m + 1) 0 = some (nI nl) := by
    rw [mm_aI1, if_pos (by decide)]
    show some (A' 1 0) = _
    rw [hC 1 (by decide), hA]
  rw [mm_gN1, Option.bind_some, h0, Option.bind_some, e_in, Option.bind_some]
  by_cases hx : ¬ x < 0 ∧ ¬ nI nl - 1 < x
  · simp only [hx, not_false_eq_true, and_self, if_true, nz1, Option.bind_some]
  · simp only [hx, if_false, nz0, Option.bind_some]
/-- a land's number -/
def isL (nl : Nat) (x : Int32) : Prop := ∃ l, l < nl ∧ x = nI l
theorem isL_iff {nl : Nat} (hnl : nl ≤ 6) (x : Int32) : (¬ x < 0 ∧ ¬ nI nl - 1 < x) ↔ isL nl x := by
  constructor
  · intro ⟨h1, h2⟩
    obtain ⟨j, hj, rfl⟩ := nI_of h1
    refine ⟨j, ?_, rfl⟩
    rcases Nat.eq_zero_or_pos nl with h0 | h0
    · subst h0
      exfalso
      apply h2
      have : nI 0 - 1 = -1 := by decide
      rw [this]
      have h3 := nI_toInt hj
      rw [Int32.lt_iff_toInt_lt, h3]
      have : (-1 : Int32).toInt = -1 := by decide
      rw [this]
      omega
    · have e : nI nl - 1 = nI (nl - 1) := pk_sub (b := 1) h0
      rw [e] at h2
      rcases Nat.lt_or_ge j nl with q | q
      · exact q
      · exact absurd (nI_lt (by omega) hj) h2
  · rintro ⟨l, hl, rfl⟩
    refine ⟨nI_pos (by omega), ?_⟩
    have e : nI nl - 1 = nI (nl - 1) := pk_sub (b := 1) (by omega)
    rw [e]
    exact nI_nlt (by omega) (by omega)
end MREAD
