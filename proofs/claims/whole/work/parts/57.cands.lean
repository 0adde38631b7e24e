/-! ===== amounts: the candidates of the search ===== -/
theorem mem_cW {F : Nat → List (Pat × Bool)} {z : Pat × Bool} : ∀ (d y : Nat), z ∈ cW F d y ↔ ∃ v, y ≤ v ∧ v < y + d ∧ z ∈ F v := by
  intro d
  induction d with
  | zero =>
    intro y
    constructor
    · intro h; cases h
    · rintro ⟨v, h1, h2, -⟩; omega
  | succ d ih =>
    intro y
    rw [cW, List.mem_append, ih]
    constructor
    · rintro (h | ⟨v, h1, h2, h3⟩)
      · exact ⟨y, by omega, by omega, h⟩
      · exact ⟨v, by omega, by omega, h3⟩
    · rintro ⟨v, h1, h2, h3⟩
      by_cases he : v = y
      · subst he; exact Or.inl h3
      · exact Or.inr ⟨v, by omega, by omega, h3⟩
/-- the candidates without their numbering -/
def CA (pt g gp mn mk bh kd : Int32) (P : Pat) (b : Bool) : Prop := ∃ w, 1 ≤ w ∧ w ≤ 9 ∧ ∃ p, p ≤ 6 ∧ ∃ gr : Bool, (gr = true → 4 ≤ w ∧ ¬ g = 0) ∧ ∃ blank : Bool, P = aPat pt g gp mn mk bh kd w p gr b blank
theorem mem_cands {pt g gp mn mk bh kd : Int32} {P : Pat} {b : Bool} : (P, b) ∈ cands pt g gp mn mk bh kd (if kd = 1 then 4 else 2) ↔ CA pt g gp mn mk bh kd P b := by
  unfold cands CA
  rw [mem_cW]
  constructor
  · rintro ⟨w, w1, w2, h⟩
    rw [mem_cW] at h
    obtain ⟨p, p1, p2, h⟩ := h
    rw [mem_cW] at h
    obtain ⟨y, y1, y2, h⟩ := h
    unfold cand at h
    by_cases hc : (if kd = 1 then 4 else 2) ≤ y ∧ (w < 4 ∨ g = 0)
    · rw [if_pos hc] at h; cases h
    · rw [if_neg hc] at h
      simp only [List.mem_singleton, Prod.mk.injEq] at h
      obtain ⟨hP, hb⟩ := h
      refine ⟨w, w1, by omega, p, by omega, decide ((if kd = 1 then 4 else 2) ≤ y), fun q => ?_, decide (y % (if kd = 1 then 4 else 2) / 2 % 2 = 1), ?_⟩
      · have q := of_decide_eq_true q
        exact ⟨Nat.not_lt.mp (fun r => hc ⟨q, Or.inl r⟩), fun r => hc ⟨q, Or.inr r⟩⟩
      · rw [hP, hb]
        congr 2
        split
        · exact propext ⟨fun q => by omega, fun q => by omega⟩
        · exact propext ⟨fun q => by omega, fun q => by omega⟩
  · rintro ⟨w, w1, w2, p, p1, gr, hgr, blank, hP⟩
    refine ⟨w, w1, by omega, ?_⟩
    rw [mem_cW]
    refine ⟨p, by omega, by omega, ?_⟩
    rw [mem_cW]
    by_cases hk : kd = 1
    · subst hk
      rw [if_pos rfl]
      refine ⟨(if gr = true then 4 else 0) + (if blank = true then 2 else 0) + (if b = true then 1 else 0), by omega, ?_, ?_⟩
      · cases gr <;> cases blank <;> cases b <;> decide
      · unfold cand
        rw [if_neg ?_]
        · rw [List.mem_singleton, hP]
          cases gr <;> cases blank <;> cases b <;> rfl
        · rintro ⟨q1, q2⟩
          cases gr with
          | false => revert q1; cases blank <;> cases b <;> decide
          | true =>
            have := hgr rfl
            rcases q2 with q2 | q2
            · omega
            · exact this.2 q2
    · rw [if_neg hk]
      refine ⟨(if gr = true then 2 else 0) + (if b = true then 1 else 0), by omega, ?_, ?_⟩
      · cases gr <;> cases b <;> decide
      · unfold cand
        rw [if_neg ?_]
        · rw [List.mem_singleton, hP]
          have hb : ∀ bl bl', aPat pt g gp mn mk bh kd w p gr b bl = aPat pt g gp mn mk bh kd w p gr b bl' := by
            intro bl bl'
            unfold aPat
            simp only [hk, false_and, if_false]
          rw [hb blank false]
          cases gr <;> cases b <;> rfl
        · rintro ⟨q1, q2⟩
          cases gr with
          | false => revert q1; cases b <;> decide
          | true =>
            have := hgr rfl
            rcases q2 with q2 | q2
            · omega
            · exact this.2 q2
/-- the digits of a number as the search writes them -/
theorem kw_iff {g x : Int32} {K : Pat → Bool → Prop} {Q : Pat} {b : Bool} : Kw g x K Q b ↔ ∃ w, 1 ≤ w ∧ w ≤ 9 ∧ ∃ gr : Bool, (gr = true → 4 ≤ w ∧ ¬ g = 0) ∧ ∃ Q', Q = dPat x g gr w w 0 ++ Q' ∧ K Q' b := by
  have hn : ∀ w, 1 ≤ w → w ≤ 9 → dPat x g false w w 0 = if w = 1 then [(-1, 1)] else wPat w := by
    intro w w1 w2
    have : w = 1 ∨ w = 2 ∨ w = 3 ∨ w = 4 ∨ w = 5 ∨ w = 6 ∨ w = 7 ∨ w = 8 ∨ w = 9 := by omega
    rcases this with rfl | rfl | rfl | rfl | rfl | rfl | rfl | rfl | rfl <;> simp [dPat, wPat, List.replicate]
  constructor
  · rintro (⟨Q', rfl, hQ⟩ | ⟨c, c1, c2, Q', rfl, ⟨h2, hQ⟩ | ⟨hg, hl, hQ⟩⟩)
    · exact ⟨1, by decide, by decide, false, (fun q => by cases q), Q', by rw [hn 1 (by decide) (by decide)]; rfl, hQ⟩
    · exact ⟨c, c1, c2, false, (fun q => by cases q), Q', by rw [hn c c1 c2, if_neg (by omega)], hQ⟩
    · unfold Kg at hQ
      by_cases hx : x = 0
      · rw [if_pos hx] at hQ
        obtain ⟨Q1, rfl, hQ | ⟨Q2, rfl, hQ⟩⟩ := hQ
        · refine ⟨c + 3, by omega, by unfold limG at hl; rw [if_pos hx] at hl; omega, true, fun _ => ⟨by omega, hg⟩, Q1, ?_, hQ⟩
          unfold limG at hl
          rw [if_pos hx] at hl
          have : c = 1 ∨ c = 2 ∨ c = 3 := by omega
          rcases this with rfl | rfl | rfl <;> simp [dPat, wPat, List.replicate, sgn, hx]
        · refine ⟨c + 6, by omega, by unfold limG at hl; rw [if_pos hx] at hl; omega, true, fun _ => ⟨by omega, hg⟩, Q2, ?_, hQ⟩
          unfold limG at hl
          rw [if_pos hx] at hl
          have : c = 1 ∨ c = 2 ∨ c = 3 := by omega
          rcases this with rfl | rfl | rfl <;> simp [dPat, wPat, List.replicate, sgn, hx]
      · rw [if_neg hx] at hQ
        have hl2 : c = 1 ∨ c = 2 := by
          unfold limG at hl
          rw [if_neg hx] at hl
          omega
        rcases hQ with ⟨Q1, rfl, hQ⟩ | ⟨Q1, rfl, ⟨Q2, rfl, hQ⟩ | ⟨Q2, rfl, ⟨Q3, rfl, hQ⟩ | ⟨Q3, rfl, hQ⟩⟩⟩
        · refine ⟨c + 3, by omega, by omega, true, fun _ => ⟨by omega, hg⟩, Q1, ?_, hQ⟩
          rcases hl2 with rfl | rfl <;> simp [dPat, wPat, List.replicate, sgn, hx]
        · refine ⟨c + 5, by omega, by omega, true, fun _ => ⟨by omega, hg⟩, Q2, ?_, hQ⟩
          rcases hl2 with rfl | rfl <;> simp [dPat, wPat, List.replicate, sgn, hx]
        · refine ⟨c + 7, by omega, by omega, true, fun _ => ⟨by omega, hg⟩, Q3, ?_, hQ⟩
          rcases hl2 with rfl | rfl <;> simp [dPat, wPat, List.replicate, sgn, hx]
        · cases hQ
  · rintro ⟨w, w1, w2, gr, hgr, Q', rfl, hQ⟩
    cases gr with
    | false =>
      rw [hn w w1 w2]
      by_cases h1 : w = 1
      · rw [if_pos h1]
        exact Or.inl ⟨Q', rfl, hQ⟩
      · rw [if_neg h1]
        exact Or.inr ⟨w, w1, w2, Q', rfl, Or.inl ⟨by omega, hQ⟩⟩
    | true =>
      obtain ⟨h4, hg⟩ := hgr rfl
      right
      by_cases hx : x = 0
      · have : (w = 4 ∨ w = 5 ∨ w = 6) ∨ (w = 7 ∨ w = 8 ∨ w = 9) := by omega
        rcases this with h | h
        · refine ⟨w - 3, by omega, by omega, (g, 0) :: (-1, 1) :: (-1, 1) :: (-1, 1) :: Q', ?_, Or.inr ⟨hg, by unfold limG; rw [if_pos hx]; omega, ?_⟩⟩
          · rcases h with rfl | rfl | rfl <;> simp [dPat, wPat, List.replicate, sgn, hx]
          · unfold Kg
            rw [if_pos hx]
            exact ⟨Q', rfl, Or.inl hQ⟩
        · refine ⟨w - 6, by omega, by omega, (g, 0) :: (-1, 1) :: (-1, 1) :: (-1, 1) :: (g, 0) :: (-1, 1) :: (-1, 1) :: (-1, 1) :: Q', ?_, Or.inr ⟨hg, by unfold limG; rw [if_pos hx]; omega, ?_⟩⟩
          · rcases h with rfl | rfl | rfl <;> simp [dPat, wPat, List.replicate, sgn, hx]
          · unfold Kg
            rw [if_pos hx]
            exact ⟨_, rfl, Or.inr ⟨Q', rfl, hQ⟩⟩
      · have hl : 2 ≤ limG x := by unfold limG; rw [if_neg hx]; omega
        have : (w = 4 ∨ w = 5) ∨ (w = 6 ∨ w = 7) ∨ (w = 8 ∨ w = 9) := by omega
        rcases this with h | h | h
        · refine ⟨w - 3, by omega, by omega, (g, 0) :: (-1, 1) :: (-1, 1) :: (-1, 1) :: Q', ?_, Or.inr ⟨hg, by omega, ?_⟩⟩
          · rcases h with rfl | rfl <;> simp [dPat, wPat, List.replicate, sgn, hx]
          · unfold Kg
            rw [if_neg hx]
            exact Or.inl ⟨Q', rfl, hQ⟩
        · refine ⟨w - 5, by omega, by omega, (g, 0) :: (-1, 1) :: (-1, 1) :: (g, 0) :: (-1, 1) :: (-1, 1) :: (-1, 1) :: Q', ?_, Or.inr ⟨hg, by omega, ?_⟩⟩
          · rcases h with rfl | rfl <;> simp [dPat, wPat, List.replicate, sgn, hx]
          · unfold Kg
            rw [if_neg hx]
            exact Or.inr ⟨_, rfl, Or.inl ⟨Q', rfl, hQ⟩⟩
        · refine ⟨w - 7, by omega, by omega, (g, 0) :: (-1, 1) :: (-1, 1) :: (g, 0) :: (-1, 1) :: (-1, 1) :: (g, 0) :: (-1, 1) :: (-1, 1) :: (-1, 1) :: Q', ?_, Or.inr ⟨hg, by omega, ?_⟩⟩
          · rcases h with rfl | rfl <;> simp [dPat, wPat, List.replicate, sgn, hx]
          · unfold Kg
            rw [if_neg hx]
            exact Or.inr ⟨_, rfl, Or.inr ⟨_, rfl, Or.inl ⟨Q', rfl, hQ⟩⟩⟩
