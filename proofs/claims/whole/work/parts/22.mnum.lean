/-! ===== the reference: the pattern of an amount ===== -/
def dPat (gp g : Int32) (gr : Bool) (w : Nat) : Nat → Nat → Pat
  | 0, _ => []
  | d + 1, k => (if k = 0 ∧ 1 < w then -2 else -1, 1) :: ((if gr = true ∧ sgn gp (w - 1 - k) = true then [(g, 0)] else []) ++ dPat gp g gr w d (k + 1))
def pPat (pt : Int32) (p : Nat) : Pat := if 0 < p then (pt, 0) :: List.replicate p (-1, 2) else []
def nPat (pt g gp : Int32) (w p : Nat) (gr : Bool) : Pat := dPat gp g gr w w 0 ++ pPat pt p
theorem dPat_len (gp g : Int32) (gr : Bool) (w d k : Nat) : (dPat gp g gr w d k).length ≤ 2 * d := by
  induction d generalizing k with
  | zero => simp [dPat]
  | succ d ih =>
    have := ih (k + 1)
    simp only [dPat, List.length_cons, List.length_append]
    split <;> simp <;> omega
theorem pPat_len (pt : Int32) (p : Nat) : (pPat pt p).length ≤ p + 1 := by
  unfold pPat
  split <;> simp
theorem nPat_len (pt g gp : Int32) (w p : Nat) (gr : Bool) : (nPat pt g gp w p gr).length ≤ 2 * w + p + 1 := by
  have h1 := dPat_len gp g gr w w 0
  have h2 := pPat_len pt p
  simp only [nPat, List.length_append]
  omega
section PNUM
variable {m : Nat} {I : Nat → Int32} {A : Nat → Nat → Int32} {B : Nat → Nat → Int64} {fd : Int64} {N : Mem} {pl : Pat}
theorem e_putParts {p : Nat} (hp : p ≤ 6) : ∀ (d k f : Nat) (pl : Pat), k + d = p → d < f → pl.length + d ≤ 64 → fX8_putNumber_84 f m (nI p) (nI k) (mP m I A B fd N pl) = some (mP m I A B fd N (pl ++ List.replicate d (-1, 2))) := by
  intro d
  induction d with
  | zero =>
    intro k f pl hk hf hl
    obtain ⟨f, rfl⟩ : ∃ g, f = g + 1 := ⟨f - 1, by omega⟩
    rw [fX8_putNumber_84, if_pos (nI_le (by omega) (by omega))]
    simp
  | succ d ih =>
    intro k f pl hk hf hl
    obtain ⟨f, rfl⟩ : ∃ g, f = g + 1 := ⟨f - 1, by omega⟩
    rw [fX8_putNumber_84, if_neg (nI_ge (by omega) (by omega)), e_ckP, Option.bind_some, e_put _ _ (by omega), Option.bind_some, nI_1, ih (k + 1) f _ (by omega) (by omega) (by simp; omega)]
    simp [List.replicate_succ]
theorem P_gN2 : gN (mP m I A B fd N pl) 5 m 2 = some (m + 2) := mm_gN2
theorem P_gN3 : gN (mP m I A B fd N pl) 5 m 3 = some (m + 3) := mm_gN3
theorem P_gN5 : gN (mP m I A B fd N pl) 5 m 5 = some (m + 5) := mm_gN5
theorem P_gN7 : gN (mP m I A B fd N pl) 5 m 7 = some (m + 7) := mm_gN7
theorem P_a2 {l : Nat} (h : l < 24) : aI (mP m I A B fd N pl) (m + 2) (nI l) = some (A 2 l) := by
  unfold mP
  rw [mm_aI2, if_pos (inr_nI h (by decide)), nI_clamp (by omega)]
  simp [upA]
theorem P_a3 {l : Nat} (h : l < 24) : aI (mP m I A B fd N pl) (m + 3) (nI l) = some (A 3 l) := by
  unfold mP
  rw [mm_aI3, if_pos (inr_nI h (by decide)), nI_clamp (by omega)]
  simp [upA]
theorem P_a5 {l : Nat} (h : l < 24) : aI (mP m I A B fd N pl) (m + 5) (nI l) = some (A 5 l) := by
  unfold mP
  rw [mm_aI5, if_pos (inr_nI h (by decide)), nI_clamp (by omega)]
  simp [upA]
theorem P_a7 {l : Nat} (h : l < 24) : aZ (mP m I A B fd N pl) (m + 7) (nI l) = some (A 7 l) := by
  unfold mP
  rw [mm_aZ7, if_pos (inr_nI h (by decide)), nI_clamp (by omega)]
  simp [upA]
theorem sub1k {w k : Nat} (h : k < w) : (nI w - 1) - nI k = nI (w - 1 - k) := by
  have e1 : nI w - 1 = nI (w - 1) := pk_sub (b := 1) (by omega)
  rw [e1, pk_sub (by omega)]
theorem e_putDigits {l w p : Nat} (hl : l < 24) (hw : w ≤ 9) (hp : p ≤ 6) (gr : Int32) : ∀ (d k f : Nat) (pl : Pat), k + d = w → d < f → pl.length + 2 * d + p + 1 ≤ 64 →
    fX8_putNumber_3 f m (nI l) (nI w) (nI p) gr (nI k) (mP m I A B fd N pl) = some (mP m I A B fd N (pl ++ (dPat (A 4 l) (A 3 l) (decide (¬ gr = 0)) w d k ++ pPat (A 2 l) p))) := by
  intro d
  induction d with
  | zero =>
    intro k f pl hk hf hlen
    obtain ⟨f, rfl⟩ : ∃ g, f = g + 1 := ⟨f - 1, by omega⟩
    rw [fX8_putNumber_3, if_pos (nI_le (by omega) (by omega))]
    unfold fX8_putNumber_81
    by_cases h0 : p = 0
    · subst h0
      rw [if_pos (show nI 0 ≤ 0 by decide)]
      have := e_putParts (m := m) (I := I) (A := A) (B := B) (fd := fd) (N := N) (p := 0) (by omega) 0 0 FU pl rfl (by unfold FU; omega) (by omega)
      simpa [dPat, pPat, show nI 0 = 0 from rfl] using this
    · have h1 : ¬ nI p ≤ 0 := nI_nle (by omega) (by omega)
      rw [if_neg h1, P_gN2, Option.bind_some, P_a2 hl, Option.bind_some, e_ckP, Option.bind_some, e_put _ _ (by omega), Option.bind_some]
      have := e_putParts (m := m) (I := I) (A := A) (B := B) (fd := fd) (N := N) (p := p) hp p 0 FU (pl ++ [(A 2 l, 0)]) (by omega) (by unfold FU; omega) (by simp; omega)
      rw [show nI 0 = 0 from rfl] at this
      rw [this]
      simp [dPat, pPat, show 0 < p by omega]
  | succ d ih =>
    intro k f pl hk hf hlen
    obtain ⟨f, rfl⟩ : ∃ g, f = g + 1 := ⟨f - 1, by omega⟩
    have key : ∀ wd : Int32, fX8_putNumber_26 (fX8_putNumber_3 f) m (nI l) (nI w) (nI p) gr (nI k) wd m (mP m I A B fd N pl) = some (mP m I A B fd N (pl ++ ((wd, 1) :: ((if decide (¬ gr = 0) = true ∧ sgn (A 4 l) (w - 1 - k) = true then [(A 3 l, 0)] else []) ++ dPat (A 4 l) (A 3 l) (decide (¬ gr = 0)) w d (k + 1) ++ pPat (A 2 l) p)))) := by
      intro wd
      unfold fX8_putNumber_26 fX8_putNumber_60
      rw [e_ckP, Option.bind_some, e_put _ _ (by omega), Option.bind_some]
      by_cases hg : gr = 0
      · rw [if_pos hg, nI_1, ih (k + 1) f _ (by omega) (by omega) (by simp; omega)]
        simp [hg]
      · rw [if_neg hg, e_ckP, Option.bind_some, sub1k (by omega), e_isSignBehind hl (by omega) rfl, Option.bind_some]
        by_cases hs : sgn (A 4 l) (w - 1 - k) = true
        · simp only [hs, if_true, P_gN3, P_a3 hl, e_ckP, Option.bind_some]
          rw [if_neg (by decide), e_put _ _ (by simp; omega), Option.bind_some, nI_1, ih (k + 1) f _ (by omega) (by omega) (by simp; omega)]
          simp [hg]
        · simp only [hs, if_false]
          rw [if_pos (by decide), nI_1, ih (k + 1) f _ (by omega) (by omega) (by simp; omega)]
          simp [hg]
    rw [fX8_putNumber_3, if_neg (nI_ge (by omega) (by omega))]
    unfold fX8_putNumber_25
    by_cases h0 : k = 0
    · subst h0
      rw [if_pos (show nI 0 = 0 from rfl)]
      by_cases h1 : w ≤ 1
      · rw [if_pos (show nI w ≤ 1 from nI_le (b := 1) h1 (by decide)), key]
        simp [dPat, show ¬ 1 < w by omega]
      · rw [if_neg (show ¬ nI w ≤ 1 from nI_ge (a := 1) (b := w) (by omega) (by omega)), key]
        simp [dPat, show 1 < w by omega]
    · rw [if_neg (nI_ne0 (by omega) (by omega)), key]
      simp [dPat, h0]
theorem e_putNumber {l w p : Nat} (hl : l < 24) (hw : w ≤ 9) (hp : p ≤ 6) (gr : Int32) (h : pl.length + 2 * w + p + 1 ≤ 64) : fX8_putNumber m (nI l) (nI w) (nI p) gr (mP m I A B fd N pl) = some (mP m I A B fd N (pl ++ nPat (A 2 l) (A 3 l) (A 4 l) w p (decide (¬ gr = 0)))) := by
  unfold fX8_putNumber nPat
  exact e_putDigits hl hw hp gr w 0 FU pl (by omega) (by unfold FU; omega) h
end PNUM
