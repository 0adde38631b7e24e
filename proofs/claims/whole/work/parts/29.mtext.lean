/-! ===== the reference: lineText, rowText, countsNow ===== -/
def ovf (f g : Nat → Int32) (n : Nat) : Nat → Int32 := fun j => if j < n then g j else f j
theorem ovf_0 (f g : Nat → Int32) : ovf f g 0 = f := by funext j; simp [ovf]
theorem ovf_s (f g : Nat → Int32) (k : Nat) : upd (ovf f g k) k (g k) = ovf f g (k + 1) := by
  funext j
  unfold upd ovf
  by_cases h : j = k
  · subst h
    simp
  · rw [if_neg h]
    by_cases h2 : j < k
    · rw [if_pos h2, if_pos (by omega)]
    · rw [if_neg h2, if_neg (by omega)]
section MTEXT
variable {m : Nat} {I : Nat → Int32} {A : Nat → Nat → Int32} {B : Nat → Nat → Int64} {fd : Int64} {N : Mem}
theorem e_ltLoop {len : Nat} (hlen : len ≤ 60) (hI : I 20 = nI len) : ∀ (d k f : Nat), k + d = len → d < f → fX8_lineText_12 f m (nI k) (mm m I (upA A 19 (ovf (A 19) (A 11) k)) B fd N) = some (mm m I (upA A 19 (ovf (A 19) (A 11) len)) B fd N) := by
  intro d
  induction d with
  | zero =>
    intro k f hk hf
    obtain ⟨f, rfl⟩ : ∃ g, f = g + 1 := ⟨f - 1, by omega⟩
    rw [fX8_lineText_12, mm_gI20, Option.bind_some, hI, if_pos (nI_le (by omega) (by omega)), show k = len by omega]
  | succ d ih =>
    intro k f hk hf
    obtain ⟨f, rfl⟩ : ∃ g, f = g + 1 := ⟨f - 1, by omega⟩
    have h11 : upA A 19 (ovf (A 19) (A 11) k) 11 = A 11 := rfl
    have h19 : upA A 19 (ovf (A 19) (A 11) k) 19 = ovf (A 19) (A 11) k := rfl
    rw [fX8_lineText_12, mm_gI20, Option.bind_some, hI, if_neg (nI_ge (by omega) (by omega)), mm_gN19, Option.bind_some, mm_gN11, Option.bind_some, mm_aI11, if_pos (inr_nI (by omega) (by decide)), nI_clamp (by omega), Option.bind_some, mm_sI19, if_pos (inr_nI (by omega) (by decide)), nI_clamp (by omega), Option.bind_some, nI_1, h11, h19, ovf_s, upA_upA, ih (k + 1) f (by omega) (by omega)]
theorem e_lineText {len : Nat} (hlen : len ≤ 60) (hA : A 10 0 = nI len) : fX8_lineText m (mm m I A B fd N) = some (mm m (upI I 20 (nI len)) (upA A 19 (ovf (A 19) (A 11) len)) B fd N) := by
  unfold fX8_lineText
  have h0 : aI (mm m I A B fd N) (m + 10) 0 = some (A 10 0) := by
    rw [mm_aI10, if_pos (by decide)]
    rfl
  rw [mm_gN10, Option.bind_some, h0, Option.bind_some, mm_pI20, Option.bind_some, hA]
  have := e_ltLoop (m := m) (I := upI I 20 (nI len)) (A := A) (B := B) (fd := fd) (N := N) hlen (by simp [upI]) len 0 FU (by omega) (by unfold FU; omega)
  rw [ovf_0, upA_same] at this
  exact this
theorem e_rtLoop {r len : Nat} (hr : r < 30) (hlen : len ≤ 60) (hI : I 20 = nI len) : ∀ (d k f : Nat), k + d = len → d < f → fX8_rowText_12 f m (nI r) (nI k) (mm m I (upA A 19 (ovf (A 19) (fun j => A 16 (60 * r + j) &&& 255) k)) B fd N) = some (mm m I (upA A 19 (ovf (A 19) (fun j => A 16 (60 * r + j) &&& 255) len)) B fd N) := by
  intro d
  induction d with
  | zero =>
    intro k f hk hf
    obtain ⟨f, rfl⟩ : ∃ g, f = g + 1 := ⟨f - 1, by omega⟩
    rw [fX8_rowText_12, mm_gI20, Option.bind_some, hI, if_pos (nI_le (by omega) (by omega)), show k = len by omega]
  | succ d ih =>
    intro k f hk hf
    obtain ⟨f, rfl⟩ : ∃ g, f = g + 1 := ⟨f - 1, by omega⟩
    have h16 : upA A 19 (ovf (A 19) (fun j => A 16 (60 * r + j) &&& 255) k) 16 = A 16 := rfl
    have h19 : upA A 19 (ovf (A 19) (fun j => A 16 (60 * r + j) &&& 255) k) 19 = ovf (A 19) (fun j => A 16 (60 * r + j) &&& 255) k := rfl
    have hm : (60 : Int32) * nI r + nI k = nI (60 * r + k) := by
      have : (60 : Int32) * nI r = nI (60 * r) := pk_mul 60 r
      rw [this, nI_add]
    have hs := ovf_s (A 19) (fun j => A 16 (60 * r + j) &&& 255) k
    rw [fX8_rowText_12, mm_gI20, Option.bind_some, hI, if_neg (nI_ge (by omega) (by omega)), mm_gN19, Option.bind_some, mm_gN16, Option.bind_some, hm, mm_aB16, if_pos (inr_nI (by omega) (by decide)), nI_clamp (by omega), Option.bind_some, mm_sI19, if_pos (inr_nI (by omega) (by decide)), nI_clamp (by omega), Option.bind_some, nI_1, h16, h19, hs, upA_upA, ih (k + 1) f (by omega) (by omega)]
theorem e_rowText {r len : Nat} (hr : r < 30) (hlen : len ≤ 60) (hA : A 15 r = nI len) : fX8_rowText m (nI r) (mm m I A B fd N) = some (mm m (upI I 20 (nI len)) (upA A 19 (ovf (A 19) (fun j => A 16 (60 * r + j) &&& 255) len)) B fd N) := by
  unfold fX8_rowText
  rw [mm_gN15, Option.bind_some, mm_aI15, if_pos (inr_nI (by omega) (by decide)), nI_clamp (by omega), Option.bind_some, mm_pI20, Option.bind_some, hA]
  have := e_rtLoop (m := m) (I := upI I 20 (nI len)) (A := A) (B := B) (fd := fd) (N := N) hr hlen (by simp [upI]) len 0 FU (by omega) (by unfold FU; omega)
  rw [ovf_0, upA_same] at this
  exact this
theorem cmp_lt (x y : Int64) : lg_cmp x y < 0 ↔ x < y := by
  unfold lg_cmp
  by_cases h : y < x
  · rw [if_pos h]
    constructor
    · intro q; exact absurd q (by decide)
    · intro q; exact absurd (Int64.lt_trans h q) (Int64.lt_irrefl)
  · rw [if_neg h]
    by_cases h2 : x = y
    · rw [if_pos h2]
      constructor
      · intro q; exact absurd q (by decide)
      · intro q; rw [h2] at q; exact absurd q (Int64.lt_irrefl)
    · rw [if_neg h2]
      constructor
      · intro _
        exact Int64.lt_of_le_of_ne (Int64.not_lt.mp h) h2
      · intro _; decide
theorem cmp_gt (x y : Int64) : 0 < lg_cmp x y ↔ y < x := by
  unfold lg_cmp
  by_cases h : y < x
  · rw [if_pos h]
    exact ⟨fun _ => h, fun _ => by decide⟩
  · rw [if_neg h]
    by_cases h2 : x = y
    · rw [if_pos h2]
      exact ⟨fun q => absurd q (by decide), fun q => absurd q h⟩
    · rw [if_neg h2]
      exact ⟨fun q => absurd q (by decide), fun q => absurd q h⟩
/-- the value that counts, of what was read -/
def cnt (o : Int32 × Option Int64) (lo hi : Int64) : Bool := decide (o.1 = 2) && (match o.2 with
  | some v => decide (¬ v < lo ∧ ¬ hi < v)
  | none => false)
theorem hld_2 (l : Nat) (kd : Int32) (T : Nat → Int32) (n : Nat) : (hld A l kd T n).1 = 2 → (hld A l kd T n).2.isSome = true := by
  have hsc : ∀ (L : List (Pat × Bool)) (b : Int32), ¬ b = 2 → (scan T n L b).1 = 2 → (scan T n L b).2.isSome = true := by
    intro L
    induction L with
    | nil => intro b hb h; exact absurd h hb
    | cons q L ih =>
      obtain ⟨P, less⟩ := q
      intro b hb h
      simp only [scan] at h ⊢
      by_cases hm : mres P T n = 2
      · rw [if_pos hm]
        rfl
      · rw [if_neg hm] at h ⊢
        refine ih _ ?_ h
        split
        · exact hb
        · exact hm
  unfold hld
  split
  · intro h
    simp only at h ⊢
    by_cases hs : (hday T (A 8 l) (A 9 l) n).2.isSome = true
    · cases ho : (hday T (A 8 l) (A 9 l) n).2 with
      | none => rw [ho] at hs; cases hs
      | some v => rfl
    · rw [if_neg hs] at h
      exact absurd h (bI_2 _)
  · intro h
    simp only at h ⊢
    by_cases hs : (amt A l kd T n).2.isSome = true
    · exact hs
    · rw [if_neg hs] at h
      exact hsc _ 0 (by decide) h
theorem e_countsNow {l n k : Nat} (hl : l < 24) (hn : n ≤ 200) (hk : k < 12) (hI : I 20 = nI n) (c : Int32) (a b : Nat → Int32) : ∃ (c' : Int32) (a' b' : Nat → Int32),
    fX8_countsNow m (nI l) (nI k) (sm m I A B fd N c a b) = some (if cnt (hld A l (nI k) (A 19) n) (B 12 k) (B 13 k) = true then 1 else 0, sm m I A B ((hld A l (nI k) (A 19) n).2.getD fd) N c' a' b') := by
  obtain ⟨c', a', b', h⟩ := e_held (m := m) (I := I) (A := A) (B := B) (fd := fd) (N := N) hl hn (nI k) c a b
  refine ⟨c', a', b', ?_⟩
  have g20 : gI (sm m I A B fd N c a b) 5 m 20 = some (nI n) := by
    unfold sm
    rw [mm_gI20]
    simp [upI, hI]
  have hck : ck (sm m I A B fd N c a b) 5 m = some () := mm_ck
  have h2 := hld_2 (A := A) l (nI k) (A 19) n
  unfold fX8_countsNow fX8_countsNow_46 fX8_countsNow_47
  rw [g20, Option.bind_some, hck, Option.bind_some, h, Option.bind_some]
  generalize hld A l (nI k) (A 19) n = w at h2 ⊢
  obtain ⟨w1, w2⟩ := w
  simp only at h2 ⊢
  unfold cnt
  by_cases hw : w1 = 2
  · rw [if_pos hw]
    obtain ⟨v, hv⟩ : ∃ v, w2 = some v := Option.isSome_iff_exists.mp (h2 hw)
    subst hv
    have g24 : gL (sm m I A B v N c' a' b') 5 m 24 = some v := mm_gL24
    have g12 : gN (sm m I A B v N c' a' b') 5 m 12 = some (m + 12) := mm_gN12
    have g13 : gN (sm m I A B v N c' a' b') 5 m 13 = some (m + 13) := mm_gN13
    have a12 : aL (sm m I A B v N c' a' b') (m + 12) (nI k) = some (B 12 k) := by
      unfold sm
      rw [mm_aL12, if_pos (inr_nI hk (by decide)), nI_clamp (by omega)]
    have a13 : aL (sm m I A B v N c' a' b') (m + 13) (nI k) = some (B 13 k) := by
      unfold sm
      rw [mm_aL13, if_pos (inr_nI hk (by decide)), nI_clamp (by omega)]
    simp only [Option.getD_some, g24, g12, g13, a12, a13, Option.bind_some, cmp_lt, cmp_gt, nz0, nz1]
    by_cases c1 : v < B 12 k
    · simp [c1]
    · by_cases c2 : B 13 k < v
      · simp [c1, c2]
      · simp [c1, c2, hw]
  · rw [if_neg hw, nz0]
    simp [hw]
end MTEXT
