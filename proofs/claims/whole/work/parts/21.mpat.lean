/-! ===== the reference: patterns of an amount ===== -/
theorem nz0 : nz 0 = some 0 := by decide
theorem nz1 : nz 1 = some 1 := by decide
theorem inr_nI {k n : Nat} (h : k < n) (hn : n < 2 ^ 31) : inr (nI k) n = true := by
  have h0 : ¬ nI k < 0 := nI_pos (by omega)
  simp [inr, h0, nI_clamp (show k < 2 ^ 31 by omega), h]
theorem e_in (v lo hi : Int32) (M : Mem) : fX8_in v lo hi M = some (if ¬ v < lo ∧ ¬ hi < v then 1 else 0, M) := by
  unfold fX8_in fX8_in_14 fX8_in_15
  by_cases h1 : v < lo
  · simp [h1, nz0]
  · by_cases h2 : hi < v
    · simp [h1, h2, nz0]
    · simp [h1, h2, nz1]
def ov (l : List Int32) (f : Nat → Int32) : Nat → Int32 := fun j => (l[j]?).getD (f j)
theorem ov_push (l : List Int32) (f : Nat → Int32) (x : Int32) : upd (ov l f) l.length x = ov (l ++ [x]) f := by
  funext j
  unfold upd ov
  by_cases h : j = l.length
  · subst h
    simp
  · rw [if_neg h]
    by_cases h2 : j < l.length
    · rw [List.getElem?_append_left h2]
    · rw [List.getElem?_eq_none (by omega), List.getElem?_eq_none (by simp; omega)]
theorem ov_nil (f : Nat → Int32) : ov [] f = f := by funext j; simp [ov]
theorem ov_at {l : List Int32} {f : Nat → Int32} {j : Nat} (h : j < l.length) : ov l f j = l.getD j 0 := by
  simp [ov, List.getElem?_eq_getElem h]
abbrev Pat : Type := List (Int32 × Int32)
/-- the reference's memory with the pattern pl put -/
def mP (m : Nat) (I : Nat → Int32) (A : Nat → Nat → Int32) (B : Nat → Nat → Int64) (fd : Int64) (N : Mem) (pl : Pat) : Mem := mm m (upI I 23 (nI pl.length)) (upA (upA A 20 (ov (pl.map Prod.fst) (A 20))) 21 (ov (pl.map Prod.snd) (A 21))) B fd N
section PAT
variable {m : Nat} {I : Nat → Int32} {A : Nat → Nat → Int32} {B : Nat → Nat → Int64} {fd : Int64} {N : Mem} {pl : Pat}
theorem upA_upA (A : Nat → Nat → Int32) (j : Nat) (f g : Nat → Int32) : upA (upA A j f) j g = upA A j g := by
  funext k
  unfold upA
  by_cases h : k = j <;> simp [h]
theorem upA_comm (A : Nat → Nat → Int32) {i j : Nat} (h : i ≠ j) (f g : Nat → Int32) : upA (upA A i f) j g = upA (upA A j g) i f := by
  funext k
  unfold upA
  by_cases h1 : k = j
  · subst h1
    simp [Ne.symm h]
  · simp [h1]
theorem upI_upI (I : Nat → Int32) (j : Nat) (f g : Int32) : upI (upI I j f) j g = upI I j g := by
  funext k
  unfold upI
  by_cases h : k = j <;> simp [h]
theorem e_put (w c : Int32) (h : pl.length < 64) : fX8_put m w c (mP m I A B fd N pl) = some (mP m I A B fd N (pl ++ [(w, c)])) := by
  have hin : inr (nI pl.length) 64 = true := inr_nI h (by decide)
  have hcl : (nI pl.length).toNatClampNeg = pl.length := nI_clamp (by omega)
  have e1 := ov_push (pl.map Prod.fst) (A 20) w
  have e2 := ov_push (pl.map Prod.snd) (A 21) c
  rw [List.length_map] at e1 e2
  simp only [fX8_put, mP, mm_gN21, mm_gN22, mm_gI23, mm_sI20, mm_sI21, mm_pI23, Option.bind_some, upI, hin, if_true, hcl]
  simp only [upA, if_true, e1, e2]
  congr 1
  congr 1
  · funext k
    by_cases hk : k = 23
    · simp [hk, upI, nI_1]
    · simp [hk, upI]
  · funext k
    by_cases hk : k = 21
    · simp [hk, upA, e2]
    · by_cases hk2 : k = 20
      · simp [hk2, upA, e1]
      · simp [hk, hk2, upA]
theorem e_ckP : ck (mP m I A B fd N pl) 5 m = some () := mm_ck
theorem P_gN6 : gN (mP m I A B fd N pl) 5 m 6 = some (m + 6) := mm_gN6
theorem P_a6 {i : Int32} : aI (mP m I A B fd N pl) (m + 6) i = if inr i 24 = true then some (A 6 i.toNatClampNeg) else none := by
  unfold mP
  rw [mm_aI6]
  simp [upA]
def mkPat (mk : Int32) : Pat := [((mk >>> ((16 : Int32) &&& 31)) &&& (255 : Int32), 0), ((mk >>> ((8 : Int32) &&& 31)) &&& (255 : Int32), 0), (mk &&& (255 : Int32), 0)]
theorem e_putMark {l : Nat} (hl : l < 24) (h : pl.length < 62) : fX8_putMark m (nI l) (mP m I A B fd N pl) = some (mP m I A B fd N (pl ++ mkPat (A 6 l))) := by
  have hin : inr (nI l) 24 = true := inr_nI hl (by decide)
  have hcl : (nI l).toNatClampNeg = l := nI_clamp (by omega)
  simp only [fX8_putMark, P_gN6, P_a6, e_ckP, Option.bind_some, hin, if_true, hcl]
  rw [e_put _ _ (by omega)]
  simp only [P_gN6, P_a6, e_ckP, Option.bind_some, hin, if_true, hcl]
  rw [e_put _ _ (by simp; omega)]
  simp only [P_gN6, P_a6, e_ckP, Option.bind_some, hin, if_true, hcl]
  rw [e_put _ _ (by simp; omega)]
  simp [mkPat]
/-- whether a sign stands behind a digit with so many digits left -/
def sgn (gp : Int32) (left : Nat) : Bool := if left = 0 then false else if gp = 0 then left % 3 = 0 else decide (3 ≤ left) && decide (left % 2 = 1)
theorem rmI_nI {a d : Nat} (ha : a < 2 ^ 31) (h0 : 0 < d) (hd : d < 2 ^ 31) : rmI (nI a) (nI d) = nI (a % d) := pk_rem ha h0 hd
theorem e_isSignBehind {l left : Nat} (hl : l < 24) (hf : left < 2 ^ 31) {M : Mem} (hM : M = mP m I A B fd N pl) : fX8_isSignBehind m (nI l) (nI left) M = some (if sgn (A 4 l) left = true then 1 else 0, M) := by
  have hin : inr (nI l) 24 = true := inr_nI hl (by decide)
  have hcl : (nI l).toNatClampNeg = l := nI_clamp (by omega)
  have h4 : aI (mP m I A B fd N pl) (m + 4) (nI l) = some (A 4 l) := by
    unfold mP
    rw [mm_aI4, if_pos hin, hcl]
    simp [upA]
  have h4g : gN (mP m I A B fd N pl) 5 m 4 = some (m + 4) := mm_gN4
  subst hM
  unfold fX8_isSignBehind fX8_isSignBehind_45 fX8_isSignBehind_46 sgn
  by_cases h0 : left = 0
  · subst h0
    simp [show nI 0 = 0 from rfl, nz0]
  · have h0' : ¬ nI left = 0 := nI_ne0 (by omega) hf
    have r3 : rmI (nI left) 3 = nI (left % 3) := rmI_nI (d := 3) hf (by decide) (by decide)
    have r2 : rmI (nI left) 2 = nI (left % 2) := rmI_nI (d := 2) hf (by decide) (by decide)
    rw [if_neg h0', if_neg h0, h4g, Option.bind_some, h4, Option.bind_some]
    by_cases hg : A 4 l = 0
    · rw [if_pos hg, if_pos hg, r3]
      by_cases h3 : left % 3 = 0
      · simp [h3, show nI 0 = 0 from rfl, nz1]
      · have : ¬ nI (left % 3) = 0 := nI_ne0 (by omega) (by omega)
        simp [h3, this, nz0]
    · rw [if_neg hg, if_neg hg, r2]
      by_cases h3 : left < 3
      · have : nI left < 3 := nI_lt (b := 3) h3 (by decide)
        simp [this, nz0, show ¬ 3 ≤ left by omega]
      · have : ¬ nI left < 3 := nI_nlt (b := 3) (by omega) hf
        by_cases h2 : left % 2 = 1
        · simp [this, h2, show nI 1 = 1 from rfl, nz1, show 3 ≤ left by omega]
        · have h20 : left % 2 = 0 := by omega
          simp [this, h20, show nI 0 = 0 from rfl, nz0]
/-- a place of a pattern takes a byte -/
def pm (w c : Int32) : Bool := if w < 0 then (if w = -1 then decide (¬ c < 48 ∧ ¬ 57 < c) else decide (¬ c < 49 ∧ ¬ 57 < c)) else decide (c = w)
def pmAll (pl : Pat) (T : Nat → Int32) (k n : Nat) : Bool := (List.range (n - k)).all (fun j => pm ((pl.map Prod.fst).getD (k + j) 0) (T (k + j)))
theorem pmAll_self (pl : Pat) (T : Nat → Int32) (n : Nat) : pmAll pl T n n = true := by simp [pmAll]
theorem pmAll_step (pl : Pat) (T : Nat → Int32) {k n : Nat} (h : k < n) : pmAll pl T k n = (pm ((pl.map Prod.fst).getD k 0) (T k) && pmAll pl T (k + 1) n) := by
  unfold pmAll
  have e : n - k = (n - (k + 1)) + 1 := by omega
  rw [e, List.range_succ_eq_map, List.all_cons, List.all_map]
  simp only [Nat.add_zero, Function.comp_def]
  congr 2
  funext j
  rw [show k + j.succ = k + 1 + j by omega]
theorem P_gI23 : gI (mP m I A B fd N pl) 5 m 23 = some (nI pl.length) := by
  unfold mP
  rw [mm_gI23]
  simp [upI]
theorem P_gN19 : gN (mP m I A B fd N pl) 5 m 19 = some (m + 19) := mm_gN19
theorem P_gN21 : gN (mP m I A B fd N pl) 5 m 21 = some (m + 20) := mm_gN21
theorem P_a19 {k : Nat} (h : k < 200) : aI (mP m I A B fd N pl) (m + 19) (nI k) = some (A 19 k) := by
  unfold mP
  rw [mm_aI19, if_pos (inr_nI h (by decide)), nI_clamp (by omega)]
  simp [upA]
theorem P_a20 {k : Nat} (h : k < pl.length) (h2 : pl.length ≤ 64) : aI (mP m I A B fd N pl) (m + 20) (nI k) = some ((pl.map Prod.fst).getD k 0) := by
  unfold mP
  rw [mm_aI20, if_pos (inr_nI (show k < 64 by omega) (by decide)), nI_clamp (by omega)]
  simp only [upA]
  rw [if_neg (by decide), if_pos trivial, ov_at (by simpa using h)]
theorem e_matched_loop {n : Nat} (hn : n ≤ pl.length) (hp : pl.length ≤ 64) : ∀ (d k f : Nat), k + d = n → d < f → fX8_matched_12 f m (nI n) (nI k) (mP m I A B fd N pl) = some (if pmAll pl (A 19) k n = true then (if n = pl.length then 2 else 1) else 0, mP m I A B fd N pl) := by
  intro d
  induction d with
  | zero =>
    intro k f hk hf
    obtain ⟨f, rfl⟩ : ∃ g, f = g + 1 := ⟨f - 1, by omega⟩
    have : k = n := by omega
    subst this
    rw [fX8_matched_12, if_pos (nI_le (Nat.le_refl _) (by omega)), P_gI23, Option.bind_some, pmAll_self]
    unfold fX8_matched_103
    by_cases h : k = pl.length
    · rw [if_pos ((nI_eq (by omega) (by omega)).mpr h)]
      simp [h]
    · rw [if_neg (fun q => h ((nI_eq (by omega) (by omega)).mp q))]
      simp [h]
  | succ d ih =>
    intro k f hk hf
    obtain ⟨f, rfl⟩ : ∃ g, f = g + 1 := ⟨f - 1, by omega⟩
    have hkn : k < n := by omega
    have ih' := ih (k + 1) f (by omega) (by omega)
    rw [fX8_matched_12, if_neg (nI_ge hkn (by omega)), P_gN21, Option.bind_some, P_a20 (by omega) hp, Option.bind_some, pmAll_step _ _ hkn]
    generalize hw : (pl.map Prod.fst).getD k 0 = w
    by_cases h0 : w < 0
    · rw [if_pos h0, P_gN19, Option.bind_some, P_a19 (by omega), Option.bind_some]
      simp only [Option.bind_some, P_gN21, P_a20 (show k < pl.length by omega) hp, hw]
      unfold fX8_matched_72 fX8_matched_77
      by_cases h1 : w = -1
      · rw [if_pos h1, e_in, Option.bind_some, nI_1, ih']
        simp only [pm, h0, h1, if_true]
        by_cases hc : ¬ A 19 k < 48 ∧ ¬ 57 < A 19 k
        · simp [hc]
        · simp only [hc, if_false]
          simp
      · rw [if_neg h1, e_in, Option.bind_some, nI_1, ih']
        simp only [pm, h0, h1, if_true, if_false]
        by_cases hc : ¬ A 19 k < 49 ∧ ¬ 57 < A 19 k
        · simp [hc]
        · simp only [hc, if_false]
          simp
    · rw [if_neg h0, P_gN19, Option.bind_some, P_a19 (by omega), Option.bind_some]
      simp only [Option.bind_some, P_gN21, P_a20 (show k < pl.length by omega) hp, hw]
      unfold fX8_matched_77
      simp only [pm, h0, if_false]
      by_cases hc : A 19 k = w
      · rw [if_pos hc, nI_1, ih']
        simp [hc]
      · rw [if_neg hc]
        simp [hc]
/-- how the first n bytes of a text match a pattern: 2 wholly, 1 as a beginning, 0 not -/
def mres (pl : Pat) (T : Nat → Int32) (n : Nat) : Int32 := if n ≤ pl.length then (if pmAll pl T 0 n = true then (if n = pl.length then 2 else 1) else 0) else 0
theorem e_matched {n : Nat} (hn : n ≤ 200) (hp : pl.length ≤ 64) : fX8_matched m (nI n) (mP m I A B fd N pl) = some (mres pl (A 19) n, mP m I A B fd N pl) := by
  unfold fX8_matched mres
  rw [P_gI23, Option.bind_some]
  by_cases h : n ≤ pl.length
  · rw [if_pos (nI_le h (by omega)), if_pos h]
    exact e_matched_loop h hp n 0 FU (by omega) (by unfold FU; omega)
  · rw [if_neg (nI_ge (by omega) (by omega)), if_neg h]
end PAT
