/-! ===== the reference: the value of a matched pattern, the search through all patterns ===== -/
def fv1 (T : Nat → Int32) : List Int32 → Nat → Int64 → Int64
  | [], _, v => v
  | c :: cs, k, v => fv1 T cs (k + 1) (if c = 1 then (10 : Int64) * v + (T k - 48).toInt64 else v)
def fv2 (T : Nat → Int32) : List Int32 → Nat → Int64 → Int64 → Int64
  | [], _, v, _ => v
  | c :: cs, k, v, u => if c = 2 then fv2 T cs (k + 1) (v + u / 10 * (T k - 48).toInt64) (u / 10) else fv2 T cs (k + 1) v u
def fval (pl : Pat) (T : Nat → Int32) : Int64 := fv2 T (pl.map Prod.snd) 0 (fv1 T (pl.map Prod.snd) 0 0 * 1000000) 1000000
section PVAL
variable {m : Nat} {I : Nat → Int32} {A : Nat → Nat → Int32} {B : Nat → Nat → Int64} {fd : Int64} {N : Mem} {pl : Pat}
theorem P_gN22 : gN (mP m I A B fd N pl) 5 m 22 = some (m + 21) := mm_gN22
theorem P_a21 {k : Nat} (h : k < pl.length) (h2 : pl.length ≤ 64) : aI (mP m I A B fd N pl) (m + 21) (nI k) = some ((pl.map Prod.snd).getD k 0) := by
  unfold mP
  rw [mm_aI21, if_pos (inr_nI (show k < 64 by omega) (by decide)), nI_clamp (by omega)]
  simp only [upA]
  rw [if_pos trivial, ov_at (by simpa using h)]
theorem P_pL24 {v : Int64} : pF (mP m I A B fd N pl) 5 m 24 (.long v) = some (mP m I A B v N pl) := mm_pL24
theorem drop_at {l : List Int32} {k : Nat} (h : k < l.length) : l.drop k = l.getD k 0 :: l.drop (k + 1) := by
  rw [List.drop_eq_getElem_cons h]
  simp [List.getElem?_eq_getElem h]
theorem e_fv2 (hp : pl.length ≤ 64) (less : Int32) : ∀ (d k f : Nat) (v u : Int64), k + d = pl.length → d < f → fX8_findValue_63 f m less v u (nI k) (mP m I A B fd N pl) = some (mP m I A B (if less = 0 then fv2 (A 19) ((pl.map Prod.snd).drop k) k v u else - fv2 (A 19) ((pl.map Prod.snd).drop k) k v u) N pl) := by
  intro d
  induction d with
  | zero =>
    intro k f v u hk hf
    obtain ⟨f, rfl⟩ : ∃ g, f = g + 1 := ⟨f - 1, by omega⟩
    rw [fX8_findValue_63, P_gI23, Option.bind_some, if_pos (nI_le (by omega) (by omega))]
    rw [List.drop_eq_nil_of_le (by simp; omega)]
    unfold fX8_findValue_125
    by_cases h : less = 0
    · rw [if_pos h, P_pL24, Option.bind_some, if_pos h]
      rfl
    · rw [if_neg h, P_pL24, Option.bind_some, if_neg h]
      rfl
  | succ d ih =>
    intro k f v u hk hf
    obtain ⟨f, rfl⟩ : ∃ g, f = g + 1 := ⟨f - 1, by omega⟩
    rw [fX8_findValue_63, P_gI23, Option.bind_some, if_neg (nI_ge (by omega) (by omega)), P_gN22, Option.bind_some, P_a21 (by omega) hp, Option.bind_some, drop_at (l := pl.map Prod.snd) (k := k) (by simp; omega)]
    unfold fX8_findValue_108
    generalize (pl.map Prod.snd).getD k 0 = c
    by_cases h : c = 2
    · rw [if_pos h, P_gN19, Option.bind_some, P_a19 (by omega), Option.bind_some, nI_1, ih (k + 1) f _ _ (by omega) (by omega)]
      simp only [fv2, h, if_true]
    · rw [if_neg h, nI_1, ih (k + 1) f _ _ (by omega) (by omega)]
      simp only [fv2, h, if_false]
theorem e_fv1 (hp : pl.length ≤ 64) (less : Int32) (u : Int64) : ∀ (d k f : Nat) (v : Int64), k + d = pl.length → d < f → fX8_findValue_10 f m less v u (nI k) (mP m I A B fd N pl) = fX8_findValue_63 FU m less (fv1 (A 19) ((pl.map Prod.snd).drop k) k v * 1000000) u 0 (mP m I A B fd N pl) := by
  intro d
  induction d with
  | zero =>
    intro k f v hk hf
    obtain ⟨f, rfl⟩ : ∃ g, f = g + 1 := ⟨f - 1, by omega⟩
    rw [fX8_findValue_10, P_gI23, Option.bind_some, if_pos (nI_le (by omega) (by omega))]
    rw [List.drop_eq_nil_of_le (by simp; omega)]
    rfl
  | succ d ih =>
    intro k f v hk hf
    obtain ⟨f, rfl⟩ : ∃ g, f = g + 1 := ⟨f - 1, by omega⟩
    rw [fX8_findValue_10, P_gI23, Option.bind_some, if_neg (nI_ge (by omega) (by omega)), P_gN22, Option.bind_some, P_a21 (by omega) hp, Option.bind_some, drop_at (l := pl.map Prod.snd) (k := k) (by simp; omega)]
    unfold fX8_findValue_48
    generalize (pl.map Prod.snd).getD k 0 = c
    by_cases h : c = 1
    · rw [if_pos h, P_gN19, Option.bind_some, P_a19 (by omega), Option.bind_some, nI_1, ih (k + 1) f _ (by omega) (by omega)]
      simp only [fv1, h, if_true]
    · rw [if_neg h, nI_1, ih (k + 1) f _ (by omega) (by omega)]
      simp only [fv1, h, if_false]
theorem e_findValue (hp : pl.length ≤ 64) (less : Int32) : fX8_findValue m less (mP m I A B fd N pl) = some (mP m I A B (if less = 0 then fval pl (A 19) else - fval pl (A 19)) N pl) := by
  unfold fX8_findValue fval
  have h1 := e_fv1 (m := m) (I := I) (A := A) (B := B) (fd := fd) (N := N) hp less 1000000 pl.length 0 FU 0 (by omega) (by unfold FU; omega)
  have h2 := e_fv2 (m := m) (I := I) (A := A) (B := B) (fd := fd) (N := N) hp less pl.length 0 FU (fv1 (A 19) ((pl.map Prod.snd).drop 0) 0 0 * 1000000) 1000000 (by omega) (by unfold FU; omega)
  rw [show nI 0 = 0 from rfl] at h1 h2
  rw [h1, h2]
  simp
end PVAL
/-- the search: the first pattern that takes all gives its value; else the best match -/
def scan (T : Nat → Int32) (n : Nat) : List (Pat × Bool) → Int32 → Int32 × Option Int64
  | [], best => (best, none)
  | (P, less) :: r, best => if mres P T n = 2 then (2, some (if less = true then - fval P T else fval P T)) else scan T n r (if mres P T n ≤ best then best else mres P T n)
theorem scan_app (T : Nat → Int32) (n : Nat) (l1 l2 : List (Pat × Bool)) (b : Int32) : scan T n (l1 ++ l2) b = if (scan T n l1 b).2.isSome = true then scan T n l1 b else scan T n l2 (scan T n l1 b).1 := by
  induction l1 generalizing b with
  | nil => simp [scan]
  | cons q r ih =>
    obtain ⟨P, less⟩ := q
    simp only [List.cons_append, scan]
    by_cases h : mres P T n = 2
    · simp [h]
    · simp only [h, if_false]
      exact ih _
def cW (F : Nat → List (Pat × Bool)) : Nat → Nat → List (Pat × Bool)
  | 0, _ => []
  | d + 1, y => F y ++ cW F d (y + 1)
/-- one form of an amount -/
def cand (pt g gp mn mk bh kd : Int32) (ways w p y : Nat) : List (Pat × Bool) := if ways ≤ y ∧ (w < 4 ∨ g = 0) then [] else [(aPat pt g gp mn mk bh kd w p (decide (ways ≤ y)) (decide (y % ways % 2 = 1)) (decide (y % ways / 2 % 2 = 1)), decide (y % 2 = 1))]
def cands (pt g gp mn mk bh kd : Int32) (ways : Nat) : List (Pat × Bool) := cW (fun w => cW (fun p => cW (cand pt g gp mn mk bh kd ways w p) (2 * ways) 0) 7 0) 9 1
/-- the reference's scratch *-/
def sm (m : Nat) (I : Nat → Int32) (A : Nat → Nat → Int32) (B : Nat → Nat → Int64) (fd : Int64) (N : Mem) (c : Int32) (a b : Nat → Int32) : Mem := mm m (upI I 23 c) (upA (upA A 20 a) 21 b) B fd N
theorem mP_sm {m : Nat} {I : Nat → Int32} {A : Nat → Nat → Int32} {B : Nat → Nat → Int64} {fd : Int64} {N : Mem} {c : Int32} {a b : Nat → Int32} (pl : Pat) : mP m (upI I 23 c) (upA (upA A 20 a) 21 b) B fd N pl = sm m I A B fd N (nI pl.length) (ov (pl.map Prod.fst) a) (ov (pl.map Prod.snd) b) := by
  unfold mP sm
  rw [upI_upI]
  congr 1
  funext k
  unfold upA
  by_cases h : k = 21
  · simp [h]
  · by_cases h2 : k = 20 <;> simp [h, h2]
