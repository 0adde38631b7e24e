/-! ===== reading depends on the bytes that are there alone ===== -/
def agree (T T' : Nat → Int32) (n : Nat) : Prop := ∀ k, k < n → T k = T' k
theorem pmAll_congr {T T' : Nat → Int32} {n : Nat} (h : agree T T' n) (pl : Pat) (k : Nat) : pmAll pl T k n = pmAll pl T' k n := by
  unfold pmAll
  have : ∀ L : List Nat, (∀ j ∈ L, k + j < n) → L.all (fun j => pm ((pl.map Prod.fst).getD (k + j) 0) (T (k + j))) = L.all (fun j => pm ((pl.map Prod.fst).getD (k + j) 0) (T' (k + j))) := by
    intro L
    induction L with
    | nil => intro _; rfl
    | cons x L ih =>
      intro hL
      simp only [List.all_cons]
      rw [h _ (hL x List.mem_cons_self), ih (fun j hj => hL j (List.mem_cons_of_mem _ hj))]
  refine this _ (fun j hj => ?_)
  have := List.mem_range.mp hj
  omega
theorem mres_congr {T T' : Nat → Int32} {n : Nat} (h : agree T T' n) (pl : Pat) : mres pl T n = mres pl T' n := by
  unfold mres
  rw [pmAll_congr h]
theorem fv1_congr {T T' : Nat → Int32} {n : Nat} (h : agree T T' n) (cs : List Int32) : ∀ (k : Nat) (v : Int64), k + cs.length ≤ n → fv1 T cs k v = fv1 T' cs k v := by
  induction cs with
  | nil => intro k v _; rfl
  | cons c cs ih =>
    intro k v hk
    simp only [List.length_cons] at hk
    simp only [fv1]
    rw [h k (by omega), ih (k + 1) _ (by omega)]
theorem fv2_congr {T T' : Nat → Int32} {n : Nat} (h : agree T T' n) (cs : List Int32) : ∀ (k : Nat) (v u : Int64), k + cs.length ≤ n → fv2 T cs k v u = fv2 T' cs k v u := by
  induction cs with
  | nil => intro k v u _; rfl
  | cons c cs ih =>
    intro k v u hk
    simp only [List.length_cons] at hk
    simp only [fv2]
    rw [h k (by omega), ih (k + 1) _ _ (by omega), ih (k + 1) _ _ (by omega)]
theorem fval_congr {T T' : Nat → Int32} {n : Nat} (h : agree T T' n) (pl : Pat) (hp : pl.length ≤ n) : fval pl T = fval pl T' := by
  unfold fval
  rw [fv1_congr h _ 0 _ (by simpa using hp), fv2_congr h _ 0 _ _ (by simpa using hp)]
theorem mres_len {T : Nat → Int32} {n : Nat} {pl : Pat} (h : mres pl T n = 2) : pl.length = n := by
  unfold mres at h
  split at h
  · split at h
    · split at h
      · omega
      · exact absurd h (by decide)
    · exact absurd h (by decide)
  · exact absurd h (by decide)
theorem scan_congr {T T' : Nat → Int32} {n : Nat} (h : agree T T' n) (L : List (Pat × Bool)) (b : Int32) : scan T n L b = scan T' n L b := by
  induction L generalizing b with
  | nil => rfl
  | cons q L ih =>
    obtain ⟨P, less⟩ := q
    simp only [scan]
    rw [mres_congr h, ih]
    by_cases hm : mres P T' n = 2
    · rw [if_pos hm, if_pos hm, fval_congr h P (Nat.le_of_eq (mres_len hm))]
    · rw [if_neg hm, if_neg hm]
theorem bgn_congr {T T' : Nat → Int32} {n : Nat} (h : agree T T' n) (v : Nat) (d p : Nat) : bgn T v d p n = bgn T' v d p n := by
  induction d generalizing p with
  | zero => rfl
  | succ d ih =>
    simp only [bgn]
    by_cases hp : n ≤ p
    · rw [if_pos hp, if_pos hp]
    · rw [if_neg hp, if_neg hp, h p (by omega), ih]
theorem sd_congr {T T' : Nat → Int32} {n : Nat} (h : agree T T' n) (o sg : Int32) (a b : Nat) : sd T o sg a b n = sd T' o sg a b n := by
  have hb : ∀ v d p, bgn T v d p n = bgn T' v d p n := bgn_congr h
  have hs : ∀ p, (n ≤ p ∨ T p = sg) ↔ (n ≤ p ∨ T' p = sg) := by
    intro p
    by_cases hp : n ≤ p
    · simp [hp]
    · rw [h p (by omega)]
  have hy : ∀ year leap da ma, yOk T year leap a b da ma n = yOk T' year leap a b da ma n := by
    intro year leap da ma
    funext mo d
    unfold yOk
    rw [hb, hb]
  unfold sd
  simp only [hb, hs, hy]
theorem hld_congr {A : Nat → Nat → Int32} {T T' : Nat → Int32} {n : Nat} (h : agree T T' n) (l : Nat) (kd : Int32) : hld A l kd T n = hld A l kd T' n := by
  unfold hld hday amt
  simp only [sd_congr h, scan_congr h]
/-- what the reading asks of the lands' table alone -/
theorem hld_land {A A' : Nat → Nat → Int32} (h : ∀ k, 2 ≤ k → k ≤ 9 → A' k = A k) (l : Nat) (kd : Int32) (T : Nat → Int32) (n : Nat) : hld A' l kd T n = hld A l kd T n := by
  unfold hld hday amt
  rw [h 2 (by decide) (by decide), h 3 (by decide) (by decide), h 4 (by decide) (by decide), h 5 (by decide) (by decide), h 6 (by decide) (by decide), h 7 (by decide) (by decide), h 8 (by decide) (by decide), h 9 (by decide) (by decide)]
