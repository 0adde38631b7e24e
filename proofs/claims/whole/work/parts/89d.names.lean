/-! ===== the names of numbers ===== -/
def nmB (i : Nat) : List Int32 := strB (strTbl.getD i (0, "")).2
def StrOk (kc : KC) : Prop := ∀ q ∈ strTbl, ∃ v, kc.2.2 (kc.1 q.1) = some v ∧ KF kc .byte v q.2.length (fun j => (strB q.2).getD j 0)
theorem nm_chr : ∀ i, i < 31 → ∀ x ∈ nmB i, ((x &&& (255 : Int32)).toUInt32 % 65536).toInt32 = x ∧ vp_nar .char x = x ∧ ¬ x = 32 := by decide +kernel
theorem nm_byt0 : ∀ i, i < 31 → ∀ x ∈ nmB i, ∃ v, v < 256 ∧ x = nI v := by decide +kernel
theorem nm_ne : ∀ i, i < 31 → ¬ nmB i = [] := by decide +kernel
theorem nm_inj : ∀ i, i < 31 → ∀ j, j < 31 → nmB i = nmB j → i = j := by decide +kernel
theorem nm_len : ∀ i, i < 31 → (nmB i).length ≤ 9 := by decide +kernel
theorem nm_mem : ∀ i, i < 31 → (56 + 2 * i, (strTbl.getD i (0, "")).2) ∈ strTbl := by decide +kernel
theorem nm_slen : ∀ i, i < 31 → (strTbl.getD i (0, "")).2.length = (nmB i).length := by decide +kernel
theorem e_nameOf (M : Mem) : ∀ i, i < 31 → fX5_nameOf (nI i) M = some (M.2.2.1 (56 + 2 * i), M) := by
  intro i hi
  have h : i = 0 ∨ i = 1 ∨ i = 2 ∨ i = 3 ∨ i = 4 ∨ i = 5 ∨ i = 6 ∨ i = 7 ∨ i = 8 ∨ i = 9 ∨ i = 10 ∨ i = 11 ∨ i = 12 ∨ i = 13 ∨ i = 14 ∨ i = 15 ∨ i = 16 ∨ i = 17 ∨ i = 18 ∨ i = 19 ∨ i = 20 ∨ i = 21 ∨ i = 22 ∨ i = 23 ∨ i = 24 ∨ i = 25 ∨ i = 26 ∨ i = 27 ∨ i = 28 ∨ i = 29 ∨ i = 30 := by omega
  unfold fX5_nameOf
  rcases h with rfl | rfl | rfl | rfl | rfl | rfl | rfl | rfl | rfl | rfl | rfl | rfl | rfl | rfl | rfl | rfl | rfl | rfl | rfl | rfl | rfl | rfl | rfl | rfl | rfl | rfl | rfl | rfl | rfl | rfl | rfl
  all_goals (repeat (first | rw [if_pos (by decide)] | rw [if_neg (by decide)]))
section NAMES
variable {M : Mem} {i : Nat}
theorem nm_at (h : StrOk M.2.2) (hi : i < 31) : ∃ v n f, kV M (M.2.2.1 (56 + 2 * i)) = some v ∧ M.2.2.2.1 v = some (.byte, n, f) ∧ (nmB i).length ≤ n ∧ Int32.ofNat n = nI (nmB i).length ∧ ∀ j, j < (nmB i).length → f j = lf (nmB i) j := by
  obtain ⟨v, h1, n, f, h2, h3, h4, h5⟩ := h _ (nm_mem i hi)
  rw [nm_slen i hi] at h3 h4 h5
  exact ⟨v, n, f, h1, h2, h3, h4, fun j hj => h5 j hj⟩
theorem nm_ck (h : StrOk M.2.2) (hi : i < 31) : ckS M (M.2.2.1 (56 + 2 * i)) = some () := by
  obtain ⟨v, n, f, h1, -⟩ := nm_at h hi
  have h1' : M.2.2.2.2 (M.2.2.1 (56 + 2 * i)) = some v := h1
  unfold ckS
  rw [h1']
theorem nm_length (h : StrOk M.2.2) (hi : i < 31) : fJ0_length_8abf5 (M.2.2.1 (56 + 2 * i)) M = some (nI (nmB i).length, M) := by
  obtain ⟨v, n, f, h1, h2, h3, h4, h5⟩ := nm_at h hi
  have hkn : kN M v = some (nI (nmB i).length) := by
    unfold kN
    rw [h2]
    exact congrArg some h4
  have hco : fJ0_coder_7d493 (M.2.2.1 (56 + 2 * i)) M = some (0, M) := by
    unfold fJ0_coder_7d493 fJ0_coder_7d493_14
    rw [if_neg (by decide), h1, Option.bind_some, show nr .byte 0 = some 0 by decide]
    rfl
  have hl := nm_len i hi
  unfold fJ0_length_8abf5
  rw [h1, Option.bind_some, hkn, Option.bind_some, nm_ck h hi, Option.bind_some, hco, Option.bind_some]
  dsimp only
  have hs : ∀ k, k < 10 → nI k >>> ((0 : Int32) &&& 31) = nI k := by decide +kernel
  rw [hs _ (by omega)]
theorem nm_charAt (h : StrOk M.2.2) (hi : i < 31) {j : Nat} (hj : j < (nmB i).length) : fJ0_charAt_5068e (M.2.2.1 (56 + 2 * i)) (nI j) M = some (lf (nmB i) j, M) := by
  obtain ⟨v, n, f, h1, h2, h3, h4, h5⟩ := nm_at h hi
  have hl := nm_len i hi
  have hkn : kN M v = some (nI (nmB i).length) := by
    unfold kN
    rw [h2]
    exact congrArg some h4
  have hka : kA M .byte v (nI j) = some (lf (nmB i) j) := by
    unfold kA
    rw [h2]
    dsimp only
    have hin : inr (nI j) n = true := by
      unfold inr
      rw [decide_eq_true (nI_pos (show j < 2 ^ 31 by omega)), nI_clamp (show j < 2 ^ 31 by omega), decide_eq_true (show j < n by omega)]
      rfl
    rw [if_pos ⟨rfl, hin⟩, nI_clamp (show j < 2 ^ 31 by omega), h5 j hj]
  have hch := nm_chr i hi _ (lf_mem hj)
  have hlat : fJ0_isLatin1_aae02 (M.2.2.1 (56 + 2 * i)) M = some (1, M) := by
    unfold fJ0_isLatin1_aae02 fJ0_isLatin1_aae02_18
    rw [if_neg (by decide), h1, Option.bind_some, if_pos rfl, nz1]
    rfl
  have hJ1 : fJ1_charAt_3b067 v (nI j) M = some (lf (nmB i) j, M) := by
    unfold fJ1_charAt_3b067 fJ0_checkIndex_df160 fJ3_checkIndex_8e157
    rw [hkn, Option.bind_some, if_neg (nI_pos (show j < 2 ^ 31 by omega)), if_pos (nI_lt hj (by omega)), Option.bind_some, Option.bind_some]
    dsimp only
    rw [hka, Option.bind_some, hch.1]
    unfold nr
    rw [if_pos hch.2.1, Option.bind_some]
  unfold fJ0_charAt_5068e
  rw [nm_ck h hi, Option.bind_some, hlat, Option.bind_some]
  dsimp only
  rw [if_neg (by decide), h1, Option.bind_some, hJ1, Option.bind_some]
  dsimp only
  unfold nr
  rw [if_pos hch.2.1, Option.bind_some]
end NAMES
/-- one name more -/
def adW (L : List Int32) (i : Nat) : List Int32 := (if L = [] then [] else L ++ [32]) ++ nmB i
def jw (L : List Int32) (ts : List Nat) : List Int32 := ts.foldl adW L
def ln (L : List Int32) : Nat := if L = [] then 0 else L.length + 1
def wl : List Nat → Nat
  | [] => 0
  | t :: ts => (nmB t).length + 1 + wl ts
theorem wl_app (a b : List Nat) : wl (a ++ b) = wl a + wl b := by
  induction a with
  | nil => simp [wl]
  | cons t ts ih => simp only [List.cons_append, wl, ih]; omega
theorem adW_ne {L : List Int32} {i : Nat} (hi : i < 31) : ¬ adW L i = [] := by
  intro h
  exact nm_ne i hi (List.append_eq_nil_iff.mp h).2
theorem ln_adW {L : List Int32} {i : Nat} (hi : i < 31) : ln (adW L i) = ln L + ((nmB i).length + 1) := by
  unfold ln
  rw [if_neg (adW_ne hi)]
  unfold adW
  by_cases hL : L = []
  · rw [if_pos hL, if_pos hL, List.nil_append]; omega
  · rw [if_neg hL, if_neg hL, List.length_append, List.length_append]
    simp only [List.length_singleton]
    omega
theorem jw_app (L : List Int32) (a b : List Nat) : jw L (a ++ b) = jw (jw L a) b := List.foldl_append
theorem ln_jw {ts : List Nat} (h : ∀ t ∈ ts, t < 31) : ∀ L, ln (jw L ts) = ln L + wl ts := by
  induction ts with
  | nil => intro L; rfl
  | cons t ts ih =>
    intro L
    show ln (jw (adW L t) ts) = _
    rw [ih (fun u hu => h u (List.mem_cons_of_mem _ hu)), ln_adW (h t List.mem_cons_self)]
    show _ = ln L + ((nmB t).length + 1 + wl ts)
    omega
theorem len_ln (L : List Int32) : L.length ≤ ln L := by
  unfold ln
  by_cases hL : L = []
  · rw [hL]; exact Nat.zero_le _
  · rw [if_neg hL]; omega
def rT (r : Nat) : List Nat := if 0 < r then [r] else []
def tT (q : Nat) : List Nat := if q < 20 then rT q else (18 + q / 10) :: rT (q % 10)
def hT (p : Nat) : List Nat := if p < 100 then [] else [p / 100, 28]
def tkB (p : Nat) : List Nat := hT p ++ tT (p % 100)
def tkN (p : Nat) (bh : List Nat) : List Nat := if p = 0 then [] else tkB p ++ bh
def tkW (N : Nat) : List Nat := if N = 0 then [0] else tkN (N / 1000000) [30] ++ (tkN (N / 1000 % 1000) [29] ++ tkN (N % 1000) [])
theorem rT_lt {r : Nat} (h : r < 20) : ∀ t ∈ rT r, t < 20 := by
  intro t ht
  unfold rT at ht
  split at ht
  · simp at ht; omega
  · cases ht
theorem tT_lt {q : Nat} (h : q < 100) : ∀ t ∈ tT q, 0 < t ∧ t < 28 := by
  intro t ht
  unfold tT rT at ht
  split at ht
  · split at ht
    · simp at ht; omega
    · cases ht
  · rcases List.mem_cons.mp ht with rfl | ht
    · omega
    · split at ht
      · simp at ht; omega
      · cases ht
theorem tkB_lt {p : Nat} (h : p < 1000) : ∀ t ∈ tkB p, 0 < t ∧ t < 29 := by
  intro t ht
  rcases List.mem_append.mp ht with q | q
  · unfold hT at q
    split at q
    · cases q
    · simp at q
      rcases q with rfl | rfl <;> omega
  · have := tT_lt (by omega : p % 100 < 100) t q
    omega
theorem tkN_lt {p : Nat} {bh : List Nat} (h : p < 1000) (hb : ∀ t ∈ bh, t < 31) : ∀ t ∈ tkN p bh, t < 31 := by
  intro t ht
  unfold tkN at ht
  split at ht
  · cases ht
  · rcases List.mem_append.mp ht with q | q
    · have := tkB_lt h t q
      omega
    · exact hb t q
theorem tkW_lt {N : Nat} (h : N < 10 ^ 9) : ∀ t ∈ tkW N, t < 31 := by
  intro t ht
  unfold tkW at ht
  split at ht
  · simp at ht; omega
  · rcases List.mem_append.mp ht with q | q
    · exact tkN_lt (by omega) (by simp) t q
    · rcases List.mem_append.mp q with q | q
      · exact tkN_lt (by omega) (by simp) t q
      · exact tkN_lt (by omega) (by simp) t q
theorem wl_tkB : ∀ p, p < 1000 → wl (tkB p) ≤ 28 := by decide +kernel
theorem wl_tkN {p : Nat} (bh : List Nat) (h : p < 1000) : wl (tkN p bh) ≤ 28 + wl bh := by
  have := wl_tkB p h
  unfold tkN
  split
  · exact Nat.zero_le _
  · rw [wl_app]; omega
theorem wl_tkW {N : Nat} (h : N < 10 ^ 9) : wl (tkW N) ≤ 101 := by
  have e1 := wl_tkN (p := N / 1000000) [30] (by omega)
  have e2 := wl_tkN (p := N / 1000 % 1000) [29] (by omega)
  have e3 := wl_tkN (p := N % 1000) [] (by omega)
  have w30 : wl [30] = 8 := by decide +kernel
  have w29 : wl [29] = 9 := by decide +kernel
  have w0 : wl [0] = 5 := by decide +kernel
  have wn : wl [] = 0 := rfl
  unfold tkW
  split
  · omega
  · rw [wl_app, wl_app]; omega
theorem len_words {N : Nat} (h : N < 10 ^ 9) : (jw [] (tkW N)).length ≤ 100 := by
  have h1 := ln_jw (tkW_lt h) []
  have h2 := wl_tkW h
  have h3 : ln [] = 0 := rfl
  by_cases hL : jw [] (tkW N) = []
  · rw [hL]; exact Nat.zero_le _
  · unfold ln at h1
    rw [if_neg hL] at h1
    simp at h1
    omega
theorem jw_byt {ts : List Nat} (h : ∀ t ∈ ts, t < 31) : ∀ L, (∀ c ∈ L, byt c) → ∀ c ∈ jw L ts, byt c := by
  induction ts with
  | nil => intro L hL; exact hL
  | cons t ts ih =>
    intro L hL
    refine ih (fun u hu => h u (List.mem_cons_of_mem _ hu)) (adW L t) (fun c hc => ?_)
    unfold adW at hc
    rcases List.mem_append.mp hc with q | q
    · split at q
      · cases q
      · rcases List.mem_append.mp q with q | q
        · exact hL c q
        · simp at q
          rw [q]
          exact ⟨32, by decide, rfl⟩
    · exact nm_byt0 t (h t List.mem_cons_self) c q
