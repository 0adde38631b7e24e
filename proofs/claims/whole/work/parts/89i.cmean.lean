/-! ===== the class: what words mean ===== -/
def seg (T : Nat → Int32) (f e : Nat) : List Int32 := (List.range (e - f)).map (fun k => T (f + k))
theorem seg_len (T : Nat → Int32) (f e : Nat) : (seg T f e).length = e - f := by simp [seg]
theorem seg_lf {T : Nat → Int32} {f e k : Nat} (h : k < e - f) : lf (seg T f e) k = T (f + k) := by
  unfold lf seg
  rw [List.getD_eq_getElem?_getD, List.getElem?_map, List.getElem?_range h]
  rfl
theorem seg_eq {T : Nat → Int32} {f e : Nat} {L : List Int32} : seg T f e = L ↔ L.length = e - f ∧ ∀ k, k < L.length → T (f + k) = lf L k := by
  constructor
  · rintro rfl
    rw [seg_len]
    exact ⟨rfl, fun k hk => (seg_lf hk).symm⟩
  · rintro ⟨h1, h2⟩
    refine lf_ext (by rw [seg_len, h1]) (fun k hk => ?_)
    rw [seg_len] at hk
    rw [seg_lf hk, h2 k (by omega)]
def mf (q : Nat × Nat) (t : Nat) : Nat × Nat := if t = 29 then (q.1 + q.2 * 1000, 0) else if t = 30 then (q.1 + q.2 * 1000000, 0) else if t = 28 then (q.1, q.2 * 100) else if 20 ≤ t then (q.1, q.2 + (t - 18) * 10) else (q.1, q.2 + t)
section CMEAN
variable {t cap n : Nat} {T : Nat → Int32} {M : Mem}
theorem tx_byte (h : TX t cap n T M) (hc : cap < 2 ^ 30) {k : Nat} (hk : k < n) : fX4_byteAt t (nI k) M = some (T k, M) := by
  have hn := h.1
  rcases tx_byteAt h hc (nI k) with ⟨j, h1, h2, h3⟩ | ⟨h1, -⟩
  · have := (nI_eq (by omega) (by omega)).mp h2
    subst this
    exact h3
  · exact absurd ⟨k, hk, rfl⟩ h1
theorem c_stands (h : TX t cap n T M) (hc : cap < 2 ^ 30) (hS : StrOk M.2.2) {f e i : Nat} (hf : f ≤ e) (he : e ≤ n) (hi : i < 31) : fX5_stands t (nI f) (nI e) (M.2.2.1 (56 + 2 * i)) M = some (bI (decide (seg T f e = nmB i)), M) := by
  have hn := h.1
  have hl := nm_len i hi
  have loop : ∀ (d j g : Nat), j + d = (nmB i).length → d < g → (nmB i).length = e - f → (∀ k, k < j → T (f + k) = lf (nmB i) k) → fX5_stands_15 g t (nI f) (M.2.2.1 (56 + 2 * i)) (nI j) M = some (bI (decide (seg T f e = nmB i)), M) := by
    intro d
    induction d with
    | zero =>
      intro j g hj hg hlen hall
      obtain ⟨g, rfl⟩ : ∃ q, g = q + 1 := ⟨g - 1, by omega⟩
      have hq : seg T f e = nmB i := seg_eq.mpr ⟨hlen, fun k hk => hall k (by omega)⟩
      rw [fX5_stands_15, nm_ck hS hi, Option.bind_some, nm_length hS hi, Option.bind_some]
      dsimp only
      rw [if_pos (nI_le (by omega) (by omega)), nz1, Option.bind_some, decide_eq_true hq]
      rfl
    | succ d ih =>
      intro j g hj hg hlen hall
      obtain ⟨g, rfl⟩ : ∃ q, g = q + 1 := ⟨g - 1, by omega⟩
      have hjl : j < (nmB i).length := by omega
      rw [fX5_stands_15, nm_ck hS hi, Option.bind_some, nm_length hS hi, Option.bind_some]
      dsimp only
      rw [if_neg (nI_ge hjl (by omega)), tx_ck h, Option.bind_some, nI_add, tx_byte h hc (show f + j < n by omega), Option.bind_some]
      dsimp only
      rw [nm_ck hS hi, Option.bind_some, nm_charAt hS hi hjl, Option.bind_some]
      dsimp only
      by_cases hb : T (f + j) = lf (nmB i) j
      · rw [if_pos hb, nI_1]
        refine ih (j + 1) g (by omega) (by omega) hlen (fun k hk => ?_)
        by_cases hkj : k = j
        · rw [hkj]; exact hb
        · exact hall k (by omega)
      · have hq : ¬ seg T f e = nmB i := fun q => hb ((seg_eq.mp q).2 j hjl)
        rw [if_neg hb, nz0, Option.bind_some, decide_eq_false hq]
        rfl
  unfold fX5_stands
  rw [nm_ck hS hi, Option.bind_some, nm_length hS hi, Option.bind_some]
  dsimp only
  rw [pk_sub hf]
  by_cases hlen : (nmB i).length = e - f
  · rw [if_pos (by rw [hlen])]
    exact loop (nmB i).length 0 FU (by omega) (by unfold FU; omega) hlen (fun k hk => absurd hk (Nat.not_lt_zero k))
  · have hq : ¬ seg T f e = nmB i := fun q => hlen (seg_eq.mp q).1
    rw [if_neg (fun q => hlen ((nI_eq (by omega) (by omega)).mp q)), nz0, Option.bind_some, decide_eq_false hq]
    rfl
theorem c_nameIn (h : TX t cap n T M) (hc : cap < 2 ^ 30) (hS : StrOk M.2.2) {f e : Nat} (hf : f ≤ e) (he : e ≤ n) : (∃ i, i < 31 ∧ seg T f e = nmB i ∧ fX5_nameIn t (nI f) (nI e) M = some (nI i, M)) ∨ ((∀ i, i < 31 → ¬ seg T f e = nmB i) ∧ fX5_nameIn t (nI f) (nI e) M = some (-1, M)) := by
  have loop2 : ∀ (d i g : Nat), i + d = 31 → d < g → (∀ j, j < i → ¬ seg T f e = nmB j) → (∃ j, j < 31 ∧ seg T f e = nmB j ∧ fX5_nameIn_2 g t (nI f) (nI e) (nI i) M = some (nI j, M)) ∨ ((∀ j, j < 31 → ¬ seg T f e = nmB j) ∧ fX5_nameIn_2 g t (nI f) (nI e) (nI i) M = some (-1, M)) := by
    intro d
    induction d with
    | zero =>
      intro i g hi hg hall
      obtain ⟨g, rfl⟩ : ∃ q, g = q + 1 := ⟨g - 1, by omega⟩
      refine Or.inr ⟨fun j hj => hall j (by omega), ?_⟩
      rw [fX5_nameIn_2, if_pos (li_ge 31 i 31 rfl (by omega) (by omega))]
    | succ d ih =>
      intro i g hi hg hall
      obtain ⟨g, rfl⟩ : ∃ q, g = q + 1 := ⟨g - 1, by omega⟩
      rw [fX5_nameIn_2, if_neg (li_nge 31 i 31 rfl (by omega) (by decide)), e_nameOf M i (by omega), Option.bind_some]
      dsimp only
      rw [c_stands h hc hS hf he (show i < 31 by omega), Option.bind_some]
      dsimp only
      by_cases hq : seg T f e = nmB i
      · rw [decide_eq_true hq, if_neg (show ¬ bI true = 0 by decide)]
        exact Or.inl ⟨i, by omega, hq, rfl⟩
      · rw [decide_eq_false hq, if_pos (show bI false = 0 by decide), nI_1]
        refine ih (i + 1) g (by omega) (by omega) (fun j hj => ?_)
        by_cases hji : j = i
        · rw [hji]; exact hq
        · exact hall j (by omega)
  unfold fX5_nameIn
  exact loop2 31 0 FU (by decide) (by unfold FU; omega) (fun j hj => absurd hj (Nat.not_lt_zero j))
/-- one name read -/
theorem c_41 (h : TX t cap n T M) (hc : cap < 2 ^ 30) (hS : StrOk M.2.2) {f e i : Nat} (hf : f ≤ e) (he : e ≤ n) (hi : i < 31) (hq : seg T f e = nmB i) (k9 : Nat → Int32 → Int32 → Int32 → Int32 → Mem → Option (Int32 × Mem)) (a b : Nat) : fX5_meaning_41 k9 t (nI a) (nI b) (nI f) (nI e) M = k9 t (nI (mf (a, b) i).1) (nI (mf (a, b) i).2) (nI (e + 1)) (nI (e + 1)) M := by
  rcases c_nameIn h hc hS hf he with ⟨j, hj, hj2, e1⟩ | ⟨hn, -⟩
  · have hij := nm_inj j hj i hi (hj2.symm.trans hq)
    subst hij
    have hm1 : ¬ nI j = -1 := by
      intro q
      have hp := nI_pos (n := j) (by omega)
      rw [q] at hp
      exact hp (by decide)
    unfold fX5_meaning_41
    rw [e1, Option.bind_some]
    dsimp only
    rw [if_neg hm1]
    unfold mf fX5_meaning_72 fX5_meaning_89 fX5_meaning_135 fX5_meaning_137 fX5_meaning_142
    have e29 : nI j = 29 ↔ j = 29 := nI_eq (b := 29) (by omega) (by decide)
    have e30 : nI j = 30 ↔ j = 30 := nI_eq (b := 30) (by omega) (by decide)
    have e28 : nI j = 28 ↔ j = 28 := nI_eq (b := 28) (by omega) (by decide)
    rw [nI_1]
    by_cases h29 : j = 29
    · have hn30 : ¬ nI j = 30 := fun q => by have := e30.mp q; omega
      rw [if_pos (e29.mpr h29), if_neg hn30, if_pos h29]
      have q1 : nI b * 1000 = nI (b * 1000) := pk_mul b 1000
      dsimp only
      rw [q1, nI_add]
      rfl
    · rw [if_neg (fun q => h29 (e29.mp q)), if_neg h29]
      by_cases h30 : j = 30
      · rw [if_pos (e30.mpr h30), if_pos (e30.mpr h30), if_pos h30]
        have q1 : nI b * 1000000 = nI (b * 1000000) := pk_mul b 1000000
        dsimp only
        rw [q1, nI_add]
        rfl
      · rw [if_neg (fun q => h30 (e30.mp q)), if_neg h30]
        by_cases h28 : j = 28
        · rw [if_pos (e28.mpr h28), if_pos h28]
          have q1 : nI b * 100 = nI (b * 100) := pk_mul b 100
          dsimp only
          rw [q1]
        · rw [if_neg (fun q => h28 (e28.mp q)), if_neg h28]
          by_cases h20 : 20 ≤ j
          · rw [if_pos (li_ge 20 j 20 rfl h20 (by omega)), if_pos h20]
            have q1 : nI j - 20 = nI (j - 20) := pk_sub (b := 20) h20
            have q2 : nI (j - 20) + 2 = nI (j - 20 + 2) := nI_add _ 2
            have q3 : nI (j - 20 + 2) * 10 = nI ((j - 20 + 2) * 10) := pk_mul _ 10
            dsimp only
            rw [q1, q2, q3, nI_add, show j - 20 + 2 = j - 18 by omega]
          · rw [if_neg (li_nge 20 j 20 rfl (by omega) (by decide)), if_neg h20]
            dsimp only
            rw [nI_add]
  · exact absurd hq (hn i hi)
/-- whatever stands there, there is an answer -/
theorem c_41t (h : TX t cap n T M) (hc : cap < 2 ^ 30) (hS : StrOk M.2.2) {f e : Nat} (hf : f ≤ e) (he : e ≤ n) (k9 : Nat → Int32 → Int32 → Int32 → Int32 → Mem → Option (Int32 × Mem)) (hk : ∀ x1 x2, ∃ r, k9 t x1 x2 (nI (e + 1)) (nI (e + 1)) M = some (r, M)) (x1 x2 : Int32) : ∃ r, fX5_meaning_41 k9 t x1 x2 (nI f) (nI e) M = some (r, M) := by
  have hk' : ∀ x1 x2, ∃ r, k9 t x1 x2 (nI e + 1) (nI e + 1) M = some (r, M) := by
    intro x1 x2
    rw [nI_1]
    exact hk x1 x2
  obtain ⟨r0, e1⟩ : ∃ r0, fX5_nameIn t (nI f) (nI e) M = some (r0, M) := by
    rcases c_nameIn h hc hS hf he with ⟨j, -, -, e1⟩ | ⟨-, e1⟩
    · exact ⟨_, e1⟩
    · exact ⟨_, e1⟩
  unfold fX5_meaning_41 fX5_meaning_72 fX5_meaning_89 fX5_meaning_135 fX5_meaning_137 fX5_meaning_142
  rw [e1, Option.bind_some]
  dsimp only
  split
  · exact ⟨_, rfl⟩
  · split
    · split
      · exact hk' _ _
      · exact hk' _ _
    · split
      · exact hk' _ _
      · split
        · exact hk' _ _
        · split
          · exact hk' _ _
          · exact hk' _ _
theorem c_meant (h : TX t cap n T M) (hc : cap < 2 ^ 30) (hn : n < 10000) (hS : StrOk M.2.2) : ∃ r, fX5_meaning t M = some (r, M) := by
  have loop : ∀ (d i f g : Nat) (x1 x2 : Int32), i + d = n + 1 → f ≤ i → d < g → ∃ r, fX5_meaning_9 g t x1 x2 (nI f) (nI i) M = some (r, M) := by
    intro d
    induction d with
    | zero =>
      intro i f g x1 x2 hi hf hg
      obtain ⟨g, rfl⟩ : ∃ q, g = q + 1 := ⟨g - 1, by omega⟩
      refine ⟨x1 + x2, ?_⟩
      rw [fX5_meaning_9, tx_ck h, Option.bind_some, tx_len h, Option.bind_some]
      dsimp only
      rw [if_pos (nI_lt (by omega) (by omega))]
    | succ d ih =>
      intro i f g x1 x2 hi hf hg
      obtain ⟨g, rfl⟩ : ∃ q, g = q + 1 := ⟨g - 1, by omega⟩
      have hk : ∀ x1 x2, ∃ r, fX5_meaning_9 g t x1 x2 (nI (i + 1)) (nI (i + 1)) M = some (r, M) := fun x1 x2 => ih (i + 1) (i + 1) g x1 x2 (by omega) (Nat.le_refl _) (by omega)
      rw [fX5_meaning_9, tx_ck h, Option.bind_some, tx_len h, Option.bind_some]
      dsimp only
      rw [if_neg (nI_nlt (by omega) (by omega)), tx_ck h, Option.bind_some, tx_len h, Option.bind_some]
      dsimp only
      by_cases hin : i = n
      · rw [if_pos (nI_le (by omega) (by omega))]
        exact c_41t h hc hS hf (by omega) _ hk x1 x2
      · rw [if_neg (nI_ge (by omega) (by omega)), tx_ck h, Option.bind_some, tx_byte h hc (show i < n by omega), Option.bind_some]
        dsimp only
        by_cases h32 : T i = 32
        · rw [if_pos h32]
          exact c_41t h hc hS hf (by omega) _ hk x1 x2
        · rw [if_neg h32]
          unfold fX5_meaning_142
          rw [nI_1]
          exact ih (i + 1) f g x1 x2 (by omega) (by omega) (by omega)
  unfold fX5_meaning
  exact loop (n + 1) 0 0 FU 0 0 (by omega) (Nat.le_refl _) (by unfold FU; omega)
/-- the meaning of names one blank apart -/
theorem c_mean (h : TX t cap n T M) (hc : cap < 2 ^ 30) (hn : n < 10000) (hS : StrOk M.2.2) : ∀ (ts : List Nat) (u s a b g : Nat), (∀ i ∈ u :: ts, i < 31) → Suf T n s (u :: ts) → n + 2 - s < g → fX5_meaning_9 g t (nI a) (nI b) (nI s) (nI s) M = some (nI (((u :: ts).foldl mf (a, b)).1 + ((u :: ts).foldl mf (a, b)).2), M) := by
  intro ts
  induction ts with
  | nil =>
    intro u s a b g hv hs hg
    have hu := hv u List.mem_cons_self
    have hs' : Suf T n s ([u] ++ []) := hs
    have hA := pre_at hs' (by simp)
    have hj : jn [u] = nmB u := by simp [jn, fl]
    rw [hj] at hA
    obtain ⟨s1, s2⟩ := hs
    rw [hj] at s1 s2
    have hl := nm_len u hu
    have run : ∀ (d j g : Nat), j + d = (nmB u).length → d < g → fX5_meaning_9 g t (nI a) (nI b) (nI s) (nI (s + j)) M = fX5_meaning_9 (g - d) t (nI a) (nI b) (nI s) (nI (s + (nmB u).length)) M := by
      intro d
      induction d with
      | zero => intro j g hj hg; rw [Nat.sub_zero, show j = (nmB u).length by omega]
      | succ d ih =>
        intro j g hj hg
        obtain ⟨g, rfl⟩ : ∃ q, g = q + 1 := ⟨g - 1, by omega⟩
        have h32 : ¬ T (s + j) = 32 := by
          rw [s2 j (by omega)]
          exact (nm_chr u hu _ (lf_mem (by omega))).2.2
        rw [fX5_meaning_9, tx_ck h, Option.bind_some, tx_len h, Option.bind_some]
        dsimp only
        rw [if_neg (nI_nlt (by omega) (by omega)), tx_ck h, Option.bind_some, tx_len h, Option.bind_some]
        dsimp only
        rw [if_neg (nI_ge (by omega) (by omega)), tx_ck h, Option.bind_some, tx_byte h hc (show s + j < n by omega), Option.bind_some]
        dsimp only
        rw [if_neg h32]
        unfold fX5_meaning_142
        rw [nI_1, show s + j + 1 = s + (j + 1) by omega, ih (j + 1) g (by omega) (by omega), show g + 1 - (d + 1) = g - d by omega]
    have r0 := run (nmB u).length 0 g (by omega) (by omega)
    rw [Nat.add_zero] at r0
    rw [r0]
    obtain ⟨g', hg'⟩ : ∃ q, g - (nmB u).length = q + 2 := ⟨g - (nmB u).length - 2, by omega⟩
    rw [hg', fX5_meaning_9, tx_ck h, Option.bind_some, tx_len h, Option.bind_some]
    dsimp only
    rw [if_neg (nI_nlt (by omega) (by omega)), tx_ck h, Option.bind_some, tx_len h, Option.bind_some]
    dsimp only
    rw [if_pos (nI_le (by omega) (by omega)), c_41 h hc hS (f := s) (e := s + (nmB u).length) (by omega) (by omega) hu (seg_eq.mpr ⟨by omega, fun k hk => hA.2.1 k hk⟩)]
    rw [fX5_meaning_9, tx_ck h, Option.bind_some, tx_len h, Option.bind_some]
    dsimp only
    rw [if_pos (nI_lt (by omega) (by omega)), nI_add]
    rfl
  | cons v ts ih0 =>
    intro u s a b g hv hs hg
    have hu := hv u List.mem_cons_self
    have hs' : Suf T n s ([u] ++ (v :: ts)) := hs
    have hA := pre_at hs' (by simp)
    have hN := suf_step hs' (by simp) (by simp)
    have hj : jn [u] = nmB u := by simp [jn, fl]
    rw [hj] at hA hN
    have hl := nm_len u hu
    have hN1 := hN.1
    have hne : 0 < (jn (v :: ts)).length := List.length_pos_iff.mpr (jn_ne (by simp) (fun i hi => hv i (List.mem_cons_of_mem _ hi)))
    have run : ∀ (d j g : Nat), j + d = (nmB u).length → d < g → fX5_meaning_9 g t (nI a) (nI b) (nI s) (nI (s + j)) M = fX5_meaning_9 (g - d) t (nI a) (nI b) (nI s) (nI (s + (nmB u).length)) M := by
      intro d
      induction d with
      | zero => intro j g hj hg; rw [Nat.sub_zero, show j = (nmB u).length by omega]
      | succ d ih =>
        intro j g hj hg
        obtain ⟨g, rfl⟩ : ∃ q, g = q + 1 := ⟨g - 1, by omega⟩
        have h32 : ¬ T (s + j) = 32 := by
          rw [hA.2.1 j (by omega)]
          exact (nm_chr u hu _ (lf_mem (by omega))).2.2
        rw [fX5_meaning_9, tx_ck h, Option.bind_some, tx_len h, Option.bind_some]
        dsimp only
        rw [if_neg (nI_nlt (by omega) (by omega)), tx_ck h, Option.bind_some, tx_len h, Option.bind_some]
        dsimp only
        rw [if_neg (nI_ge (by omega) (by omega)), tx_ck h, Option.bind_some, tx_byte h hc (show s + j < n by omega), Option.bind_some]
        dsimp only
        rw [if_neg h32]
        unfold fX5_meaning_142
        rw [nI_1, show s + j + 1 = s + (j + 1) by omega, ih (j + 1) g (by omega) (by omega), show g + 1 - (d + 1) = g - d by omega]
    have r0 := run (nmB u).length 0 g (by omega) (by omega)
    rw [Nat.add_zero] at r0
    rw [r0]
    obtain ⟨g', hg'⟩ : ∃ q, g - (nmB u).length = q + 1 := ⟨g - (nmB u).length - 1, by omega⟩
    have h32 : T (s + (nmB u).length) = 32 := hA.2.2.resolve_left (by omega)
    rw [hg', fX5_meaning_9, tx_ck h, Option.bind_some, tx_len h, Option.bind_some]
    dsimp only
    rw [if_neg (nI_nlt (by omega) (by omega)), tx_ck h, Option.bind_some, tx_len h, Option.bind_some]
    dsimp only
    rw [if_neg (nI_ge (by omega) (by omega)), tx_ck h, Option.bind_some, tx_byte h hc (show s + (nmB u).length < n by omega), Option.bind_some]
    dsimp only
    rw [if_pos h32, c_41 h hc hS (f := s) (e := s + (nmB u).length) (by omega) (by omega) hu (seg_eq.mpr ⟨by omega, fun k hk => hA.2.1 k hk⟩)]
    exact ih0 v _ _ _ g' (fun i hi => hv i (List.mem_cons_of_mem _ hi)) hN (by omega)
end CMEAN
theorem mf_tkB {p : Nat} (hp : p < 1000) (a : Nat) : (tkB p).foldl mf (a, 0) = (a, p) := by
  unfold tkB
  rw [List.foldl_append]
  have e1 : (hT p).foldl mf (a, 0) = (a, p / 100 * 100) := by
    unfold hT
    by_cases h : p < 100
    · rw [if_pos h, show p / 100 = 0 by omega]
      rfl
    · rw [if_neg h]
      show mf (mf (a, 0) (p / 100)) 28 = _
      have : mf (a, 0) (p / 100) = (a, 0 + p / 100) := by
        unfold mf
        rw [if_neg (by omega), if_neg (by omega), if_neg (by omega), if_neg (by omega)]
      rw [this]
      unfold mf
      rw [if_neg (by omega), if_neg (by omega), if_pos rfl]
      simp
  have er : ∀ r, r < 20 → ∀ b, (rT r).foldl mf (a, b) = (a, b + r) := by
    intro r hr b
    unfold rT
    by_cases h : 0 < r
    · rw [if_pos h]
      show mf (a, b) r = _
      unfold mf
      rw [if_neg (by omega), if_neg (by omega), if_neg (by omega), if_neg (by omega)]
    · rw [if_neg h, show r = 0 by omega]
      rfl
  rw [e1]
  unfold tT
  by_cases h20 : p % 100 < 20
  · rw [if_pos h20, er _ h20]
    rw [show p / 100 * 100 + p % 100 = p by omega]
  · rw [if_neg h20]
    show (rT (p % 100 % 10)).foldl mf (mf (a, p / 100 * 100) (18 + p % 100 / 10)) = _
    have : mf (a, p / 100 * 100) (18 + p % 100 / 10) = (a, p / 100 * 100 + (18 + p % 100 / 10 - 18) * 10) := by
      unfold mf
      rw [if_neg (by omega), if_neg (by omega), if_neg (by omega), if_pos (by omega)]
    rw [this, er _ (by omega)]
    rw [show p / 100 * 100 + (18 + p % 100 / 10 - 18) * 10 + p % 100 % 10 = p by omega]
theorem mf_tkW {N : Nat} (hN : N < 10 ^ 9) : ((tkW N).foldl mf (0, 0)).1 + ((tkW N).foldl mf (0, 0)).2 = N := by
  unfold tkW
  by_cases h0 : N = 0
  · rw [if_pos h0, h0]
    decide
  · rw [if_neg h0, List.foldl_append, List.foldl_append]
    have e1 : (tkN (N / 1000000) [30]).foldl mf (0, 0) = (N / 1000000 * 1000000, 0) := by
      unfold tkN
      by_cases h : N / 1000000 = 0
      · rw [if_pos h, h]; simp
      · rw [if_neg h, List.foldl_append, mf_tkB (by omega)]
        show mf (0, N / 1000000) 30 = _
        simp [mf]
    have e2 : (tkN (N / 1000 % 1000) [29]).foldl mf (N / 1000000 * 1000000, 0) = (N / 1000000 * 1000000 + N / 1000 % 1000 * 1000, 0) := by
      unfold tkN
      by_cases h : N / 1000 % 1000 = 0
      · rw [if_pos h, h]; simp
      · rw [if_neg h, List.foldl_append, mf_tkB (by omega)]
        show mf (N / 1000000 * 1000000, N / 1000 % 1000) 29 = _
        simp [mf]
    have e3 : (tkN (N % 1000) []).foldl mf (N / 1000000 * 1000000 + N / 1000 % 1000 * 1000, 0) = (N / 1000000 * 1000000 + N / 1000 % 1000 * 1000, N % 1000) := by
      unfold tkN
      by_cases h : N % 1000 = 0
      · rw [if_pos h, h]; simp
      · rw [if_neg h, List.append_nil, mf_tkB (by omega)]
    rw [e1, e2, e3]
    show N / 1000000 * 1000000 + N / 1000 % 1000 * 1000 + N % 1000 = N
    omega
