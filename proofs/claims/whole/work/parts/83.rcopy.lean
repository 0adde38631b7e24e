/-! ===== the reference: a slot copied into another ===== -/
def mvF (φ : Int32 → Int32) (f : Nat → Int32) (n a b k : Nat) : Nat → Int32 := fun i => if n * b ≤ i ∧ i < n * b + k then φ (f (n * a + (i - n * b))) else f i
def mvG (f : Nat → Int64) (n a b k : Nat) : Nat → Int64 := fun i => if n * b ≤ i ∧ i < n * b + k then f (n * a + (i - n * b)) else f i
theorem mv_apart {n a b k i : Nat} (h : ¬ a = b) (hk : k < n) : ¬ (n * b ≤ n * a + k ∧ n * a + k < n * b + i) ∨ n < i := by
  rcases Nat.lt_or_ge n i with q | q
  · exact Or.inr q
  · left
    rintro ⟨h1, h2⟩
    rcases Nat.lt_or_ge a b with q2 | q2
    · have : n * (a + 1) ≤ n * b := Nat.mul_le_mul_left _ q2
      rw [Nat.mul_succ] at this
      omega
    · have : n * (b + 1) ≤ n * a := Nat.mul_le_mul_left _ (by omega)
      rw [Nat.mul_succ] at this
      omega
theorem mvF_at {φ : Int32 → Int32} {f : Nat → Int32} {n a b i k : Nat} (h : ¬ a = b) (hk : k < n) (hi : i ≤ n) : mvF φ f n a b i (n * a + k) = f (n * a + k) := by
  unfold mvF
  rw [if_neg]
  rcases mv_apart (n := n) (i := i) h hk with q | q
  · exact q
  · omega
theorem mvG_at {f : Nat → Int64} {n a b i k : Nat} (h : ¬ a = b) (hk : k < n) (hi : i ≤ n) : mvG f n a b i (n * a + k) = f (n * a + k) := by
  unfold mvG
  rw [if_neg]
  rcases mv_apart (n := n) (i := i) h hk with q | q
  · exact q
  · omega
theorem mvF_0 (φ : Int32 → Int32) (f : Nat → Int32) (n a b : Nat) : mvF φ f n a b 0 = f := by
  funext i
  unfold mvF
  rw [if_neg (by omega)]
theorem mvG_0 (f : Nat → Int64) (n a b : Nat) : mvG f n a b 0 = f := by
  funext i
  unfold mvG
  rw [if_neg (by omega)]
theorem mvF_s {φ : Int32 → Int32} {f : Nat → Int32} {n a b k : Nat} : upd (mvF φ f n a b k) (n * b + k) (φ (f (n * a + k))) = mvF φ f n a b (k + 1) := by
  funext i
  by_cases he : i = n * b + k
  · rw [he, pk_us]
    unfold mvF
    rw [if_pos (by omega), show n * b + k - n * b = k by omega]
  · rw [pk_un he]
    unfold mvF
    by_cases h : n * b ≤ i ∧ i < n * b + k
    · rw [if_pos h, if_pos (by omega)]
    · rw [if_neg h, if_neg (by omega)]
theorem mvG_s {f : Nat → Int64} {n a b k : Nat} : vp_updL (mvG f n a b k) (n * b + k) (f (n * a + k)) = mvG f n a b (k + 1) := by
  funext i
  by_cases he : i = n * b + k
  · rw [he, pk_uLs]
    unfold mvG
    rw [if_pos (by omega), show n * b + k - n * b = k by omega]
  · rw [pk_uLn he]
    unfold mvG
    by_cases h : n * b ≤ i ∧ i < n * b + k
    · rw [if_pos h, if_pos (by omega)]
    · rw [if_neg h, if_neg (by omega)]
theorem upA_at (A : Nat → Nat → Int32) (j : Nat) (f : Nat → Int32) : upA A j f j = f := if_pos rfl
section RCOPY
variable {m : Nat} {A : Nat → Nat → Int32} {B : Nat → Nat → Int64} {N : Mem}
theorem rm_move {j n a b : Nat} (hj : 1 ≤ j) (hj2 : j ≤ 18) (hty : mty j = .int) (h12 : ¬ (j = 12 ∨ j = 13)) (hn : n * 4 ≤ msz j) (ha : a < 4) (hb : b < 4) (hab : ¬ a = b) (M : Mem) (R : RM m A B N M) : ∃ M', fX8_move (m + j) (nI n) (nI a) (nI b) M = some M' ∧ RM m (upA A j (mvF id (A j) n a b n)) B N M' := by
  have hz : msz j ≤ 7200 := by
    have : ∀ j, j ≤ 18 → msz j ≤ 7200 := by decide
    exact this j hj2
  have hna : n * a + n ≤ msz j := by
    have : n * (a + 1) ≤ n * 4 := Nat.mul_le_mul_left _ (by omega)
    rw [Nat.mul_succ] at this
    omega
  have hnb : n * b + n ≤ msz j := by
    have : n * (b + 1) ≤ n * 4 := Nat.mul_le_mul_left _ (by omega)
    rw [Nat.mul_succ] at this
    omega
  have loop : ∀ (d k f : Nat) (M : Mem), k + d = n → d < f → RM m (upA A j (mvF id (A j) n a b k)) B N M → ∃ M', fX8_move_3 f (m + j) (nI n) (nI a) (nI b) (nI k) M = some M' ∧ RM m (upA A j (mvF id (A j) n a b n)) B N M' := by
    intro d
    induction d with
    | zero =>
      intro k f M hk hf R
      obtain ⟨f, rfl⟩ : ∃ g, f = g + 1 := ⟨f - 1, by omega⟩
      have hkn : k = n := by omega
      subst hkn
      refine ⟨M, ?_, R⟩
      rw [fX8_move_3, if_pos (nI_le (Nat.le_refl _) (by omega))]
    | succ d ih =>
      intro k f M hk hf R
      obtain ⟨f, rfl⟩ : ∃ g, f = g + 1 := ⟨f - 1, by omega⟩
      have e1 : nI n * nI a + nI k = nI (n * a + k) := by rw [pk_mul, nI_add]
      have e2 : nI n * nI b + nI k = nI (n * b + k) := by rw [pk_mul, nI_add]
      have a1 := rm_aI hj hj2 hty h12 (show n * a + k < msz j by omega) R
      rw [upA_at, mvF_at hab (by omega) (by omega)] at a1
      obtain ⟨M1, s1, R1⟩ := rm_sI hj hj2 hty h12 (show n * b + k < msz j by omega) (A j (n * a + k)) R
      rw [upA_upA, upA_at] at R1
      have e3 : upd (mvF id (A j) n a b k) (n * b + k) (A j (n * a + k)) = mvF id (A j) n a b (k + 1) := mvF_s
      rw [e3] at R1
      obtain ⟨M', r1, r2⟩ := ih (k + 1) f M1 (by omega) (by omega) R1
      refine ⟨M', ?_, r2⟩
      rw [fX8_move_3, if_neg (nI_ge (by omega) (by omega)), e1, e2, a1, Option.bind_some, s1, Option.bind_some, nI_1, r1]
  unfold fX8_move
  have R0 : RM m (upA A j (mvF id (A j) n a b 0)) B N M := by rw [mvF_0, upA_same]; exact R
  exact loop n 0 FU M (by omega) (by unfold FU; omega) R0
theorem rm_gN12 {M : Mem} (R : RM m A B N M) : gN M 5 m 12 = some (m + 12) := by
  obtain ⟨I, A', fd, rfl, hC⟩ := R
  exact mm_gN12
theorem rm_gN13 {M : Mem} (R : RM m A B N M) : gN M 5 m 13 = some (m + 13) := by
  obtain ⟨I, A', fd, rfl, hC⟩ := R
  exact mm_gN13
theorem rm_gN28 {M : Mem} (R : RM m A B N M) : gN M 5 m 28 = some (m + 23) := by
  obtain ⟨I, A', fd, rfl, hC⟩ := R
  exact mm_gN28
theorem rm_aZ7 {i : Nat} (hi : i < 24) {M : Mem} (R : RM m A B N M) : aZ M (m + 7) (nI i) = some (A 7 i) := by
  obtain ⟨I, A', fd, rfl, hC⟩ := R
  rw [mm_aZ7, if_pos (inr_nI hi (by decide)), nI_clamp (by omega), hC 7 (by decide)]
theorem rm_aB16 {i : Nat} (hi : i < 7200) {M : Mem} (R : RM m A B N M) : aB M (m + 16) (nI i) = some (A 16 i) := by
  obtain ⟨I, A', fd, rfl, hC⟩ := R
  unfold aB
  rw [mm_arr (by decide) (by decide)]
  have h1 : mcell A' B 16 = .inl (.byte, 7200, .inl (A' 16)) := rfl
  rw [h1]
  dsimp only
  rw [if_pos (inr_nI hi (by decide)), nI_clamp (by omega), hC 16 (by decide)]
theorem rm_aL {i j : Nat} (hj : j = 12 ∨ j = 13) (hi : i < 12) {M : Mem} (R : RM m A B N M) : aL M (m + j) (nI i) = some (B j i) := by
  obtain ⟨I, A', fd, rfl, hC⟩ := R
  rcases hj with rfl | rfl
  · rw [mm_aL12, if_pos (inr_nI hi (by decide)), nI_clamp (by omega)]
  · rw [mm_aL13, if_pos (inr_nI hi (by decide)), nI_clamp (by omega)]
theorem rm_sL {i j : Nat} (hj : j = 12 ∨ j = 13) (hi : i < 12) (x : Int64) {M : Mem} (R : RM m A B N M) : ∃ M', sL M (m + j) (nI i) x = some M' ∧ RM m A (upB B j (vp_updL (B j) i x)) N M' := by
  obtain ⟨I, A', fd, rfl, hC⟩ := R
  refine ⟨mm m I A' (upB B j (vp_updL (B j) i x)) fd N, ?_, I, A', fd, rfl, hC⟩
  rw [← mm_setB (by omega) (by omega)]
  unfold sL
  rw [mm_arr (by omega) (by omega)]
  have h1 : mcell A' B j = .inl (.long, 12, .inr (.inl (B j))) := by rcases hj with rfl | rfl <;> rfl
  have h2 : mcell A' (upB B j (vp_updL (B j) i x)) j = .inl (.long, 12, .inr (.inl (vp_updL (B j) i x))) := by rcases hj with rfl | rfl <;> rfl
  rw [h1, h2]
  dsimp only
  rw [if_pos (inr_nI hi (by decide)), nI_clamp (by omega)]
theorem upB_upB (B : Nat → Nat → Int64) (j : Nat) (f g : Nat → Int64) : upB (upB B j f) j g = upB B j g := by
  funext k
  unfold upB
  by_cases h : k = j
  · rw [if_pos h, if_pos h]
  · rw [if_neg h, if_neg h, if_neg h]
theorem upB_same (B : Nat → Nat → Int64) (j : Nat) : upB B j (B j) = B := by
  funext k
  unfold upB
  by_cases h : k = j
  · rw [if_pos h, h]
  · rw [if_neg h]
theorem r_copy16 {a b : Nat} (ha : a < 4) (hb : b < 4) (hab : ¬ a = b) : ∀ (d k f : Nat) (M : Mem), k + d = 1800 → d < f → RM m (upA A 16 (mvF (vp_nar .byte) (A 16) 1800 a b k)) B N M → ∃ M', fX8_copy_242 f m (nI a) (nI b) (nI k) M = some M' ∧ RM m (upA A 16 (mvF (vp_nar .byte) (A 16) 1800 a b 1800)) B N M' := by
  intro d
  induction d with
  | zero =>
    intro k f M hk hf R
    obtain ⟨f, rfl⟩ : ∃ g, f = g + 1 := ⟨f - 1, by omega⟩
    have hkn : k = 1800 := by omega
    subst hkn
    refine ⟨M, ?_, R⟩
    rw [fX8_copy_242, if_pos (by decide)]
  | succ d ih =>
    intro k f M hk hf R
    obtain ⟨f, rfl⟩ : ∃ g, f = g + 1 := ⟨f - 1, by omega⟩
    have e1 : (1800 : Int32) * nI a + nI k = nI (1800 * a + k) := by rw [show (1800 : Int32) * nI a = nI (1800 * a) from pk_mul 1800 a, nI_add]
    have e2 : (1800 : Int32) * nI b + nI k = nI (1800 * b + k) := by rw [show (1800 : Int32) * nI b = nI (1800 * b) from pk_mul 1800 b, nI_add]
    have a1 := rm_aB16 (i := 1800 * a + k) (by omega) R
    rw [upA_at, mvF_at hab (by omega) (by omega)] at a1
    obtain ⟨M1, s1, R1⟩ := rm_sB (i := 1800 * b + k) (by omega) (A 16 (1800 * a + k)) R
    rw [upA_upA, upA_at, mvF_s] at R1
    obtain ⟨M', r1, r2⟩ := ih (k + 1) f M1 (by omega) (by omega) R1
    refine ⟨M', ?_, r2⟩
    rw [fX8_copy_242, if_neg (li_nge 1800 k 1800 rfl (by omega) (by decide)), rm_gN16 R, Option.bind_some, Option.bind_some, e1, e2, a1, Option.bind_some, s1, Option.bind_some, nI_1, r1]
theorem r_copy12 {a b : Nat} (ha : a < 4) (hb : b < 4) (hab : ¬ a = b) : ∀ (d k f : Nat) (M : Mem), k + d = 3 → d < f → RM m A (upB (upB B 12 (mvG (B 12) 3 a b k)) 13 (mvG (B 13) 3 a b k)) N M → ∃ M', fX8_copy_189 f m (nI a) (nI b) (nI k) M = some M' ∧ RM m (upA A 16 (mvF (vp_nar .byte) (A 16) 1800 a b 1800)) (upB (upB B 12 (mvG (B 12) 3 a b 3)) 13 (mvG (B 13) 3 a b 3)) N M' := by
  intro d
  induction d with
  | zero =>
    intro k f M hk hf R
    obtain ⟨f, rfl⟩ : ∃ g, f = g + 1 := ⟨f - 1, by omega⟩
    have hkn : k = 3 := by omega
    subst hkn
    have R0 : RM m (upA A 16 (mvF (vp_nar .byte) (A 16) 1800 a b 0)) (upB (upB B 12 (mvG (B 12) 3 a b 3)) 13 (mvG (B 13) 3 a b 3)) N M := by rw [mvF_0, upA_same]; exact R
    obtain ⟨M', r1, r2⟩ := r_copy16 ha hb hab 1800 0 FU M (by omega) (by unfold FU; omega) R0
    refine ⟨M', ?_, r2⟩
    rw [fX8_copy_189, if_pos (by decide)]
    exact r1
  | succ d ih =>
    intro k f M hk hf R
    obtain ⟨f, rfl⟩ : ∃ g, f = g + 1 := ⟨f - 1, by omega⟩
    have e1 : (3 : Int32) * nI a + nI k = nI (3 * a + k) := by rw [show (3 : Int32) * nI a = nI (3 * a) from pk_mul 3 a, nI_add]
    have e2 : (3 : Int32) * nI b + nI k = nI (3 * b + k) := by rw [show (3 : Int32) * nI b = nI (3 * b) from pk_mul 3 b, nI_add]
    have a1 := rm_aL (j := 12) (i := 3 * a + k) (Or.inl rfl) (by omega) R
    have v1 : upB (upB B 12 (mvG (B 12) 3 a b k)) 13 (mvG (B 13) 3 a b k) 12 = mvG (B 12) 3 a b k := rfl
    rw [v1, mvG_at hab (by omega) (by omega)] at a1
    obtain ⟨M1, s1, R1⟩ := rm_sL (j := 12) (i := 3 * b + k) (Or.inl rfl) (by omega) (B 12 (3 * a + k)) R
    rw [v1, mvG_s] at R1
    have v2 : upB (upB (upB B 12 (mvG (B 12) 3 a b k)) 13 (mvG (B 13) 3 a b k)) 12 (mvG (B 12) 3 a b (k + 1)) 13 = mvG (B 13) 3 a b k := rfl
    have a2 := rm_aL (j := 13) (i := 3 * a + k) (Or.inr rfl) (by omega) R1
    rw [v2, mvG_at hab (by omega) (by omega)] at a2
    obtain ⟨M2, s2, R2⟩ := rm_sL (j := 13) (i := 3 * b + k) (Or.inr rfl) (by omega) (B 13 (3 * a + k)) R1
    rw [v2, mvG_s] at R2
    have v3 : upB (upB (upB (upB B 12 (mvG (B 12) 3 a b k)) 13 (mvG (B 13) 3 a b k)) 12 (mvG (B 12) 3 a b (k + 1))) 13 (mvG (B 13) 3 a b (k + 1)) = upB (upB B 12 (mvG (B 12) 3 a b (k + 1))) 13 (mvG (B 13) 3 a b (k + 1)) := by
      funext i
      unfold upB
      by_cases h13 : i = 13
      · rw [if_pos h13, if_pos h13]
      · rw [if_neg h13, if_neg h13]
        by_cases h12 : i = 12
        · subst h12; rfl
        · simp only [h12, h13, if_false]
    rw [v3] at R2
    obtain ⟨M', r1, r2⟩ := ih (k + 1) f M2 (by omega) (by omega) R2
    refine ⟨M', ?_, r2⟩
    rw [fX8_copy_189, if_neg (li_nge 3 k 3 rfl (by omega) (by decide)), rm_gN12 R, Option.bind_some, Option.bind_some, e1, e2, a1, Option.bind_some, s1, Option.bind_some, rm_gN13 R1, Option.bind_some, Option.bind_some, a2, Option.bind_some, s2, Option.bind_some, nI_1, r1]
theorem r_copy7 {a b : Nat} (ha : a < 4) (hb : b < 4) (hab : ¬ a = b) : ∀ (d k f : Nat) (M : Mem), k + d = 6 → d < f → RM m (upA A 7 (mvF (vp_nar .boolean) (A 7) 6 a b k)) B N M → ∃ M', fX8_copy_153 f m (nI a) (nI b) (nI k) M = some M' ∧ RM m (upA (upA A 7 (mvF (vp_nar .boolean) (A 7) 6 a b 6)) 16 (mvF (vp_nar .byte) (A 16) 1800 a b 1800)) (upB (upB B 12 (mvG (B 12) 3 a b 3)) 13 (mvG (B 13) 3 a b 3)) N M' := by
  intro d
  induction d with
  | zero =>
    intro k f M hk hf R
    obtain ⟨f, rfl⟩ : ∃ g, f = g + 1 := ⟨f - 1, by omega⟩
    have hkn : k = 6 := by omega
    subst hkn
    have R0 : RM m (upA A 7 (mvF (vp_nar .boolean) (A 7) 6 a b 6)) (upB (upB B 12 (mvG (B 12) 3 a b 0)) 13 (mvG (B 13) 3 a b 0)) N M := by rw [mvG_0, mvG_0, upB_same, upB_same]; exact R
    obtain ⟨M', r1, r2⟩ := r_copy12 ha hb hab 3 0 FU M (by omega) (by unfold FU; omega) R0
    refine ⟨M', ?_, r2⟩
    rw [fX8_copy_153, if_pos (by decide)]
    exact r1
  | succ d ih =>
    intro k f M hk hf R
    obtain ⟨f, rfl⟩ : ∃ g, f = g + 1 := ⟨f - 1, by omega⟩
    have e1 : (6 : Int32) * nI a + nI k = nI (6 * a + k) := by rw [show (6 : Int32) * nI a = nI (6 * a) from pk_mul 6 a, nI_add]
    have e2 : (6 : Int32) * nI b + nI k = nI (6 * b + k) := by rw [show (6 : Int32) * nI b = nI (6 * b) from pk_mul 6 b, nI_add]
    have a1 := rm_aZ7 (i := 6 * a + k) (by omega) R
    rw [upA_at, mvF_at hab (by omega) (by omega)] at a1
    obtain ⟨M1, s1, R1⟩ := rm_sZ7 (i := 6 * b + k) (by omega) (A 7 (6 * a + k)) R
    rw [upA_upA, upA_at, mvF_s] at R1
    obtain ⟨M', r1, r2⟩ := ih (k + 1) f M1 (by omega) (by omega) R1
    refine ⟨M', ?_, r2⟩
    rw [fX8_copy_153, if_neg (li_nge 6 k 6 rfl (by omega) (by decide)), rm_gN7 R, Option.bind_some, Option.bind_some, e1, e2, a1, Option.bind_some, s1, Option.bind_some, nI_1, r1]
/-- the reference's arrays with slot a copied into slot b -/
def cpA (A : Nat → Nat → Int32) (a b : Nat) : Nat → Nat → Int32 := fun j => if j = 1 ∨ j = 10 ∨ j = 14 ∨ j = 17 then mvF id (A j) 1 a b 1 else if j = 7 then mvF (vp_nar .boolean) (A 7) 6 a b 6 else if 2 ≤ j ∧ j ≤ 9 then mvF id (A j) 6 a b 6 else if j = 11 then mvF id (A 11) 60 a b 60 else if j = 15 then mvF id (A 15) 30 a b 30 else if j = 16 then mvF (vp_nar .byte) (A 16) 1800 a b 1800 else if j = 18 then mvF id (A 18) 160 a b 160 else A j
def cpB (B : Nat → Nat → Int64) (a b : Nat) : Nat → Nat → Int64 := upB (upB B 12 (mvG (B 12) 3 a b 3)) 13 (mvG (B 13) 3 a b 3)
theorem p_copy {a b : Nat} (ha : a < 4) (hb : b < 4) (hab : ¬ a = b) {M : Mem} (R : RM m A B N M) : ∃ M', fX8_copy m (nI a) (nI b) M = some M' ∧ RM m (cpA A a b) (cpB B a b) N M' := by
  obtain ⟨M1, e1, R1⟩ := rm_move (j := 1) (n := 1) (by decide) (by decide) rfl (by decide) (by decide) ha hb hab M R
  obtain ⟨M2, e2, R2⟩ := rm_move (j := 2) (n := 6) (by decide) (by decide) rfl (by decide) (by decide) ha hb hab M1 R1
  obtain ⟨M3, e3, R3⟩ := rm_move (j := 3) (n := 6) (by decide) (by decide) rfl (by decide) (by decide) ha hb hab M2 R2
  obtain ⟨M4, e4, R4⟩ := rm_move (j := 4) (n := 6) (by decide) (by decide) rfl (by decide) (by decide) ha hb hab M3 R3
  obtain ⟨M5, e5, R5⟩ := rm_move (j := 5) (n := 6) (by decide) (by decide) rfl (by decide) (by decide) ha hb hab M4 R4
  obtain ⟨M6, e6, R6⟩ := rm_move (j := 6) (n := 6) (by decide) (by decide) rfl (by decide) (by decide) ha hb hab M5 R5
  obtain ⟨M8, e8, R8⟩ := rm_move (j := 8) (n := 6) (by decide) (by decide) rfl (by decide) (by decide) ha hb hab M6 R6
  obtain ⟨M9, e9, R9⟩ := rm_move (j := 9) (n := 6) (by decide) (by decide) rfl (by decide) (by decide) ha hb hab M8 R8
  obtain ⟨M10, e10, R10⟩ := rm_move (j := 10) (n := 1) (by decide) (by decide) rfl (by decide) (by decide) ha hb hab M9 R9
  obtain ⟨M11, e11, R11⟩ := rm_move (j := 11) (n := 60) (by decide) (by decide) rfl (by decide) (by decide) ha hb hab M10 R10
  obtain ⟨M14, e14, R14⟩ := rm_move (j := 14) (n := 1) (by decide) (by decide) rfl (by decide) (by decide) ha hb hab M11 R11
  obtain ⟨M15, e15, R15⟩ := rm_move (j := 15) (n := 30) (by decide) (by decide) rfl (by decide) (by decide) ha hb hab M14 R14
  obtain ⟨M17, e17, R17⟩ := rm_move (j := 17) (n := 1) (by decide) (by decide) rfl (by decide) (by decide) ha hb hab M15 R15
  obtain ⟨M18, e18, R18⟩ := rm_move (j := 18) (n := 160) (by decide) (by decide) rfl (by decide) (by decide) ha hb hab M17 R17
  have R19 := R18
  rw [← upA_same (upA _ 18 _) 7, ← mvF_0 (vp_nar .boolean) (upA _ 18 _ 7) 6 a b] at R19
  obtain ⟨M', r1, r2⟩ := r_copy7 ha hb hab 6 0 FU M18 (by omega) (by unfold FU; omega) R19
  refine ⟨M', ?_, ?_⟩
  · unfold fX8_copy
    have k1 : ∀ {M M' : Mem} {j : Nat}, fX8_move (m + j) (nI 1) (nI a) (nI b) M = some M' → fX8_move (m + j) 1 (nI a) (nI b) M = some M' := fun e => e
    have k6 : ∀ {M M' : Mem} {j : Nat}, fX8_move (m + j) (nI 6) (nI a) (nI b) M = some M' → fX8_move (m + j) 6 (nI a) (nI b) M = some M' := fun e => e
    have k60 : fX8_move (m + 11) 60 (nI a) (nI b) M10 = some M11 := e11
    have k30 : fX8_move (m + 15) 30 (nI a) (nI b) M14 = some M15 := e15
    have k160 : fX8_move (m + 18) 160 (nI a) (nI b) M17 = some M18 := e18
    rw [rm_gN1 R, Option.bind_some, k1 e1, Option.bind_some, rm_gN2 R1, Option.bind_some, k6 e2, Option.bind_some, rm_gN3 R2, Option.bind_some, k6 e3, Option.bind_some, rm_gN4 R3, Option.bind_some, k6 e4, Option.bind_some, rm_gN5 R4, Option.bind_some, k6 e5, Option.bind_some, rm_gN6 R5, Option.bind_some, k6 e6, Option.bind_some, rm_gN8 R6, Option.bind_some, k6 e8, Option.bind_some, rm_gN9 R8, Option.bind_some, k6 e9, Option.bind_some, rm_gN10 R9, Option.bind_some, k1 e10, Option.bind_some, rm_gN11 R10, Option.bind_some, k60, Option.bind_some, rm_gN14 R11, Option.bind_some, k1 e14, Option.bind_some, rm_gN15 R14, Option.bind_some, k30, Option.bind_some, rm_gN17 R15, Option.bind_some, k1 e17, Option.bind_some, rm_gN18 R17, Option.bind_some, k160, Option.bind_some]
    exact r1
  · refine (congrArg (fun X => RM m X (cpB B a b) N M') ?_).mp r2
    funext j
    rcases (show j = 0 ∨ j = 1 ∨ j = 2 ∨ j = 3 ∨ j = 4 ∨ j = 5 ∨ j = 6 ∨ j = 7 ∨ j = 8 ∨ j = 9 ∨ j = 10 ∨ j = 11 ∨ j = 12 ∨ j = 13 ∨ j = 14 ∨ j = 15 ∨ j = 16 ∨ j = 17 ∨ j = 18 ∨ 18 < j by omega) with h | h | h | h | h | h | h | h | h | h | h | h | h | h | h | h | h | h | h | h
    all_goals first
      | (subst h; rfl)
      | (unfold cpA upA
         rw [if_neg (by omega), if_neg (by omega), if_neg (by omega), if_neg (by omega), if_neg (by omega), if_neg (by omega), if_neg (by omega), if_neg (by omega), if_neg (by omega), if_neg (by omega), if_neg (by omega), if_neg (by omega), if_neg (by omega), if_neg (by omega), if_neg (by omega), if_neg (by omega), if_neg (by omega), if_neg (by omega), if_neg (by omega), if_neg (by omega), if_neg (by omega), if_neg (by omega), if_neg (by omega)])
end RCOPY
