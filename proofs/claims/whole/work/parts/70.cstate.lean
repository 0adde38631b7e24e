/-! ===== one state for both: what a sheet holds; where the class keeps it; where the reference keeps it ===== -/
abbrev Sg : Type := (Nat × (Nat → L8)) × (Nat × (Nat → Int32)) × (Nat × (Nat → Int32)) × (Nat × (Nat → Nat) × (Nat → Int32)) × (Nat → Int64) × (Nat → Int64)
def nlS (s : Sg) : Nat := s.1.1
def ldS (s : Sg) : Nat → L8 := s.1.2
def lnS (s : Sg) : Nat := s.2.1.1
def lbS (s : Sg) : Nat → Int32 := s.2.1.2
def snS (s : Sg) : Nat := s.2.2.1.1
def sbS (s : Sg) : Nat → Int32 := s.2.2.1.2
def nrS (s : Sg) : Nat := s.2.2.2.1.1
def rlS (s : Sg) : Nat → Nat := s.2.2.2.1.2.1
def rbS (s : Sg) : Nat → Int32 := s.2.2.2.1.2.2
def loS (s : Sg) : Nat → Int64 := s.2.2.2.2.1
def hiS (s : Sg) : Nat → Int64 := s.2.2.2.2.2
def byt (x : Int32) : Prop := ∃ v, v < 256 ∧ x = nI v
theorem byt_nn {x : Int32} (h : byt x) : ¬ x < 0 := by
  obtain ⟨v, hv, rfl⟩ := h
  exact nI_pos (by omega)
def SgOk (s : Sg) : Prop := nlS s ≤ 6 ∧ (∀ l, l < nlS s → L8Ok (ldS s l)) ∧ lnS s ≤ 60 ∧ (∀ k, k < lnS s → byt (lbS s k)) ∧ snS s ≤ 100 ∧ (∀ k, k < snS s → byt (sbS s k)) ∧ nrS s ≤ 30 ∧ (∀ r, r < nrS s → rlS s r ≤ 60 ∧ ∀ k, k < rlS s r → byt (rbS s (60 * r + k)))
/-- M' is M but for the places lo .. hi, and for what is new -/
def Chg (lo hi : Nat) (M M' : Mem) : Prop := M.1 ≤ M'.1 ∧ M'.2.2 = M.2.2 ∧ ∀ a, a < M.1 → (a < lo ∨ hi < a) → M'.2.1 a = M.2.1 a
theorem Chg.rf (lo hi : Nat) (M : Mem) : Chg lo hi M M := ⟨Nat.le_refl _, rfl, fun _ _ _ => rfl⟩
theorem Chg.trans {lo hi : Nat} {M M1 M2 : Mem} (h : Chg lo hi M M1) (g : Chg lo hi M1 M2) : Chg lo hi M M2 := ⟨Nat.le_trans h.1 g.1, g.2.1.trans h.2.1, fun a ha hr => (g.2.2 a (Nat.lt_of_lt_of_le ha h.1) hr).trans (h.2.2 a ha hr)⟩
theorem Chg.wide {lo hi lo' hi' : Nat} {M M' : Mem} (h : Chg lo hi M M') (h1 : lo' ≤ lo) (h2 : hi ≤ hi') : Chg lo' hi' M M' := ⟨h.1, h.2.1, fun a ha hr => h.2.2 a ha (by omega)⟩
theorem Chg.mst (M : Mem) (a : Nat) (e : ME) : Chg a a M (mst M a e) := ⟨Nat.le_refl _, rfl, fun b _ hb => mst_ne M e (by omega)⟩
theorem Chg.mnw (M : Mem) (e : ME) (lo hi : Nat) : Chg lo hi M (mnw M e) := ⟨Nat.le_succ _, rfl, fun b hb _ => by
  show (if b = M.1 then some e else M.2.1 b) = _
  rw [if_neg (by omega)]⟩
/-- a text: its object at t, its bytes at t + 1 -/
def TX (t cap n : Nat) (L : Nat → Int32) (M : Mem) : Prop := n ≤ cap ∧ M.2.1 t = some (.inr (3, [.ref (t + 1), .int (nI n)])) ∧ ∃ f : Nat → Int32, M.2.1 (t + 1) = some (.inl (.int, cap, .inl f)) ∧ ∀ k, k < n → f k = L k
def LX (hb : Nat) (a n : Nat) (L : Nat → L8) (M : Mem) : Prop := ∃ f : Nat → Option Nat, M.2.1 a = some (.inl (.object RX1, 6, .inr (.inr (.inr (.inr f))))) ∧ (∀ l, l < n → ∃ b, f l = some b ∧ M.2.1 b = some (lcell (L l))) ∧ ∀ l, l < 6 → ∀ b, f l = some b → hb ≤ b ∧ b < M.1 ∧ ∃ v, M.2.1 b = some (lcell v)
def shc (s nl nr : Nat) : ME := .inr (2, [.ref (s + 1), .ref (s + 3), .ref (s + 5), .int (nI nl), .ref (s + 6), .ref (s + 7), .int (nI nr), .ref (s + 8), .ref (s + 9)])
def IX (a cap : Nat) (P : (Nat → Int32) → Prop) (M : Mem) : Prop := ∃ f, M.2.1 a = some (.inl (.int, cap, .inl f)) ∧ P f
def GX (a : Nat) (L : Nat → Int64) (M : Mem) : Prop := ∃ f, M.2.1 a = some (.inl (.long, 3, .inr (.inl f))) ∧ ∀ k, k < 3 → f k = L k
/-- a sheet of the class at s .. s + 9 -/
def CSh (hb s : Nat) (σ : Sg) (M : Mem) : Prop := M.2.1 s = some (shc s (nlS σ) (nrS σ)) ∧ TX (s + 1) 60 (lnS σ) (lbS σ) M ∧ TX (s + 3) 100 (snS σ) (sbS σ) M ∧ LX hb (s + 5) (nlS σ) (ldS σ) M ∧ IX (s + 6) 1800 (fun f => ∀ r, r < nrS σ → ∀ k, k < rlS σ r → f (60 * r + k) = rbS σ (60 * r + k)) M ∧ IX (s + 7) 30 (fun f => ∀ r, r < nrS σ → f r = nI (rlS σ r)) M ∧ GX (s + 8) (loS σ) M ∧ GX (s + 9) (hiS σ) M
theorem TX.fr {t cap n : Nat} {L : Nat → Int32} {M M' : Mem} {lo hi : Nat} (h : TX t cap n L M) (g : Chg lo hi M M') (hm : t + 1 < M.1) (hd : t + 1 < lo ∨ hi < t) : TX t cap n L M' := by
  obtain ⟨h0, h1, f, h2, h3⟩ := h
  exact ⟨h0, (g.2.2 t (by omega) (by omega)).trans h1, f, (g.2.2 (t + 1) hm (by omega)).trans h2, h3⟩
theorem LX.fr {hb a n : Nat} {L : Nat → L8} {M M' : Mem} {lo hi : Nat} (h : LX hb a n L M) (g : Chg lo hi M M') (ha : M'.2.1 a = M.2.1 a) (hh : ∀ b v, hb ≤ b → b < M.1 → M.2.1 b = some (lcell v) → M'.2.1 b = some (lcell v)) (hn : n ≤ 6) : LX hb a n L M' := by
  obtain ⟨f, h1, h2, h3⟩ := h
  refine ⟨f, ha.trans h1, fun l hl => ?_, fun l hl b hb2 => ?_⟩
  · obtain ⟨b, q1, q2⟩ := h2 l hl
    obtain ⟨r1, r2, v, r3⟩ := h3 l (by omega) b q1
    exact ⟨b, q1, hh b _ r1 r2 q2⟩
  · obtain ⟨r1, r2, v, r3⟩ := h3 l hl b hb2
    exact ⟨r1, Nat.lt_of_lt_of_le r2 g.1, v, hh b v r1 r2 r3⟩
theorem IX.fr {a cap : Nat} {P : (Nat → Int32) → Prop} {M M' : Mem} (h : IX a cap P M) (ha : M'.2.1 a = M.2.1 a) : IX a cap P M' := by
  obtain ⟨f, h1, h2⟩ := h
  exact ⟨f, ha.trans h1, h2⟩
theorem GX.fr {a : Nat} {L : Nat → Int64} {M M' : Mem} (h : GX a L M) (ha : M'.2.1 a = M.2.1 a) : GX a L M' := by
  obtain ⟨f, h1, h2⟩ := h
  exact ⟨f, ha.trans h1, h2⟩
/-- a sheet stays where nothing of it is changed -/
theorem CSh.fr {hb s : Nat} {σ : Sg} {M M' : Mem} {lo hi : Nat} (h : CSh hb s σ M) (hnl : nlS σ ≤ 6) (g : Chg lo hi M M') (hm : s + 9 < M.1) (hd : s + 9 < lo ∨ hi < s) (hh : ∀ b v, hb ≤ b → b < M.1 → M.2.1 b = some (lcell v) → M'.2.1 b = some (lcell v)) : CSh hb s σ M' := by
  obtain ⟨h0, h1, h2, h3, h4, h5, h6, h7⟩ := h
  have at_ : ∀ i, i ≤ 9 → M'.2.1 (s + i) = M.2.1 (s + i) := fun i hi => g.2.2 (s + i) (by omega) (by omega)
  exact ⟨(at_ 0 (by omega)).trans h0, h1.fr g (by omega) (by omega), h2.fr g (by omega) (by omega), h3.fr g (at_ 5 (by omega)) hh hnl, h4.fr (at_ 6 (by omega)), h5.fr (at_ 7 (by omega)), h6.fr (at_ 8 (by omega)), h7.fr (at_ 9 (by omega))⟩
/-- no land's object lies within a sheet -/
theorem CSh.noland {hb s : Nat} {σ : Sg} {M : Mem} (h : CSh hb s σ M) {b : Nat} {v : L8} (hv : M.2.1 b = some (lcell v)) : b < s ∨ s + 9 < b := by
  obtain ⟨h0, ⟨-, h1, f1, g1, -⟩, ⟨-, h2, f2, g2, -⟩, ⟨f3, h3, -⟩, ⟨f4, h4, -⟩, ⟨f5, h5, -⟩, ⟨f6, h6, -⟩, ⟨f7, h7, -⟩⟩ := h
  rcases Nat.lt_or_ge b s with q | q
  · exact Or.inl q
  · rcases Nat.lt_or_ge (s + 9) b with q2 | q2
    · exact Or.inr q2
    · exfalso
      have : b = s ∨ b = s + 1 ∨ b = s + 1 + 1 ∨ b = s + 3 ∨ b = s + 3 + 1 ∨ b = s + 5 ∨ b = s + 6 ∨ b = s + 7 ∨ b = s + 8 ∨ b = s + 9 := by omega
      rcases this with rfl | rfl | rfl | rfl | rfl | rfl | rfl | rfl | rfl | rfl
      · rw [h0] at hv; cases hv
      · rw [h1] at hv; cases hv
      · rw [g1] at hv; cases hv
      · rw [h2] at hv; cases hv
      · rw [g2] at hv; cases hv
      · rw [h3] at hv; cases hv
      · rw [h4] at hv; cases hv
      · rw [h5] at hv; cases hv
      · rw [h6] at hv; cases hv
      · rw [h7] at hv; cases hv
/-- the class's object at z and all that hangs on it -/
def CO (z : Nat) (σ : Sg) (im : Nat → Option (Nat × Sg)) (M : Mem) : Prop :=
  z + 42 ≤ M.1 ∧ M.2.1 z = some (.inr (4, [.ref (z + 1), .ref (z + 11), .ref (z + 12), .ref (z + 16)])) ∧ CSh (z + 42) (z + 1) σ M ∧
  (∃ f, M.2.1 (z + 11) = some (.inl (.object RX3, 3, .inr (.inr (.inr (.inr f))))) ∧ ∀ k, k < 3 → f k = (im k).map Prod.fst) ∧
  (∀ k s τ, k < 3 → im k = some (s, τ) → SgOk τ ∧ z + 42 ≤ s ∧ s + 10 ≤ M.1 ∧ CSh (z + 42) s τ M) ∧
  (∀ k k' s s' τ τ', k < 3 → k' < 3 → ¬ k = k' → im k = some (s, τ) → im k' = some (s', τ') → s + 10 ≤ s' ∨ s' + 10 ≤ s) ∧
  RdS (z + 12) (z + 14) (z + 15) M ∧ (∃ n L, TX (z + 16) 100 n L M) ∧ SgOk σ
/-- what one slot of the reference holds -/
def Sl (A : Nat → Nat → Int32) (B : Nat → Nat → Int64) (j : Nat) (σ : Sg) : Prop :=
  A 1 j = nI (nlS σ) ∧ (∀ l, l < nlS σ → (A 2 (6 * j + l), A 3 (6 * j + l), A 4 (6 * j + l), A 5 (6 * j + l), A 6 (6 * j + l), A 7 (6 * j + l), A 8 (6 * j + l), A 9 (6 * j + l)) = ldS σ l) ∧
  A 10 j = nI (lnS σ) ∧ (∀ k, k < lnS σ → A 11 (60 * j + k) = lbS σ k) ∧
  A 14 j = nI (nrS σ) ∧ (∀ r, r < nrS σ → A 15 (30 * j + r) = nI (rlS σ r) ∧ ∀ k, k < rlS σ r → A 16 (1800 * j + (60 * r + k)) &&& 255 = rbS σ (60 * r + k)) ∧
  A 17 j = nI (snS σ) ∧ (∀ k, k < snS σ → A 18 (160 * j + k) = sbS σ k) ∧
  (∀ k, k < 3 → B 12 (3 * j + k) = loS σ k ∧ B 13 (3 * j + k) = hiS σ k)
def RO (A : Nat → Nat → Int32) (B : Nat → Nat → Int64) (σ : Sg) (im : Nat → Option (Nat × Sg)) : Prop := Sl A B 0 σ ∧ ∀ k, k < 3 → A 23 k = bI (im k).isSome ∧ ∀ s τ, im k = some (s, τ) → Sl A B (k + 1) τ
/-- both -/
def INV (z : Nat) (kc : KC) (σ : Sg) (im : Nat → Option (Nat × Sg)) (M : Mem) : Prop := M.2.2 = kc ∧ CO z σ im M ∧ ∃ A B, RM (z + 18) A B M M ∧ RO A B σ im
theorem RM.own {m : Nat} {A : Nat → Nat → Int32} {B : Nat → Nat → Int64} {N M : Mem} (h : RM m A B N M) : RM m A B M M := by
  obtain ⟨I, A', fd, h1, h2⟩ := h
  refine ⟨I, A', fd, ?_, h2⟩
  rw [h1]
  refine Prod.ext rfl (Prod.ext (funext fun a => ?_) rfl)
  show (if a = m then _ else if m < a ∧ a ≤ m + 23 then _ else N.2.1 a) = if a = m then some (mo m I fd) else if m < a ∧ a ≤ m + 23 then some (mcell A' B (a - m)) else (mm m I A' B fd N).2.1 a
  by_cases h1 : a = m
  · rw [if_pos h1, if_pos h1]
  · rw [if_neg h1, if_neg h1]
    by_cases h2 : m < a ∧ a ≤ m + 23
    · rw [if_pos h2, if_pos h2]
    · rw [if_neg h2, if_neg h2]
      show _ = if a = m then _ else if m < a ∧ a ≤ m + 23 then _ else N.2.1 a
      rw [if_neg h1, if_neg h2]
/-- the reference stays where the class works -/
theorem RM.fr {m : Nat} {A : Nat → Nat → Int32} {B : Nat → Nat → Int64} {M M' : Mem} {lo hi : Nat} (h : RM m A B M M) (g : Chg lo hi M M') (hm : m + 23 < M.1) (hd : m + 23 < lo ∨ hi < m) : RM m A B M' M' := by
  obtain ⟨I, A', fd, h1, h2⟩ := h
  refine ⟨I, A', fd, ?_, h2⟩
  refine Prod.ext rfl (Prod.ext (funext fun a => ?_) rfl)
  show M'.2.1 a = if a = m then some (mo m I fd) else if m < a ∧ a ≤ m + 23 then some (mcell A' B (a - m)) else M'.2.1 a
  have e : ∀ a, M.2.1 a = (mm m I A' B fd M).2.1 a := fun a => by rw [← h1]
  by_cases q1 : a = m
  · rw [if_pos q1, g.2.2 a (by omega) (by omega), e a]
    show (if a = m then _ else _) = _
    rw [if_pos q1]
  · rw [if_neg q1]
    by_cases q2 : m < a ∧ a ≤ m + 23
    · rw [if_pos q2, g.2.2 a (by omega) (by omega), e a]
      show (if a = m then _ else if m < a ∧ a ≤ m + 23 then _ else _) = _
      rw [if_neg q1, if_pos q2]
    · rw [if_neg q2]
/-- the class stays where the reference works -/
theorem RM.chg {m : Nat} {A : Nat → Nat → Int32} {B : Nat → Nat → Int64} {N M : Mem} (h : RM m A B N M) : Chg m (m + 23) N M := by
  obtain ⟨I, A', fd, rfl, -⟩ := h
  refine ⟨Nat.le_refl _, rfl, fun a _ ha => ?_⟩
  show (if a = m then _ else if m < a ∧ a ≤ m + 23 then _ else N.2.1 a) = _
  rw [if_neg (by omega), if_neg (by omega)]
theorem RdS.fr {r pp ww : Nat} {M M' : Mem} {lo hi : Nat} (h : RdS r pp ww M) (g : Chg lo hi M M') (hm : r < M.1 ∧ pp < M.1 ∧ ww < M.1) (hd : (r < lo ∨ hi < r) ∧ (pp < lo ∨ hi < pp) ∧ (ww < lo ∨ hi < ww)) : RdS r pp ww M' := by
  obtain ⟨⟨b, x1, x2, x3, x4, x5, x6, h1⟩, ⟨P, h2⟩, ⟨W, h3⟩⟩ := h
  exact ⟨⟨b, x1, x2, x3, x4, x5, x6, (g.2.2 r hm.1 hd.1).trans h1⟩, ⟨P, (g.2.2 pp hm.2.1 hd.2.1).trans h2⟩, ⟨W, (g.2.2 ww hm.2.2 hd.2.2).trans h3⟩⟩
/-- the class's object, where only places from z to z + 41 have changed, and there the now-sheet, the reader and the draft are again as they must be -/
theorem CO.fr {z : Nat} {σ σ' : Sg} {im : Nat → Option (Nat × Sg)} {M M' : Mem} (h : CO z σ im M) (g : Chg (z + 1) (z + 41) M M') (h11 : M'.2.1 (z + 11) = M.2.1 (z + 11)) (hs : CSh (z + 42) (z + 1) σ' M') (hr : RdS (z + 12) (z + 14) (z + 15) M') (ht : ∃ n L, TX (z + 16) 100 n L M') (hok : SgOk σ') : CO z σ' im M' := by
  obtain ⟨h0, h1, h2, ⟨f, h3, h3'⟩, h4, h5, h6, h7, h8⟩ := h
  have hl : ∀ b v, z + 42 ≤ b → b < M.1 → M.2.1 b = some (lcell v) → M'.2.1 b = some (lcell v) := fun b v q1 q2 q3 => (g.2.2 b q2 (by omega)).trans q3
  refine ⟨Nat.le_trans h0 g.1, (g.2.2 z (by omega) (by omega)).trans h1, hs, ⟨f, h11.trans h3, h3'⟩, fun k s τ hk he => ?_, h5, hr, ht, hok⟩
  obtain ⟨q1, q2, q3, q4⟩ := h4 k s τ hk he
  exact ⟨q1, q2, Nat.le_trans q3 g.1, q4.fr q1.1 g (by omega) (by omega) hl⟩
theorem CO.ref {z : Nat} {σ : Sg} {im : Nat → Option (Nat × Sg)} {M M' : Mem} (h : CO z σ im M) (g : Chg (z + 18) (z + 41) M M') : CO z σ im M' := by
  have h' := h
  obtain ⟨h0, h1, h2, h3, h4, h5, h6, ⟨n, L, h7⟩, h8⟩ := h'
  have hl : ∀ b v, z + 42 ≤ b → b < M.1 → M.2.1 b = some (lcell v) → M'.2.1 b = some (lcell v) := fun b v q1 q2 q3 => (g.2.2 b q2 (by omega)).trans q3
  exact CO.fr h (g.wide (by omega) (by omega)) (g.2.2 _ (by omega) (by omega)) (h2.fr h8.1 g (by omega) (by omega) hl) (h6.fr g (by omega) (by omega)) ⟨n, L, h7.fr g (by omega) (by omega)⟩ h8
