/-! ===== the calls, one by one: image, again ===== -/
theorem nar_255 (x : Int32) : (vp_nar .byte x) &&& 255 = x &&& 255 := by
  rw [vp_nar_byte, pk_and _ (m := 255) 8 (by decide), pk_and _ (m := 255) 8 (by decide)]
  congr 1
  have h : (x.toInt8.toInt32).toBitVec = (x.toBitVec.signExtend 8).signExtend 32 := rfl
  rw [h]
  have h2 : ((x.toBitVec.signExtend 8).signExtend 32).setWidth 8 = x.toBitVec.setWidth 8 := by
    apply BitVec.eq_of_getLsbD_eq
    intro i hi
    rw [BitVec.getLsbD_setWidth, BitVec.getLsbD_signExtend, BitVec.getLsbD_signExtend, BitVec.getLsbD_setWidth]
    have h8 : i < 8 := hi
    simp [h8, show i < 32 by omega]
  have h3 := congrArg BitVec.toNat h2
  rw [BitVec.toNat_setWidth, BitVec.toNat_setWidth] at h3
  exact h3
theorem nar_bool {x : Int32} (h : x = 0 ∨ x = 1) : vp_nar .boolean x = x := by rcases h with rfl | rfl <;> decide
theorem mvF_in {φ : Int32 → Int32} {f : Nat → Int32} {n a b k : Nat} (hk : k < n) : mvF φ f n a b n (n * b + k) = φ (f (n * a + k)) := by
  unfold mvF
  rw [if_pos (by omega), show n * b + k - n * b = k by omega]
theorem mvG_in {f : Nat → Int64} {n a b k : Nat} (hk : k < n) : mvG f n a b n (n * b + k) = f (n * a + k) := by
  unfold mvG
  rw [if_pos (by omega), show n * b + k - n * b = k by omega]
theorem mvF_out {φ : Int32 → Int32} {f : Nat → Int32} {n a b j k : Nat} (h : ¬ j = b) (hk : k < n) : mvF φ f n a b n (n * j + k) = f (n * j + k) := by
  unfold mvF
  rw [if_neg]
  rcases mv_apart (n := n) (i := n) h hk with q | q
  · exact q
  · omega
theorem mvG_out {f : Nat → Int64} {n a b j k : Nat} (h : ¬ j = b) (hk : k < n) : mvG f n a b n (n * j + k) = f (n * j + k) := by
  unfold mvG
  rw [if_neg]
  rcases mv_apart (n := n) (i := n) h hk with q | q
  · exact q
  · omega
theorem mv1_in {f : Nat → Int32} {a b : Nat} : mvF id f 1 a b 1 b = f a := by
  have := mvF_in (φ := id) (f := f) (n := 1) (a := a) (b := b) (k := 0) (by decide)
  simpa using this
theorem mv1_out {f : Nat → Int32} {a b j : Nat} (h : ¬ j = b) : mvF id f 1 a b 1 j = f j := by
  have := mvF_out (φ := id) (f := f) (n := 1) (a := a) (b := b) (j := j) (k := 0) h (by decide)
  simpa using this
section SLCP
variable {A : Nat → Nat → Int32} {B : Nat → Nat → Int64} {a b j : Nat} {τ : Sg}
theorem sl_to (h : Sl A B a τ) (hok : SgOk τ) : Sl (cpA A a b) (cpB B a b) b τ := by
  obtain ⟨o1, o2, o3, o4, o5, o6, o7, o8, o9⟩ := h
  have hn6 := hok.1
  have hln := hok.2.2.1
  have hsn := hok.2.2.2.2.1
  have hnr := hok.2.2.2.2.2.2.1
  refine ⟨?_, fun l hl => ?_, ?_, fun k hk => ?_, ?_, fun r hr => ⟨?_, fun k hk => ?_⟩, ?_, fun k hk => ?_, fun k hk => ⟨?_, ?_⟩⟩
  · show mvF id (A 1) 1 a b 1 b = _
    rw [mv1_in]; exact o1
  · show (mvF id (A 2) 6 a b 6 (6 * b + l), mvF id (A 3) 6 a b 6 (6 * b + l), mvF id (A 4) 6 a b 6 (6 * b + l), mvF id (A 5) 6 a b 6 (6 * b + l), mvF id (A 6) 6 a b 6 (6 * b + l), mvF (vp_nar .boolean) (A 7) 6 a b 6 (6 * b + l), mvF id (A 8) 6 a b 6 (6 * b + l), mvF id (A 9) 6 a b 6 (6 * b + l)) = _
    have hl6 : l < 6 := by omega
    rw [mvF_in hl6, mvF_in hl6, mvF_in hl6, mvF_in hl6, mvF_in hl6, mvF_in hl6, mvF_in hl6, mvF_in hl6]
    have e := o2 l hl
    have h7 : A 7 (6 * a + l) = 0 ∨ A 7 (6 * a + l) = 1 := by
      have h8 := (hok.2.1 l hl).2.2.2.2.1
      rw [← e] at h8
      exact h8
    rw [nar_bool h7]
    exact e
  · show mvF id (A 10) 1 a b 1 b = _
    rw [mv1_in]; exact o3
  · show mvF id (A 11) 60 a b 60 (60 * b + k) = _
    rw [mvF_in (by omega)]; exact o4 k hk
  · show mvF id (A 14) 1 a b 1 b = _
    rw [mv1_in]; exact o5
  · show mvF id (A 15) 30 a b 30 (30 * b + r) = _
    rw [mvF_in (by omega)]; exact (o6 r hr).1
  · have hrl := (hok.2.2.2.2.2.2.2 r hr).1
    show mvF (vp_nar .byte) (A 16) 1800 a b 1800 (1800 * b + (60 * r + k)) &&& 255 = _
    rw [mvF_in (by omega), nar_255]; exact (o6 r hr).2 k hk
  · show mvF id (A 17) 1 a b 1 b = _
    rw [mv1_in]; exact o7
  · show mvF id (A 18) 160 a b 160 (160 * b + k) = _
    rw [mvF_in (by omega)]; exact o8 k hk
  · show mvG (B 12) 3 a b 3 (3 * b + k) = _
    rw [mvG_in hk]; exact (o9 k hk).1
  · show mvG (B 13) 3 a b 3 (3 * b + k) = _
    rw [mvG_in hk]; exact (o9 k hk).2
theorem sl_ne (h : Sl A B j τ) (hok : SgOk τ) (hj : ¬ j = b) : Sl (cpA A a b) (cpB B a b) j τ := by
  obtain ⟨o1, o2, o3, o4, o5, o6, o7, o8, o9⟩ := h
  have hn6 := hok.1
  have hln := hok.2.2.1
  have hsn := hok.2.2.2.2.1
  have hnr := hok.2.2.2.2.2.2.1
  refine ⟨?_, fun l hl => ?_, ?_, fun k hk => ?_, ?_, fun r hr => ⟨?_, fun k hk => ?_⟩, ?_, fun k hk => ?_, fun k hk => ⟨?_, ?_⟩⟩
  · show mvF id (A 1) 1 a b 1 j = _
    rw [mv1_out hj]; exact o1
  · show (mvF id (A 2) 6 a b 6 (6 * j + l), mvF id (A 3) 6 a b 6 (6 * j + l), mvF id (A 4) 6 a b 6 (6 * j + l), mvF id (A 5) 6 a b 6 (6 * j + l), mvF id (A 6) 6 a b 6 (6 * j + l), mvF (vp_nar .boolean) (A 7) 6 a b 6 (6 * j + l), mvF id (A 8) 6 a b 6 (6 * j + l), mvF id (A 9) 6 a b 6 (6 * j + l)) = _
    have hl6 : l < 6 := by omega
    rw [mvF_out hj hl6, mvF_out hj hl6, mvF_out hj hl6, mvF_out hj hl6, mvF_out hj hl6, mvF_out hj hl6, mvF_out hj hl6, mvF_out hj hl6]
    exact o2 l hl
  · show mvF id (A 10) 1 a b 1 j = _
    rw [mv1_out hj]; exact o3
  · show mvF id (A 11) 60 a b 60 (60 * j + k) = _
    rw [mvF_out hj (by omega)]; exact o4 k hk
  · show mvF id (A 14) 1 a b 1 j = _
    rw [mv1_out hj]; exact o5
  · show mvF id (A 15) 30 a b 30 (30 * j + r) = _
    rw [mvF_out hj (by omega)]; exact (o6 r hr).1
  · have hrl := (hok.2.2.2.2.2.2.2 r hr).1
    show mvF (vp_nar .byte) (A 16) 1800 a b 1800 (1800 * j + (60 * r + k)) &&& 255 = _
    rw [mvF_out hj (by omega)]; exact (o6 r hr).2 k hk
  · show mvF id (A 17) 1 a b 1 j = _
    rw [mv1_out hj]; exact o7
  · show mvF id (A 18) 160 a b 160 (160 * j + k) = _
    rw [mvF_out hj (by omega)]; exact o8 k hk
  · show mvG (B 12) 3 a b 3 (3 * j + k) = _
    rw [mvG_out hj hk]; exact (o9 k hk).1
  · show mvG (B 13) 3 a b 3 (3 * j + k) = _
    rw [mvG_out hj hk]; exact (o9 k hk).2
end SLCP
def upI3 (im : Nat → Option (Nat × Sg)) (k : Nat) (v : Nat × Sg) : Nat → Option (Nat × Sg) := fun j => if j = k then some v else im j
section CIMAGE
variable {z : Nat} {kc : KC} {σ : Sg} {im : Nat → Option (Nat × Sg)} {M : Mem}
theorem co_aQ (h : CO z σ im M) {k : Nat} (hk : k < 3) : aQ M (z + 11) (nI k) = some ((im k).map Prod.fst) := by
  obtain ⟨f, f1, f2⟩ := h.2.2.2.1
  unfold aQ
  rw [f1]
  dsimp only
  rw [if_pos (inr_nI hk (by decide)), nI_clamp (by omega), f2 k hk]
/-- the now-sheet copied into an image -/
theorem co_img33 (h : CO z σ im M) {k s : Nat} {τ : Sg} (hk : k < 3) (he : im k = some (s, τ)) : ∃ M', fX7_image_33 z (nI k) M = some (1, M') ∧ CO z σ (upI3 im k (s, σ)) M' ∧ Cl z M M' := by
  have h' := h
  obtain ⟨h0, h1, h2, ⟨f, h3, h3'⟩, h4, h5, h6, ⟨nd, Ld, h7⟩, h8⟩ := h'
  obtain ⟨t1, t2, t3, t4⟩ := h4 k s τ hk he
  obtain ⟨M', q1, q2, q3⟩ := cs_copy t4 h2 h8 (by omega) (by omega)
  have hlnd : ∀ b v, z + 42 ≤ b → b < M.1 → M.2.1 b = some (lcell v) → M'.2.1 b = some (lcell v) := fun b v r1 r2 r3 => (q3.2.2 b r2 (by have := t4.noland r3; omega)).trans r3
  have ats : ∀ a, a < M.1 → a < s → M'.2.1 a = M.2.1 a := fun a r1 r2 => q3.2.2 a r1 (Or.inl r2)
  refine ⟨M', ?_, ⟨Nat.le_trans h0 q3.1, (ats z (by omega) (by omega)).trans h1, h2.fr h8.1 q3 (by omega) (by omega) hlnd, ⟨f, (ats _ (by omega) (by omega)).trans h3, fun j hj => ?_⟩, fun j s2 τ2 hj hj2 => ?_, fun j j' s1 s2 τ1 τ2 hj hj' hne r1 r2 => ?_, h6.fr q3 (by omega) (by omega), ⟨nd, Ld, h7.fr q3 (by omega) (by omega)⟩, h8⟩, ⟨q3.1, q3.2.1, fun a r1 r2 => ats a (by omega) (by omega)⟩⟩
  · unfold fX7_image_33
    rw [co_g1 h, Option.bind_some, co_aQ h hk, he, Option.bind_some, co_g0 h, Option.bind_some]
    show ((some s).bind fun a4 => _) = _
    rw [Option.bind_some, cs_ck t4, Option.bind_some, q1, Option.bind_some, nz1, Option.bind_some]
  · rw [h3' j hj]
    unfold upI3
    by_cases hjk : j = k
    · rw [if_pos hjk, hjk, he]; rfl
    · rw [if_neg hjk]
  · unfold upI3 at hj2
    by_cases hjk : j = k
    · rw [if_pos hjk] at hj2
      cases hj2
      exact ⟨h8, t2, Nat.le_trans t3 q3.1, q2⟩
    · rw [if_neg hjk] at hj2
      obtain ⟨u1, u2, u3, u4⟩ := h4 j s2 τ2 hj hj2
      have := h5 k j s s2 τ τ2 hk hj (fun q => hjk q.symm) he hj2
      exact ⟨u1, u2, Nat.le_trans u3 q3.1, u4.fr u1.1 q3 (by omega) (by omega) hlnd⟩
  · unfold upI3 at r1 r2
    by_cases hjk : j = k
    · rw [if_pos hjk] at r1
      rw [if_neg (fun q => hne (hjk.trans q.symm))] at r2
      cases r1
      exact h5 k j' s s2 τ τ2 hk hj' (fun q => hne (hjk.trans q)) he r2
    · rw [if_neg hjk] at r1
      by_cases hjk' : j' = k
      · rw [if_pos hjk'] at r2
        cases r2
        exact h5 j k s1 s τ1 τ hj hk hjk r1 he
      · rw [if_neg hjk'] at r2
        exact h5 j j' s1 s2 τ1 τ2 hj hj' hne r1 r2
/-- a new image's sheet -/
theorem co_newImg (h : CO z σ im M) {k : Nat} (hk : k < 3) (he : im k = none) : ∃ M', sQ (al M (shL M.1)) 2 (z + 11) (nI k) (some M.1) = some M' ∧ CO z σ (upI3 im k (M.1, sg0)) M' ∧ Cl z M M' := by
  have h' := h
  obtain ⟨h0, h1, h2, ⟨f, h3, h3'⟩, h4, h5, h6, ⟨nd, Ld, h7⟩, h8⟩ := h'
  have o1 : ∀ a, a < M.1 → (al M (shL M.1)).2.1 a = M.2.1 a := fun a ha => al_old M _ ha
  have n1 : (al M (shL M.1)).1 = M.1 + 10 := rfl
  have k1 : (al M (shL M.1)).2.2 = M.2.2 := rfl
  have s1 : ∀ i, i < 10 → (al M (shL M.1)).2.1 (M.1 + i) = (shL M.1)[i]? := fun i hi => al_at M hi
  generalize al M (shL M.1) = M1 at o1 n1 s1 k1
  have a1 : M1.2.1 (z + 11) = some (.inl (.object RX3, 3, .inr (.inr (.inr (.inr f))))) := (o1 _ (by omega)).trans h3
  have ckb : ck M1 2 M.1 = some () := by
    have := s1 0 (by decide)
    rw [Nat.add_zero] at this
    unfold ck
    rw [this]
    rfl
  have b1 : sQ M1 2 (z + 11) (nI k) (some M.1) = some (mst M1 (z + 11) (.inl (.object RX3, 3, .inr (.inr (.inr (.inr (va_up f k (some M.1)))))))) := by
    unfold sQ
    rw [a1]
    dsimp only
    rw [if_pos ⟨inr_nI hk (by decide), rfl, by simp [ckb]⟩, nI_clamp (by omega)]
  have g2 := Chg.mst M1 (z + 11) (.inl (.object RX3, 3, .inr (.inr (.inr (.inr (va_up f k (some M.1)))))))
  have n2 : (mst M1 (z + 11) (.inl (.object RX3, 3, .inr (.inr (.inr (.inr (va_up f k (some M.1)))))))).2.1 (z + 11) = some (.inl (.object RX3, 3, .inr (.inr (.inr (.inr (va_up f k (some M.1))))))) := mst_at _ _ _
  have m2 : (mst M1 (z + 11) (.inl (.object RX3, 3, .inr (.inr (.inr (.inr (va_up f k (some M.1)))))))).1 = M1.1 := rfl
  generalize mst M1 (z + 11) (.inl (.object RX3, 3, .inr (.inr (.inr (.inr (va_up f k (some M.1))))))) = M2 at b1 g2 n2 m2
  have at2 : ∀ a, a < M.1 → ¬ a = z + 11 → M2.2.1 a = M.2.1 a := fun a r1 r2 => (g2.2.2 a (by omega) (by omega)).trans (o1 a r1)
  have gA : Chg (z + 11) (z + 11) M M2 := ⟨by omega, g2.2.1.trans k1, fun a r1 r2 => at2 a r1 (by omega)⟩
  have hlnd : ∀ b v, z + 42 ≤ b → b < M.1 → M.2.1 b = some (lcell v) → M2.2.1 b = some (lcell v) := fun b v r1 r2 r3 => (at2 b r2 (by omega)).trans r3
  have hnew : CSh (z + 42) M.1 sg0 M2 := sheet_at _ (fun i hi => (g2.2.2 _ (by omega) (by omega)).trans (s1 i hi))
  refine ⟨M2, b1, ⟨by omega, (at2 _ (by omega) (by omega)).trans h1, h2.fr h8.1 gA (by omega) (by omega) hlnd, ⟨_, n2, fun j hj => ?_⟩, fun j s2 τ2 hj hj2 => ?_, fun j j' s1 s2 τ1 τ2 hj hj' hne r1 r2 => ?_, h6.fr gA (by omega) (by omega), ⟨nd, Ld, h7.fr gA (by omega) (by omega)⟩, h8⟩, ⟨by omega, gA.2.1, fun a r1 r2 => at2 a (by omega) (by omega)⟩⟩
  · unfold upI3
    by_cases hjk : j = k
    · rw [if_pos hjk, hjk]
      exact if_pos rfl
    · rw [if_neg hjk, ← h3' j hj]
      exact if_neg hjk
  · unfold upI3 at hj2
    by_cases hjk : j = k
    · rw [if_pos hjk] at hj2
      cases hj2
      exact ⟨sg0_ok, h0, by omega, hnew⟩
    · rw [if_neg hjk] at hj2
      obtain ⟨u1, u2, u3, u4⟩ := h4 j s2 τ2 hj hj2
      exact ⟨u1, u2, by omega, u4.fr u1.1 gA (by omega) (by omega) hlnd⟩
  · unfold upI3 at r1 r2
    by_cases hjk : j = k
    · rw [if_pos hjk] at r1
      rw [if_neg (fun q => hne (hjk.trans q.symm))] at r2
      cases r1
      obtain ⟨-, -, u3, -⟩ := h4 j' s2 τ2 hj' r2
      exact Or.inr u3
    · rw [if_neg hjk] at r1
      by_cases hjk' : j' = k
      · rw [if_pos hjk'] at r2
        cases r2
        obtain ⟨-, -, u3, -⟩ := h4 j s1 τ1 hj r1
        exact Or.inl u3
      · rw [if_neg hjk'] at r2
        exact h5 j j' s1 s2 τ1 τ2 hj hj' hne r1 r2
theorem Cl.trans {M1 M2 : Mem} (h : Cl z M M1) (g : Cl z M1 M2) : Cl z M M2 := ⟨Nat.le_trans h.1 g.1, g.2.1.trans h.2.1, fun a h1 h2 => (g.2.2 a h1 h2).trans (h.2.2 a h1 h2)⟩
theorem upI3_upI3 (k : Nat) (v w : Nat × Sg) : upI3 (upI3 im k v) k w = upI3 im k w := by
  funext j
  unfold upI3
  by_cases h : j = k
  · rw [if_pos h, if_pos h]
  · rw [if_neg h, if_neg h, if_neg h]
theorem rm_sZ23 {m : Nat} {A : Nat → Nat → Int32} {B : Nat → Nat → Int64} {N : Mem} {i : Nat} (hi : i < 3) (x : Int32) (R : RM m A B N M) : ∃ M', sZ M (m + 23) (nI i) x = some M' ∧ RM m (upA A 23 (upd (A 23) i (vp_nar .boolean x))) B N M' := by
  obtain ⟨I, A', fd, rfl, hC⟩ := R
  have hj' := hC 23 (by decide)
  refine ⟨mm m I (upA A' 23 (upd (A' 23) i (vp_nar .boolean x))) B fd N, ?_, I, _, fd, rfl, ?_⟩
  · rw [← mm_setA (by decide) (by decide)]
    unfold sZ
    rw [mm_arr (by decide) (by decide)]
    have h1 : mcell A' B 23 = .inl (.boolean, 3, .inl (A' 23)) := rfl
    rw [h1]
    dsimp only
    rw [if_pos (inr_nI hi (by decide)), nI_clamp (by omega)]
    rfl
  · intro k hk
    by_cases hkj : k = 23
    · simp only [upA, if_pos hkj, hj']
    · simp only [upA, if_neg hkj]
      exact hC k hk
theorem rm_aZ23 {m : Nat} {A : Nat → Nat → Int32} {B : Nat → Nat → Int64} {N : Mem} {i : Nat} (hi : i < 3) (R : RM m A B N M) : aZ M (m + 23) (nI i) = some (A 23 i) := by
  obtain ⟨I, A', fd, rfl, hC⟩ := R
  unfold aZ
  rw [mm_arr (by decide) (by decide)]
  have h1 : mcell A' B 23 = .inl (.boolean, 3, .inl (A' 23)) := rfl
  rw [h1]
  dsimp only
  rw [if_pos (inr_nI hi (by decide)), nI_clamp (by omega), hC 23 (by decide)]
theorem step_image (h : INV z kc σ im M) (x : Int32) : Step z kc (fX7_image z x) (fX8_image (z + 18) x) M := by
  have hc := h.2.1
  have hok := co_ok hc
  by_cases hx : ¬ x < 0 ∧ ¬ 2 < x
  · obtain ⟨-, k, k1, k2⟩ := kind3 hx
    have main : ∃ s M1, fX7_image z x M = some (1, M1) ∧ CO z σ (upI3 im k (s, σ)) M1 ∧ Cl z M M1 := by
      cases he : im k with
      | some v =>
        obtain ⟨s, τ⟩ := v
        obtain ⟨M1, q1, q2, q3⟩ := co_img33 hc k1 he
        refine ⟨s, M1, ?_, q2, q3⟩
        unfold fX7_image
        rw [if_neg hx.1, k2, if_pos (li_lt 3 k 3 rfl k1 (by decide)), co_g1 hc, Option.bind_some, co_aQ hc k1, he, Option.bind_some]
        exact q1
      | none =>
        obtain ⟨M1, q1, q2, q3⟩ := co_newImg hc k1 he
        obtain ⟨M2, r1, r2, r3⟩ := co_img33 q2 k1 (if_pos rfl)
        rw [upI3_upI3] at r2
        refine ⟨M.1, M2, ?_, r2, q3.trans r3⟩
        unfold fX7_image
        rw [if_neg hx.1, k2, if_pos (li_lt 3 k 3 rfl k1 (by decide)), co_g1 hc, Option.bind_some, co_aQ hc k1, he, Option.bind_some]
        simp only [Option.map_none, Option.elim, Option.bind_some]
        rw [new_sheet, Option.bind_some, q1, Option.bind_some, r1]
    obtain ⟨s, M1, c, hc', g⟩ := main
    refine step_of h c g hc' (fun A B hR hO => ?_)
    obtain ⟨M2, e1, R1⟩ := rm_code hR 0
    obtain ⟨M3, e2, R2⟩ := p_copy (a := 0) (b := k + 1) (by decide) (by omega) (by omega) R1
    obtain ⟨M4, e3, R3⟩ := rm_sZ23 (i := k) k1 1 R2
    refine ⟨_, _, M4, ?_, R3, ?_⟩
    · unfold fX8_image
      have e2' : fX8_copy (z + 18) 0 (nI k + 1) M2 = some M3 := by rw [nI_1]; exact e2
      rw [e1, Option.bind_some, e_in, Option.bind_some]
      dsimp only
      rw [if_pos hx, if_neg (by decide), rm_ck R1, Option.bind_some, k2, e2', Option.bind_some, rm_gN28 R2, Option.bind_some, e3, Option.bind_some, nz1]
      rfl
    · have hsl : ∀ (j : Nat) (τ : Sg), Sl (cpA A 0 (k + 1)) (cpB B 0 (k + 1)) j τ → Sl (upA (cpA A 0 (k + 1)) 23 (upd (cpA A 0 (k + 1) 23) k (vp_nar .boolean 1))) (cpB B 0 (k + 1)) j τ := fun j τ hs => hs
      refine ⟨hsl _ _ (sl_ne hO.1 hok (by omega)), fun j hj => ⟨?_, fun s2 τ2 hj2 => hsl _ _ ?_⟩⟩
      · show upd (A 23) k (vp_nar .boolean 1) j = bI (upI3 im k (s, σ) j).isSome
        unfold upI3
        by_cases hjk : j = k
        · rw [hjk, pk_us, if_pos rfl]; exact (by decide : vp_nar .boolean 1 = bI true)
        · rw [pk_un hjk, if_neg hjk]; exact (hO.2 j hj).1
      · unfold upI3 at hj2
        by_cases hjk : j = k
        · rw [if_pos hjk] at hj2
          cases hj2
          rw [hjk]
          exact sl_to hO.1 hok
        · rw [if_neg hjk] at hj2
          have := (hc.2.2.2.2.1 j s2 τ2 hj hj2).1
          exact sl_ne ((hO.2 j hj).2 s2 τ2 hj2) this (by omega)
  · have c : fX7_image z x M = some (0, M) := by
      unfold fX7_image fX7_image_9
      rw [nz0]
      by_cases x1 : x < 0
      · rw [if_pos x1]; rfl
      · obtain ⟨k, hk, rfl⟩ := nI_of x1
        rw [if_neg x1, if_neg (li_nlt 3 k 3 rfl (by
          rcases Nat.lt_or_ge k 3 with q | q
          · exact absurd ⟨x1, li_ngt 2 k 2 rfl (by omega) (by decide)⟩ hx
          · exact q) hk)]
        rfl
    refine step_of h c (Cl.of (Chg.rf 0 0 M) hc.1 (by omega)) hc (fun A B hR hO => ?_)
    obtain ⟨M2, e1, R1⟩ := rm_code hR 0
    refine ⟨A, B, M2, ?_, R1, hO⟩
    unfold fX8_image
    rw [e1, Option.bind_some, e_in, Option.bind_some]
    dsimp only
    rw [if_neg hx, if_pos rfl, nz0]
    rfl
theorem step_again (h : INV z kc σ im M) (x : Int32) : Step z kc (fX7_again z x) (fX8_again (z + 18) x) M := by
  have hc := h.2.1
  have hok := co_ok hc
  have hsh := co_sh hc
  have hm := hc.1
  by_cases hx : ¬ x < 0 ∧ ¬ 2 < x
  · obtain ⟨-, k, k1, k2⟩ := kind3 hx
    have start : ∀ M1, fX7_again z x M1 = fX7_again z (nI k) M1 := fun M1 => by rw [k2]
    cases he : im k with
    | none =>
      have c : fX7_again z x M = some (0, M) := by
        unfold fX7_again fX7_again_18
        rw [if_neg hx.1, k2, if_neg (li_nge 3 k 3 rfl k1 (by decide)), co_g1 hc, Option.bind_some, co_aQ hc k1, he, Option.bind_some, nz0]
        rfl
      refine step_of h c (Cl.of (Chg.rf 0 0 M) hc.1 (by omega)) hc (fun A B hR hO => ?_)
      obtain ⟨M2, e1, R1⟩ := rm_code hR 0
      refine ⟨A, B, M2, ?_, R1, hO⟩
      have e23 := (hO.2 k k1).1
      rw [he] at e23
      unfold fX8_again fX8_again_23
      rw [e1, Option.bind_some, e_in, Option.bind_some]
      dsimp only
      rw [if_pos hx, if_neg (by decide), rm_gN28 R1, Option.bind_some, k2, rm_aZ23 k1 R1, Option.bind_some, e23, if_pos (by decide), nz0]
      rfl
    | some v =>
      obtain ⟨s, τ⟩ := v
      obtain ⟨t1, t2, t3, t4⟩ := hc.2.2.2.2.1 k s τ k1 he
      obtain ⟨M1, q1, q2, q3⟩ := cs_copy hsh t4 t1 (by omega) (by omega)
      have c : fX7_again z x M = some (1, M1) := by
        unfold fX7_again
        rw [if_neg hx.1, k2, if_neg (li_nge 3 k 3 rfl k1 (by decide)), co_g1 hc, Option.bind_some, co_aQ hc k1, he, Option.bind_some]
        simp only [Option.map_some, Option.elim]
        rw [co_g0 hc, Option.bind_some, Option.bind_some, co_aQ hc k1, he, Option.bind_some]
        show ((some s).bind fun a7 => _) = _
        rw [Option.bind_some, cs_ck hsh, Option.bind_some, q1, Option.bind_some, nz1]
        rfl
      have hc' := co_now hc (q3.wide (by omega) (by omega)) q2 t1
      refine step_of h c (Cl.of q3 hc.1 (by omega)) hc' (fun A B hR hO => ?_)
      obtain ⟨M2, e1, R1⟩ := rm_code hR 0
      obtain ⟨M3, e2, R2⟩ := p_copy (a := k + 1) (b := 0) (by omega) (by decide) (by omega) R1
      have e23 := (hO.2 k k1).1
      rw [he] at e23
      refine ⟨_, _, M3, ?_, R2, ?_⟩
      · unfold fX8_again
        have e2' : fX8_copy (z + 18) (nI k + 1) 0 M2 = some M3 := by rw [nI_1]; exact e2
        rw [e1, Option.bind_some, e_in, Option.bind_some]
        dsimp only
        rw [if_pos hx, if_neg (by decide), rm_gN28 R1, Option.bind_some, k2, rm_aZ23 k1 R1, Option.bind_some, e23, if_neg (show ¬ bI (some (s, τ)).isSome = 0 from (by decide : ¬ bI true = 0)), rm_ck R1, Option.bind_some, e2', Option.bind_some, nz1]
        rfl
      · refine ⟨sl_to ((hO.2 k k1).2 s τ he) t1, fun j hj => ⟨(hO.2 j hj).1, fun s2 τ2 hj2 => ?_⟩⟩
        have := (hc.2.2.2.2.1 j s2 τ2 hj hj2).1
        exact sl_ne ((hO.2 j hj).2 s2 τ2 hj2) this (by omega)
  · have c : fX7_again z x M = some (0, M) := by
      unfold fX7_again fX7_again_18
      rw [nz0]
      by_cases x1 : x < 0
      · rw [if_pos x1]; rfl
      · obtain ⟨k, hk, rfl⟩ := nI_of x1
        rw [if_neg x1, if_pos (li_ge 3 k 3 rfl (by
          rcases Nat.lt_or_ge k 3 with q | q
          · exact absurd ⟨x1, li_ngt 2 k 2 rfl (by omega) (by decide)⟩ hx
          · exact q) hk)]
        rfl
    refine step_of h c (Cl.of (Chg.rf 0 0 M) hc.1 (by omega)) hc (fun A B hR hO => ?_)
    obtain ⟨M2, e1, R1⟩ := rm_code hR 0
    refine ⟨A, B, M2, ?_, R1, hO⟩
    unfold fX8_again fX8_again_23
    rw [e1, Option.bind_some, e_in, Option.bind_some]
    dsimp only
    rw [if_neg hx, if_pos rfl, nz0]
    rfl
end CIMAGE
