/-! ===== the class: a sheet copied into another ===== -/
section CCOPY
variable {hb s s' : Nat} {σ σ' : Sg} {M : Mem}
def refs (f : Nat → Option Nat) : ME := .inl (.object RX1, 6, .inr (.inr (.inr (.inr f))))
theorem c_lands {nl nr nl' nr' : Nat} {f' : Nat → Option Nat} (hd : s + 9 < s' ∨ s' + 9 < s) : ∀ (d i fu : Nat) (g : Nat → Option Nat) (M : Mem), i + d = 6 → d < fu → M.2.1 s = some (shc s nl nr) → M.2.1 s' = some (shc s' nl' nr') → M.2.1 (s + 5) = some (refs g) → M.2.1 (s' + 5) = some (refs f') → (∀ l, l < 6 → ∀ b, f' l = some b → ∃ v, M.2.1 b = some (lcell v)) → ∃ g', (∀ l, i ≤ l → l < 6 → g' l = f' l) ∧ (∀ l, l < i → g' l = g l) ∧ fX3_copyFrom_32 fu s s' (nI i) M = fX3_copyFrom_32 (fu - d) s s' (nI 6) (mst M (s + 5) (refs g')) := by
  intro d
  induction d with
  | zero =>
    intro i fu g M hi hf h0 h1 h2 h3 hl
    refine ⟨g, fun l q1 q2 => by omega, fun _ _ => rfl, ?_⟩
    rw [mst_same h2, Nat.sub_zero, show i = 6 by omega]
  | succ d ih =>
    intro i fu g M hi hf h0 h1 h2 h3 hl
    obtain ⟨fu, rfl⟩ : ∃ k, fu = k + 1 := ⟨fu - 1, by omega⟩
    have a1 : aQ M (s' + 5) (nI i) = some (f' i) := by
      unfold aQ
      rw [h3]
      dsimp only [refs]
      rw [if_pos (inr_nI (by omega) (by decide)), nI_clamp (by omega)]
    have a2 : sQ M 0 (s + 5) (nI i) (f' i) = some (mst M (s + 5) (refs (va_up g i (f' i)))) := by
      have hcond : ((f' i).bind (fun b => ck M 0 b)).isSome = (f' i).isSome := by
        cases hfi : f' i with
        | none => rfl
        | some b =>
          obtain ⟨v, hv⟩ := hl i (by omega) b hfi
          simp [ck, hv, lcell]
      unfold sQ
      rw [h2]
      dsimp only [refs]
      rw [if_pos ⟨inr_nI (by omega) (by decide), rfl, hcond⟩, nI_clamp (by omega)]
    have gs : gN M 2 s 2 = some (s + 5) := by simp [gN, gF, h0, shc, vN]
    have gs' : gN M 2 s' 2 = some (s' + 5) := by simp [gN, gF, h1, shc, vN]
    have hne : ∀ b, (∃ v, M.2.1 b = some (lcell v)) → ¬ b = s + 5 := by
      rintro b ⟨v, hv⟩ rfl
      rw [h2] at hv
      cases hv
    obtain ⟨g', q1, q2, q3⟩ := ih (i + 1) fu (va_up g i (f' i)) (mst M (s + 5) (refs (va_up g i (f' i)))) (by omega) (by omega) ((mst_ne _ _ (by omega)).trans h0) ((mst_ne _ _ (by omega)).trans h1) (mst_at _ _ _) ((mst_ne _ _ (by omega)).trans h3) (fun l hl2 b hb2 => by
      obtain ⟨v, hv⟩ := hl l hl2 b hb2
      exact ⟨v, (mst_ne _ _ (hne b ⟨v, hv⟩)).trans hv⟩)
    refine ⟨g', fun l r1 r2 => ?_, fun l r1 => ?_, ?_⟩
    · by_cases he : l = i
      · rw [he, q2 i (by omega)]
        exact if_pos rfl
      · exact q1 l (by omega) r2
    · rw [q2 l (by omega)]
      exact if_neg (by omega)
    · rw [fX3_copyFrom_32, if_neg (li_nge 6 i 6 rfl (by omega) (by decide)), gs, Option.bind_some, gs', Option.bind_some, a1, Option.bind_some, a2, Option.bind_some, nI_1, q3, mst_mst, show fu + 1 - (d + 1) = fu - d by omega]
theorem cpI_all {M : Mem} {a a' n : Nat} {f g : Nat → Int32} (h : M.2.1 a = some (.inl (.int, n, .inl f))) (h' : M.2.1 a' = some (.inl (.int, n, .inl g))) (hn : n < 2 ^ 30) : cpI M a' 0 a 0 (nI n) = some (mst M a (.inl (.int, n, .inl (va_cpy g f 0 0 n)))) := by
  have h1 : (nI n).toNatClampNeg = n := nI_clamp (by omega)
  unfold cpI
  rw [h', h]
  dsimp only
  rw [if_pos ⟨⟨by decide, by decide, nI_pos (by omega)⟩, by rw [h1]; show 0 + n ≤ n; omega, by rw [h1]; show 0 + n ≤ n; omega⟩, h1]
  rfl
theorem cpL_all {M : Mem} {a a' n : Nat} {f g : Nat → Int64} (h : M.2.1 a = some (.inl (.long, n, .inr (.inl f)))) (h' : M.2.1 a' = some (.inl (.long, n, .inr (.inl g)))) (hn : n < 2 ^ 30) : cpL M a' 0 a 0 (nI n) = some (mst M a (.inl (.long, n, .inr (.inl (va_cpy g f 0 0 n))))) := by
  have h1 : (nI n).toNatClampNeg = n := nI_clamp (by omega)
  unfold cpL
  rw [h', h]
  dsimp only
  rw [if_pos ⟨⟨by decide, by decide, nI_pos (by omega)⟩, by rw [h1]; show 0 + n ≤ n; omega, by rw [h1]; show 0 + n ≤ n; omega⟩, h1]
  rfl
theorem cpy_all {α : Type} {f g : Nat → α} {n k : Nat} (hk : k < n) : va_cpy f g 0 0 n k = f k := by
  rw [pk_cpy_in (by omega) (by omega), show 0 + (k - 0) = k by omega]
theorem cs_copy (h : CSh hb s σ M) (h' : CSh hb s' σ' M) (hok' : SgOk σ') (hd : s + 9 < s' ∨ s' + 9 < s) (hm : s + 9 < M.1 ∧ s' + 9 < M.1) : ∃ M', fX3_copyFrom s s' M = some M' ∧ CSh hb s σ' M' ∧ Chg s (s + 9) M M' := by
  have hA := h
  have hA' := h'
  obtain ⟨k0, k1, k2, k3, k4, k5, k6, k7⟩ := h
  obtain ⟨j0, j1, j2, j3, j4, j5, j6, j7⟩ := h'
  have nol : ∀ b v, M.2.1 b = some (lcell v) → b < s ∨ s + 9 < b := fun b v hv => hA.noland hv
  have gS : ∀ {M' : Mem} {x a b : Nat}, M'.2.1 x = some (shc x a b) → gN M' 2 x 0 = some (x + 1) ∧ gN M' 2 x 1 = some (x + 3) ∧ gN M' 2 x 4 = some (x + 6) ∧ gN M' 2 x 5 = some (x + 7) ∧ gN M' 2 x 7 = some (x + 8) ∧ gN M' 2 x 8 = some (x + 9) ∧ gI M' 2 x 3 = some (nI a) ∧ gI M' 2 x 6 = some (nI b) := by
    intro M' x a b e
    simp [gN, gI, gF, e, shc, vN, vI]
  -- the line
  obtain ⟨M1, b1, t1, g1⟩ := tx_copy k1 j1 (by omega) (by decide) (by decide) hok'.2.2.1
  have m1 := g1.1
  have at1 : ∀ a, a < M.1 → (a < s + 1 ∨ s + 1 + 1 < a) → M1.2.1 a = M.2.1 a := g1.2.2
  have k01 : M1.2.1 s = some (shc s (nlS σ) (nrS σ)) := (at1 _ (by omega) (by omega)).trans k0
  have j01 : M1.2.1 s' = some (shc s' (nlS σ') (nrS σ')) := (at1 _ (by omega) (by omega)).trans j0
  have k21 := k2.fr g1 (by omega) (by omega)
  have j21 := j2.fr g1 (by omega) (by omega)
  -- what is shown
  obtain ⟨M2, b2, t2, g2⟩ := tx_copy k21 j21 (by omega) (by decide) (by decide) hok'.2.2.2.2.1
  have m2 := g2.1
  have at2 : ∀ a, a < M1.1 → (a < s + 3 ∨ s + 3 + 1 < a) → M2.2.1 a = M1.2.1 a := g2.2.2
  have k02 : M2.2.1 s = some (shc s (nlS σ) (nrS σ)) := (at2 _ (by omega) (by omega)).trans k01
  have j02 : M2.2.1 s' = some (shc s' (nlS σ') (nrS σ')) := (at2 _ (by omega) (by omega)).trans j01
  have ba2 : ∀ a, a < M.1 → (a < s + 1 ∨ s + 4 < a) → M2.2.1 a = M.2.1 a := fun a h1 h2 => (at2 a (by omega) (by omega)).trans (at1 a h1 (by omega))
  -- the number of lands
  have b3 := pF_sh3 (j := nlS σ') k02
  have g3 := Chg.mst M2 s (shc s (nlS σ') (nrS σ))
  have k03 : (mst M2 s (shc s (nlS σ') (nrS σ))).2.1 s = some (shc s (nlS σ') (nrS σ)) := mst_at _ _ _
  have n3 : (mst M2 s (shc s (nlS σ') (nrS σ))).1 = M2.1 := rfl
  generalize mst M2 s (shc s (nlS σ') (nrS σ)) = M3 at b3 g3 k03 n3
  have at3 : ∀ a, a < M2.1 → (a < s ∨ s < a) → M3.2.1 a = M2.2.1 a := g3.2.2
  have j03 : M3.2.1 s' = some (shc s' (nlS σ') (nrS σ')) := (at3 _ (by omega) (by omega)).trans j02
  have ba3 : ∀ a, a < M.1 → (a < s ∨ s + 4 < a) → M3.2.1 a = M.2.1 a := fun a h1 h2 => (at3 a (by omega) (by omega)).trans (ba2 a h1 (by omega))
  -- the lands
  obtain ⟨fk, fk1, -, -⟩ := k3
  obtain ⟨fj, fj1, fj2, fj3⟩ := j3
  obtain ⟨g', q1, -, q3⟩ := c_lands (nl := nlS σ') (nr := nrS σ) (nl' := nlS σ') (nr' := nrS σ') (f' := fj) hd 6 0 FU fk M3 (by omega) (by unfold FU; omega) k03 j03 ((ba3 _ (by omega) (by omega)).trans fk1) ((ba3 _ (by omega) (by omega)).trans fj1) (fun l hl b hb2 => by
    obtain ⟨r1, r2, v, r3⟩ := fj3 l hl b hb2
    have := nol b v r3
    exact ⟨v, (ba3 b r2 (by omega)).trans r3⟩)
  have g4 := Chg.mst M3 (s + 5) (refs g')
  have n45 : (mst M3 (s + 5) (refs g')).2.1 (s + 5) = some (refs g') := mst_at _ _ _
  have n4 : (mst M3 (s + 5) (refs g')).1 = M3.1 := rfl
  generalize mst M3 (s + 5) (refs g') = M4 at q3 g4 n45 n4
  have at4 : ∀ a, a < M3.1 → (a < s + 5 ∨ s + 5 < a) → M4.2.1 a = M3.2.1 a := g4.2.2
  have k04 : M4.2.1 s = some (shc s (nlS σ') (nrS σ)) := (at4 _ (by omega) (by omega)).trans k03
  have j04 : M4.2.1 s' = some (shc s' (nlS σ') (nrS σ')) := (at4 _ (by omega) (by omega)).trans j03
  have ba4 : ∀ a, a < M.1 → (a < s ∨ s + 5 < a) → M4.2.1 a = M.2.1 a := fun a h1 h2 => (at4 a (by omega) (by omega)).trans (ba3 a h1 (by omega))
  -- the number of rows
  have b5 := pF_sh6 (j := nrS σ') k04
  have g5 := Chg.mst M4 s (shc s (nlS σ') (nrS σ'))
  have k05 : (mst M4 s (shc s (nlS σ') (nrS σ'))).2.1 s = some (shc s (nlS σ') (nrS σ')) := mst_at _ _ _
  have n5 : (mst M4 s (shc s (nlS σ') (nrS σ'))).1 = M4.1 := rfl
  generalize mst M4 s (shc s (nlS σ') (nrS σ')) = M5 at b5 g5 k05 n5
  have at5 : ∀ a, a < M4.1 → (a < s ∨ s < a) → M5.2.1 a = M4.2.1 a := g5.2.2
  have j05 : M5.2.1 s' = some (shc s' (nlS σ') (nrS σ')) := (at5 _ (by omega) (by omega)).trans j04
  have ba5 : ∀ a, a < M.1 → (a < s ∨ s + 5 < a) → M5.2.1 a = M.2.1 a := fun a h1 h2 => (at5 a (by omega) (by omega)).trans (ba4 a h1 (by omega))
  -- the lengths of the rows
  obtain ⟨rk, rk1, -⟩ := k5
  obtain ⟨rj, rj1, rj2⟩ := j5
  have b6 := cpI_all ((ba5 _ (by omega) (by omega)).trans rk1) ((ba5 _ (by omega) (by omega)).trans rj1) (by decide)
  have g6 := Chg.mst M5 (s + 7) (.inl (.int, 30, .inl (va_cpy rj rk 0 0 30)))
  have n67 : (mst M5 (s + 7) (.inl (.int, 30, .inl (va_cpy rj rk 0 0 30)))).2.1 (s + 7) = some (.inl (.int, 30, .inl (va_cpy rj rk 0 0 30))) := mst_at _ _ _
  have n6 : (mst M5 (s + 7) (.inl (.int, 30, .inl (va_cpy rj rk 0 0 30)))).1 = M5.1 := rfl
  generalize mst M5 (s + 7) (.inl (.int, 30, .inl (va_cpy rj rk 0 0 30))) = M6 at b6 g6 n67 n6
  have at6 : ∀ a, a < M5.1 → (a < s + 7 ∨ s + 7 < a) → M6.2.1 a = M5.2.1 a := g6.2.2
  have k06 : M6.2.1 s = some (shc s (nlS σ') (nrS σ')) := (at6 _ (by omega) (by omega)).trans k05
  have j06 : M6.2.1 s' = some (shc s' (nlS σ') (nrS σ')) := (at6 _ (by omega) (by omega)).trans j05
  have ba6 : ∀ a, a < M.1 → (a < s ∨ s + 5 < a) → ¬ a = s + 7 → M6.2.1 a = M.2.1 a := fun a h1 h2 h3 => (at6 a (by omega) (by omega)).trans (ba5 a h1 (by omega))
  -- the rows' bytes
  obtain ⟨yk, yk1, -⟩ := k4
  obtain ⟨yj, yj1, yj2⟩ := j4
  have b7 := cpI_all ((ba6 _ (by omega) (by omega) (by omega)).trans yk1) ((ba6 _ (by omega) (by omega) (by omega)).trans yj1) (by decide)
  have aN6 : aN M6 (s + 6) = some (nI 1800) := by
    unfold aN
    rw [ba6 _ (by omega) (by omega) (by omega), yk1]
    rfl
  have g7 := Chg.mst M6 (s + 6) (.inl (.int, 1800, .inl (va_cpy yj yk 0 0 1800)))
  have n76 : (mst M6 (s + 6) (.inl (.int, 1800, .inl (va_cpy yj yk 0 0 1800)))).2.1 (s + 6) = some (.inl (.int, 1800, .inl (va_cpy yj yk 0 0 1800))) := mst_at _ _ _
  have n7 : (mst M6 (s + 6) (.inl (.int, 1800, .inl (va_cpy yj yk 0 0 1800)))).1 = M6.1 := rfl
  generalize mst M6 (s + 6) (.inl (.int, 1800, .inl (va_cpy yj yk 0 0 1800))) = M7 at b7 g7 n76 n7
  have at7 : ∀ a, a < M6.1 → (a < s + 6 ∨ s + 6 < a) → M7.2.1 a = M6.2.1 a := g7.2.2
  have k07 : M7.2.1 s = some (shc s (nlS σ') (nrS σ')) := (at7 _ (by omega) (by omega)).trans k06
  have j07 : M7.2.1 s' = some (shc s' (nlS σ') (nrS σ')) := (at7 _ (by omega) (by omega)).trans j06
  have ba7 : ∀ a, a < M.1 → (a < s ∨ s + 7 < a) → M7.2.1 a = M.2.1 a := fun a h1 h2 => (at7 a (by omega) (by omega)).trans (ba6 a h1 (by omega) (by omega))
  -- the bounds
  obtain ⟨lk, lk1, -⟩ := k6
  obtain ⟨lj, lj1, lj2⟩ := j6
  have b8 := cpL_all ((ba7 _ (by omega) (by omega)).trans lk1) ((ba7 _ (by omega) (by omega)).trans lj1) (by decide)
  have g8 := Chg.mst M7 (s + 8) (.inl (.long, 3, .inr (.inl (va_cpy lj lk 0 0 3))))
  have n88 : (mst M7 (s + 8) (.inl (.long, 3, .inr (.inl (va_cpy lj lk 0 0 3))))).2.1 (s + 8) = some (.inl (.long, 3, .inr (.inl (va_cpy lj lk 0 0 3)))) := mst_at _ _ _
  have n8 : (mst M7 (s + 8) (.inl (.long, 3, .inr (.inl (va_cpy lj lk 0 0 3))))).1 = M7.1 := rfl
  generalize mst M7 (s + 8) (.inl (.long, 3, .inr (.inl (va_cpy lj lk 0 0 3)))) = M8 at b8 g8 n88 n8
  have at8 : ∀ a, a < M7.1 → (a < s + 8 ∨ s + 8 < a) → M8.2.1 a = M7.2.1 a := g8.2.2
  have k08 : M8.2.1 s = some (shc s (nlS σ') (nrS σ')) := (at8 _ (by omega) (by omega)).trans k07
  have j08 : M8.2.1 s' = some (shc s' (nlS σ') (nrS σ')) := (at8 _ (by omega) (by omega)).trans j07
  have ba8 : ∀ a, a < M.1 → (a < s ∨ s + 8 < a) → M8.2.1 a = M.2.1 a := fun a h1 h2 => (at8 a (by omega) (by omega)).trans (ba7 a h1 (by omega))
  obtain ⟨uk, uk1, -⟩ := k7
  obtain ⟨uj, uj1, uj2⟩ := j7
  have b9 := cpL_all ((ba8 _ (by omega) (by omega)).trans uk1) ((ba8 _ (by omega) (by omega)).trans uj1) (by decide)
  have g9 := Chg.mst M8 (s + 9) (.inl (.long, 3, .inr (.inl (va_cpy uj uk 0 0 3))))
  have n99 : (mst M8 (s + 9) (.inl (.long, 3, .inr (.inl (va_cpy uj uk 0 0 3))))).2.1 (s + 9) = some (.inl (.long, 3, .inr (.inl (va_cpy uj uk 0 0 3)))) := mst_at _ _ _
  have n9 : (mst M8 (s + 9) (.inl (.long, 3, .inr (.inl (va_cpy uj uk 0 0 3))))).1 = M8.1 := rfl
  generalize mst M8 (s + 9) (.inl (.long, 3, .inr (.inl (va_cpy uj uk 0 0 3)))) = M9 at b9 g9 n99 n9
  have at9 : ∀ a, a < M8.1 → (a < s + 9 ∨ s + 9 < a) → M9.2.1 a = M8.2.1 a := g9.2.2
  have gA : Chg s (s + 9) M M9 := (((((((((g1.wide (by omega) (by omega)).trans (g2.wide (by omega) (by omega))).trans (g3.wide (by omega) (by omega))).trans (g4.wide (by omega) (by omega))).trans (g5.wide (by omega) (by omega))).trans (g6.wide (by omega) (by omega))).trans (g7.wide (by omega) (by omega))).trans (g8.wide (by omega) (by omega))).trans (g9.wide (by omega) (by omega)))
  have up : ∀ a, a < M2.1 → ¬ a = s → (a < s + 5 ∨ s + 9 < a) → M9.2.1 a = M2.2.1 a := fun a h1 h2 h3 => (at9 a (by omega) (by omega)).trans ((at8 a (by omega) (by omega)).trans ((at7 a (by omega) (by omega)).trans ((at6 a (by omega) (by omega)).trans ((at5 a (by omega) (by omega)).trans ((at4 a (by omega) (by omega)).trans (at3 a h1 (by omega)))))))
  have x0 : M9.2.1 s = some (shc s (nlS σ') (nrS σ')) := (at9 _ (by omega) (by omega)).trans k08
  have x5 : M9.2.1 (s + 5) = some (refs g') := (at9 _ (by omega) (by omega)).trans ((at8 _ (by omega) (by omega)).trans ((at7 _ (by omega) (by omega)).trans ((at6 _ (by omega) (by omega)).trans ((at5 _ (by omega) (by omega)).trans n45))))
  have x7 : M9.2.1 (s + 7) = some (.inl (.int, 30, .inl (va_cpy rj rk 0 0 30))) := (at9 _ (by omega) (by omega)).trans ((at8 _ (by omega) (by omega)).trans ((at7 _ (by omega) (by omega)).trans n67))
  have x6 : M9.2.1 (s + 6) = some (.inl (.int, 1800, .inl (va_cpy yj yk 0 0 1800))) := (at9 _ (by omega) (by omega)).trans ((at8 _ (by omega) (by omega)).trans n76)
  have x8 : M9.2.1 (s + 8) = some (.inl (.long, 3, .inr (.inl (va_cpy lj lk 0 0 3)))) := (at9 _ (by omega) (by omega)).trans n88
  have txu : ∀ {t cap n : Nat} {L : Nat → Int32}, TX t cap n L M2 → t + 1 < M2.1 → s < t → t + 1 < s + 5 → TX t cap n L M9 := by
    rintro t cap n L ⟨r0, r1, ff, r2, r3⟩ h1 h2 h3
    exact ⟨r0, (up _ (by omega) (by omega) (by omega)).trans r1, ff, (up _ h1 (by omega) (by omega)).trans r2, r3⟩
  have t12 : TX (s + 1) 60 (lnS σ') (lbS σ') M2 := t1.fr g2 (by omega) (by omega)
  refine ⟨M9, ?_, ⟨x0, txu t12 (by omega) (by omega) (by omega), txu t2 (by omega) (by omega) (by omega), ⟨g', x5, fun l hl => ?_, fun l hl b hb2 => ?_⟩, ⟨_, x6, fun r hr k hk => ?_⟩, ⟨_, x7, fun r hr => ?_⟩, ⟨_, x8, fun k hk => ?_⟩, ⟨_, n99, fun k hk => ?_⟩⟩, gA⟩
  · unfold fX3_copyFrom
    rw [(gS k0).1, Option.bind_some, (gS j0).1, Option.bind_some, tx_ck k1, Option.bind_some, b1, Option.bind_some, (gS k01).2.1, Option.bind_some, (gS j01).2.1, Option.bind_some, tx_ck k21, Option.bind_some, b2, Option.bind_some, (gS j02).2.2.2.2.2.2.1, Option.bind_some, b3, Option.bind_some]
    have q3' : fX3_copyFrom_32 FU s s' 0 M3 = fX3_copyFrom_32 (99993 + 1) s s' (nI 6) M4 := q3
    have b6' : cpI M5 (s' + 7) 0 (s + 7) 0 30 = some M6 := b6
    have b8' : cpL M7 (s' + 8) 0 (s + 8) 0 3 = some M8 := b8
    have b9' : cpL M8 (s' + 9) 0 (s + 9) 0 3 = some M9 := b9
    rw [q3', fX3_copyFrom_32, if_pos (by decide), (gS j04).2.2.2.2.2.2.2, Option.bind_some, b5, Option.bind_some, (gS j05).2.2.2.1, Option.bind_some, (gS k05).2.2.2.1, Option.bind_some, b6', Option.bind_some, (gS j06).2.2.1, Option.bind_some, (gS k06).2.2.1, Option.bind_some, Option.bind_some, aN6, Option.bind_some, b7, Option.bind_some, (gS j07).2.2.2.2.1, Option.bind_some, (gS k07).2.2.2.2.1, Option.bind_some, b8', Option.bind_some, (gS j08).2.2.2.2.2.1, Option.bind_some, (gS k08).2.2.2.2.2.1, Option.bind_some, b9', Option.bind_some]
  · have hn6 := hok'.1
    obtain ⟨b, r1, r2⟩ := fj2 l hl
    obtain ⟨r3, r4, -⟩ := fj3 l (by omega) b r1
    have := nol b _ r2
    exact ⟨b, (q1 l (by omega) (by omega)).trans r1, (gA.2.2 b r4 (by omega)).trans r2⟩
  · rw [q1 l (by omega) hl] at hb2
    obtain ⟨r3, r4, v, r5⟩ := fj3 l hl b hb2
    have := nol b v r5
    exact ⟨r3, Nat.lt_of_lt_of_le r4 gA.1, v, (gA.2.2 b r4 (by omega)).trans r5⟩
  · have hnr := hok'.2.2.2.2.2.2.1
    have hrl := (hok'.2.2.2.2.2.2.2 r hr).1
    rw [cpy_all (by omega)]
    exact yj2 r hr k hk
  · have hnr := hok'.2.2.2.2.2.2.1
    rw [cpy_all (by omega)]
    exact rj2 r hr
  · rw [cpy_all hk]
    exact lj2 k hk
  · rw [cpy_all hk]
    exact uj2 k hk
end CCOPY
