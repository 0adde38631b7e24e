/-! ===== the calls, one by one: those that only read ===== -/
def Cl (z : Nat) (M M1 : Mem) : Prop := M.1 ≤ M1.1 ∧ M1.2.2 = M.2.2 ∧ ∀ a, z + 18 ≤ a → a ≤ z + 41 → M1.2.1 a = M.2.1 a
theorem Cl.of {z lo hi : Nat} {M M1 : Mem} (h : Chg lo hi M M1) (hm : z + 42 ≤ M.1) (hd : z + 41 < lo ∨ hi < z + 18) : Cl z M M1 := ⟨h.1, h.2.1, fun a h1 h2 => h.2.2 a (by omega) (by omega)⟩
theorem RM.cl {z : Nat} {A : Nat → Nat → Int32} {B : Nat → Nat → Int64} {M M' : Mem} (h : RM (z + 18) A B M M) (g : Cl z M M') : RM (z + 18) A B M' M' := by
  obtain ⟨I, A', fd, h1, h2⟩ := h
  refine ⟨I, A', fd, ?_, h2⟩
  refine Prod.ext rfl (Prod.ext (funext fun a => ?_) rfl)
  show M'.2.1 a = if a = z + 18 then some (mo (z + 18) I fd) else if z + 18 < a ∧ a ≤ z + 18 + 23 then some (mcell A' B (a - (z + 18))) else M'.2.1 a
  have e : ∀ a, M.2.1 a = (mm (z + 18) I A' B fd M).2.1 a := fun a => by rw [← h1]
  by_cases q1 : a = z + 18
  · rw [if_pos q1, g.2.2 a (by omega) (by omega), e a]
    show (if a = z + 18 then _ else _) = _
    rw [if_pos q1]
  · rw [if_neg q1]
    by_cases q2 : z + 18 < a ∧ a ≤ z + 18 + 23
    · rw [if_pos q2, g.2.2 a (by omega) (by omega), e a]
      show (if a = z + 18 then _ else if z + 18 < a ∧ a ≤ z + 18 + 23 then _ else _) = _
      rw [if_neg q1, if_pos q2]
    · rw [if_neg q2]
/-- a call on both sides: the same answer, and the state is kept -/
def Step {α : Type} (z : Nat) (kc : KC) (f7 f8 : Mem → Option (α × Mem)) (M : Mem) : Prop := ∃ r M1 M2 σ' im', f7 M = some (r, M1) ∧ M1.2.2 = kc ∧ ck M1 5 (z + 18) = some () ∧ f8 M1 = some (r, M2) ∧ INV z kc σ' im' M2
theorem step_of {α : Type} {z : Nat} {kc : KC} {f7 f8 : Mem → Option (α × Mem)} {σ σ' : Sg} {im im' : Nat → Option (Nat × Sg)} {M M1 : Mem} {r : α} (h : INV z kc σ im M) (c : f7 M = some (r, M1)) (g : Cl z M M1) (co : CO z σ' im' M1) (rf : ∀ A B, RM (z + 18) A B M1 M1 → RO A B σ im → ∃ A' B' M2, f8 M1 = some (r, M2) ∧ RM (z + 18) A' B' M1 M2 ∧ RO A' B' σ' im') : Step z kc f7 f8 M := by
  obtain ⟨hk, hc, A, B, hR, hO⟩ := h
  have hR1 := hR.cl g
  obtain ⟨A', B', M2, q1, q2, q3⟩ := rf A B hR1 hO
  have hkc : M1.2.2 = kc := g.2.1.trans hk
  refine ⟨r, M1, M2, σ', im', c, hkc, rm_ck hR1, q1, q2.chg.2.1.trans hkc, co.ref q2.chg, A', B', q2.own, q3⟩
section CREAD
variable {z : Nat} {kc : KC} {σ : Sg} {im : Nat → Option (Nat × Sg)} {M : Mem}
theorem sl_hld {A : Nat → Nat → Int32} {B : Nat → Nat → Int64} (h : Sl A B 0 σ) {l n : Nat} (hl : l < nlS σ) (hn : n ≤ lnS σ) (kd : Int32) : hld A l kd (A 11) n = hlv (ldS σ l) kd (lbS σ) n := by
  obtain ⟨-, h2, -, h4, -⟩ := h
  have e := h2 l hl
  simp only [Nat.mul_zero, Nat.zero_add] at e h4
  rw [hld_v, e]
  exact hlv_congr (fun k hk => h4 k (by omega))
theorem sl_row {A : Nat → Nat → Int32} {B : Nat → Nat → Int64} (h : Sl A B 0 σ) {l r : Nat} (hl : l < nlS σ) (hr : r < nrS σ) (kd : Int32) : hld A l kd (fun j => A 16 (60 * r + j) &&& 255) (rlS σ r) = hlv (ldS σ l) kd (fun j => rbS σ (60 * r + j)) (rlS σ r) := by
  obtain ⟨-, h2, -, -, -, h6, -⟩ := h
  have e := h2 l hl
  have e6 := (h6 r hr).2
  simp only [Nat.mul_zero, Nat.zero_add] at e e6
  rw [hld_v, e]
  exact hlv_congr (fun k hk => e6 k hk)
theorem sl_b {A : Nat → Nat → Int32} {B : Nat → Nat → Int64} (h : Sl A B 0 σ) {k : Nat} (hk : k < 3) : B 12 k = loS σ k ∧ B 13 k = hiS σ k := by
  have := h.2.2.2.2.2.2.2.2 k hk
  simpa using this
theorem nok_l {nl : Nat} (hn : nl ≤ 6) {x kd : Int32} (h : ¬ ∃ l, l < nl ∧ x = nI l) : ¬ okLK nl x kd := fun q => h ((isL_iff hn x).mp q.1)
/-- land and kind, as both sides take them -/
theorem ok_both {nl : Nat} (hn : nl ≤ 6) {l : Nat} (hl : l < nl) {kd : Int32} (hk : ¬ kd < 0 ∧ ¬ 2 < kd) : okLK nl (nI l) kd := ⟨(isL_iff hn _).mpr ⟨l, hl, rfl⟩, hk⟩
theorem step_value (h : INV z kc σ im M) (hK : LenOk M) (x kd : Int32) : Step z kc (fX7_value z x kd) (fX8_value (z + 18) x kd) M := by
  have hc := h.2.1
  have hok := co_ok hc
  have hsh := co_sh hc
  have no : ∀ M1, Cl z M M1 → CO z σ im M1 → ¬ okLK (nlS σ) x kd → fX7_value z x kd M = some (LEAST, M1) → Step z kc (fX7_value z x kd) (fX8_value (z + 18) x kd) M := by
    intro M1 g co hn c
    refine step_of h c g co (fun A B hR hO => ?_)
    obtain ⟨M2, q1, q2⟩ := p_value hok.1 hO.1.1 hok.2.2.1 hO.1.2.2.1 x kd hR
    rcases q2 with ⟨-, q2⟩ | ⟨l, k, r1, r2, r3, r4, -⟩
    · exact ⟨A, B, M2, q2, q1, hO⟩
    · subst r2 r4
      exact absurd (ok_both hok.1 r1 ⟨nI_pos (by omega), li_ngt 2 k 2 rfl (by omega) (by decide)⟩) hn
  rcases cs_landAt hsh hok.1 x with ⟨l, b, l1, l2, l3, l4, l5, l6⟩ | ⟨l1, l3⟩
  · by_cases hk : ¬ kd < 0 ∧ ¬ 2 < kd
    · obtain ⟨hkd, k, k1, k2⟩ := kind3 hk
      obtain ⟨st, M', fo, q1, q2, q3, q4, q5⟩ := co_readLine hc hK hkd (Nat.le_refl _) _ (hok.2.1 l l1) l4 l5
      have c : fX7_value z x kd M = some (cv (hlv (ldS σ l) kd (lbS σ) (lnS σ)) (loS σ k) (hiS σ k), M') := by
        unfold fX7_value
        rw [co_g0 hc, Option.bind_some, cs_ck hsh, Option.bind_some, l3, Option.bind_some]
        simp only [Option.elim]
        rw [e_isKind, Option.bind_some]
        dsimp only
        rw [if_pos hk, if_neg (by decide), co_g0 hc, Option.bind_some, cs_g0 hsh, Option.bind_some, tx_ck hsh.2.1, Option.bind_some, tx_len hsh.2.1, Option.bind_some]
        dsimp only
        rw [co_ck hc, Option.bind_some, q1, Option.bind_some]
        dsimp only
        rw [co_ck q5, Option.bind_some]
        have := co_counted q5 k1 q3 q2
        rw [← k2] at this
        rw [this, Option.bind_some]
      refine step_of h c (Cl.of q4 hc.1 (by omega)) q5 (fun A B hR hO => ?_)
      obtain ⟨M2, p1, p2⟩ := p_value hok.1 hO.1.1 hok.2.2.1 hO.1.2.2.1 x kd hR
      rcases p2 with ⟨p2, -⟩ | ⟨l', k', r1, r2, r3, r4, r5⟩
      · exact absurd (by rw [l2]; exact ok_both hok.1 l1 hk) p2
      · have hn6 := hok.1
        have el : l' = l := (nI_eq (by omega) (by omega)).mp (r2.symm.trans l2)
        have ek : k' = k := (nI_eq (by omega) (by omega)).mp (r4.symm.trans k2)
        subst el ek
        refine ⟨A, B, M2, ?_, p1, hO⟩
        rw [r5, sl_hld hO.1 l1 (Nat.le_refl _), (sl_b hO.1 k1).1, (sl_b hO.1 k1).2, k2]
    · refine no M (Cl.of (Chg.rf 0 0 M) hc.1 (by omega)) hc (fun q => hk q.2) ?_
      unfold fX7_value fX7_value_20
      rw [co_g0 hc, Option.bind_some, cs_ck hsh, Option.bind_some, l3, Option.bind_some]
      simp only [Option.elim]
      rw [e_isKind, Option.bind_some]
      dsimp only
      rw [if_neg hk, if_pos rfl]
  · refine no M (Cl.of (Chg.rf 0 0 M) hc.1 (by omega)) hc (nok_l hok.1 l1) ?_
    unfold fX7_value fX7_value_20
    rw [co_g0 hc, Option.bind_some, cs_ck hsh, Option.bind_some, l3, Option.bind_some]
    rfl
theorem step_open (h : INV z kc σ im M) (hK : LenOk M) (x kd : Int32) : Step z kc (fX7_open z x kd) (fX8_open (z + 18) x kd) M := by
  have hc := h.2.1
  have hok := co_ok hc
  have hsh := co_sh hc
  have no : ∀ M1, Cl z M M1 → CO z σ im M1 → ¬ okLK (nlS σ) x kd → fX7_open z x kd M = some (0, M1) → Step z kc (fX7_open z x kd) (fX8_open (z + 18) x kd) M := by
    intro M1 g co hn c
    refine step_of h c g co (fun A B hR hO => ?_)
    obtain ⟨M2, q1, q2⟩ := p_open hok.1 hO.1.1 hok.2.2.1 hO.1.2.2.1 x kd hR
    rcases q2 with ⟨-, q2⟩ | ⟨l, k, r1, r2, r3, r4, -⟩
    · exact ⟨A, B, M2, q2, q1, hO⟩
    · subst r2 r4
      exact absurd (ok_both hok.1 r1 ⟨nI_pos (by omega), li_ngt 2 k 2 rfl (by omega) (by decide)⟩) hn
  rcases cs_landAt hsh hok.1 x with ⟨l, b, l1, l2, l3, l4, l5, l6⟩ | ⟨l1, l3⟩
  · by_cases hk : ¬ kd < 0 ∧ ¬ 2 < kd
    · obtain ⟨hkd, k, k1, k2⟩ := kind3 hk
      obtain ⟨st, M', fo, q1, q2, q3, q4, q5⟩ := co_readLine hc hK hkd (Nat.le_refl _) _ (hok.2.1 l l1) l4 l5
      have c : fX7_open z x kd M = some (if (hlv (ldS σ l) kd (lbS σ) (lnS σ)).1 = 1 then 1 else 0, M') := by
        unfold fX7_open fX7_open_44 fX7_open_45
        rw [co_g0 hc, Option.bind_some, cs_ck hsh, Option.bind_some, l3, Option.bind_some]
        simp only [Option.elim]
        rw [e_isKind, Option.bind_some]
        dsimp only
        rw [if_pos hk, if_neg (by decide), co_g0 hc, Option.bind_some, cs_g0 hsh, Option.bind_some, tx_ck hsh.2.1, Option.bind_some, tx_len hsh.2.1, Option.bind_some]
        dsimp only
        rw [co_ck hc, Option.bind_some, q1, Option.bind_some, nz0, nz1]
        dsimp only
        rcases q2 with ⟨rfl, e⟩ | ⟨rfl, e⟩ | ⟨rfl, e⟩ <;> rw [e] <;> rfl
      refine step_of h c (Cl.of q4 hc.1 (by omega)) q5 (fun A B hR hO => ?_)
      obtain ⟨M2, p1, p2⟩ := p_open hok.1 hO.1.1 hok.2.2.1 hO.1.2.2.1 x kd hR
      rcases p2 with ⟨p2, -⟩ | ⟨l', k', r1, r2, r3, r4, r5⟩
      · exact absurd (by rw [l2]; exact ok_both hok.1 l1 hk) p2
      · have hn6 := hok.1
        have el : l' = l := (nI_eq (by omega) (by omega)).mp (r2.symm.trans l2)
        have ek : k' = k := (nI_eq (by omega) (by omega)).mp (r4.symm.trans k2)
        subst el ek
        refine ⟨A, B, M2, ?_, p1, hO⟩
        rw [r5, sl_hld hO.1 l1 (Nat.le_refl _), k2]
    · refine no M (Cl.of (Chg.rf 0 0 M) hc.1 (by omega)) hc (fun q => hk q.2) ?_
      unfold fX7_open fX7_open_44 fX7_open_45
      rw [co_g0 hc, Option.bind_some, cs_ck hsh, Option.bind_some, l3, Option.bind_some]
      simp only [Option.elim]
      rw [e_isKind, Option.bind_some]
      dsimp only
      rw [if_neg hk, if_pos rfl, nz0]
      rfl
  · refine no M (Cl.of (Chg.rf 0 0 M) hc.1 (by omega)) hc (nok_l hok.1 l1) ?_
    unfold fX7_open fX7_open_44 fX7_open_45
    rw [co_g0 hc, Option.bind_some, cs_ck hsh, Option.bind_some, l3, Option.bind_some]
    rfl
theorem goodN_congr {P Q : Nat → Bool} : ∀ (d k : Nat), (∀ j, k < j → j ≤ k + d → P j = Q j) → goodN P d k = goodN Q d k := by
  intro d
  induction d with
  | zero => exact fun k _ => rfl
  | succ d ih =>
    intro k hPQ
    rw [goodN, goodN, hPQ (k + 1) (by omega) (by omega), ih (k + 1) (fun j h1 h2 => hPQ j (by omega) (by omega))]
theorem co_goodLoop {l b : Nat} {kd : Int32} (hkd : kd = 0 ∨ kd = 1 ∨ kd = 2) (hl : l < nlS σ) (hb : z + 42 ≤ b) : ∀ (d j f : Nat) (M : Mem), j + d = lnS σ → d < f → LenOk M → CO z σ im M → b < M.1 → M.2.1 b = some (lcell (ldS σ l)) → ∃ M', fX7_good_25 f z kd b (nI j) M = some (nI (goodN (fun n => decide (¬ (hlv (ldS σ l) kd (lbS σ) n).1 ≤ 0)) d j), M') ∧ Chg (z + 12) (z + 15) M M' ∧ CO z σ im M' := by
  intro d
  induction d with
  | zero =>
    intro j f M hj hf hK hc hbm hL
    obtain ⟨f, rfl⟩ : ∃ g, f = g + 1 := ⟨f - 1, by omega⟩
    have hsh := co_sh hc
    have hok := co_ok hc
    have hln := hok.2.2.1
    refine ⟨M, ?_, Chg.rf _ _ _, hc⟩
    rw [fX7_good_25, co_g0 hc, Option.bind_some, cs_g0 hsh, Option.bind_some, tx_ck hsh.2.1, Option.bind_some, tx_len hsh.2.1, Option.bind_some]
    dsimp only
    rw [if_pos (nI_le (by omega) (by omega))]
    rfl
  | succ d ih =>
    intro j f M hj hf hK hc hbm hL
    obtain ⟨f, rfl⟩ : ∃ g, f = g + 1 := ⟨f - 1, by omega⟩
    have hsh := co_sh hc
    have hok := co_ok hc
    have hln := hok.2.2.1
    obtain ⟨st, M', fo, q1, q2, q3, q4, q5⟩ := co_readLine hc hK hkd (n := j + 1) (by omega) _ (hok.2.1 l hl) hL hb
    rw [fX7_good_25, co_g0 hc, Option.bind_some, cs_g0 hsh, Option.bind_some, tx_ck hsh.2.1, Option.bind_some, tx_len hsh.2.1, Option.bind_some]
    dsimp only
    rw [if_neg (nI_ge (by omega) (by omega)), co_ck hc, Option.bind_some, nI_1, q1, Option.bind_some]
    dsimp only
    have go : ∀ hst : ¬ st = 2, (hlv (ldS σ l) kd (lbS σ) (j + 1)).1 = 1 ∨ (hlv (ldS σ l) kd (lbS σ) (j + 1)).1 = 2 := by
      intro hst
      rcases q2 with ⟨-, e⟩ | ⟨-, e⟩ | ⟨e, -⟩
      · rw [e]; exact Or.inr rfl
      · rw [e]; exact Or.inl rfl
      · exact absurd e hst
    by_cases hst : st = 2
    · rw [if_pos hst]
      refine ⟨M', ?_, q4, q5⟩
      have hz : (hlv (ldS σ l) kd (lbS σ) (j + 1)).1 = 0 := by
        rcases q2 with ⟨e, -⟩ | ⟨e, -⟩ | ⟨-, e⟩
        · rw [hst] at e; exact absurd e (by decide)
        · rw [hst] at e; exact absurd e (by decide)
        · rw [e]
      rw [goodN, if_neg (by rw [hz]; decide)]
      rfl
    · rw [if_neg hst]
      obtain ⟨M2, r1, r2, r3⟩ := ih (j + 1) f M' (by omega) (by omega) (lenOk_of hK q4.2.1) q5 (Nat.lt_of_lt_of_le hbm q4.1) ((q4.2.2 b hbm (by omega)).trans hL)
      refine ⟨M2, ?_, q4.trans r2, r3⟩
      rw [r1, goodN, if_pos]
      rcases go hst with e | e <;> rw [e] <;> decide
theorem step_good (h : INV z kc σ im M) (hK : LenOk M) (x kd : Int32) : Step z kc (fX7_good z x kd) (fX8_good (z + 18) x kd) M := by
  have hc := h.2.1
  have hok := co_ok hc
  have hsh := co_sh hc
  have no : ∀ M1, Cl z M M1 → CO z σ im M1 → ¬ okLK (nlS σ) x kd → fX7_good z x kd M = some (-1, M1) → Step z kc (fX7_good z x kd) (fX8_good (z + 18) x kd) M := by
    intro M1 g co hn c
    refine step_of h c g co (fun A B hR hO => ?_)
    obtain ⟨M2, q1, q2⟩ := p_good hok.1 hO.1.1 hok.2.2.1 hO.1.2.2.1 x kd hR
    rcases q2 with ⟨-, q2⟩ | ⟨l, k, r1, r2, r3, r4, -⟩
    · exact ⟨A, B, M2, q2, q1, hO⟩
    · subst r2 r4
      exact absurd (ok_both hok.1 r1 ⟨nI_pos (by omega), li_ngt 2 k 2 rfl (by omega) (by decide)⟩) hn
  rcases cs_landAt hsh hok.1 x with ⟨l, b, l1, l2, l3, l4, l5, l6⟩ | ⟨l1, l3⟩
  · by_cases hk : ¬ kd < 0 ∧ ¬ 2 < kd
    · obtain ⟨hkd, k, k1, k2⟩ := kind3 hk
      have hln := hok.2.2.1
      obtain ⟨M', q1, q4, q5⟩ := co_goodLoop hkd l1 l5 (lnS σ) 0 FU M (by omega) (by unfold FU; omega) hK hc l6 l4
      have c : fX7_good z x kd M = some (nI (goodN (fun n => decide (¬ (hlv (ldS σ l) kd (lbS σ) n).1 ≤ 0)) (lnS σ) 0), M') := by
        unfold fX7_good
        rw [co_g0 hc, Option.bind_some, cs_ck hsh, Option.bind_some, l3, Option.bind_some]
        simp only [Option.elim]
        rw [e_isKind, Option.bind_some]
        dsimp only
        rw [if_pos hk, if_neg (by decide)]
        exact q1
      refine step_of h c (Cl.of q4 hc.1 (by omega)) q5 (fun A B hR hO => ?_)
      obtain ⟨M2, p1, p2⟩ := p_good hok.1 hO.1.1 hok.2.2.1 hO.1.2.2.1 x kd hR
      rcases p2 with ⟨p2, -⟩ | ⟨l', k', r1, r2, r3, r4, r5⟩
      · exact absurd (by rw [l2]; exact ok_both hok.1 l1 hk) p2
      · have hn6 := hok.1
        have el : l' = l := (nI_eq (by omega) (by omega)).mp (r2.symm.trans l2)
        have ek : k' = k := (nI_eq (by omega) (by omega)).mp (r4.symm.trans k2)
        subst el ek
        refine ⟨A, B, M2, ?_, p1, hO⟩
        rw [r5]
        congr 3
        refine goodN_congr _ _ (fun j h1 h2 => ?_)
        rw [sl_hld hO.1 l1 (by omega), k2]
    · refine no M (Cl.of (Chg.rf 0 0 M) hc.1 (by omega)) hc (fun q => hk q.2) ?_
      unfold fX7_good fX7_good_20
      rw [co_g0 hc, Option.bind_some, cs_ck hsh, Option.bind_some, l3, Option.bind_some]
      simp only [Option.elim]
      rw [e_isKind, Option.bind_some]
      dsimp only
      rw [if_neg hk, if_pos rfl]
  · refine no M (Cl.of (Chg.rf 0 0 M) hc.1 (by omega)) hc (nok_l hok.1 l1) ?_
    unfold fX7_good fX7_good_20
    rw [co_g0 hc, Option.bind_some, cs_ck hsh, Option.bind_some, l3, Option.bind_some]
    rfl
end CREAD
