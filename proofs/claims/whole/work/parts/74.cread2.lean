/-! ===== the calls, one by one: state, misfit, sum, fit, count, shown ===== -/
theorem cv_least {v : L8} {kd : Int32} {T : Nat → Int32} {n : Nat} (hv : L8Ok v) (hkd : kd = 0 ∨ kd = 1 ∨ kd = 2) (lo hi : Int64) : lg_cmp (cv (hlv v kd T n) lo hi) (-9223372036854775808) = 0 ↔ cnt (hlv v kd T n) lo hi = false := by
  rw [cmp_eq]
  unfold cv
  cases hc : cnt (hlv v kd T n) lo hi with
  | false => simp
  | true =>
    rw [if_pos rfl]
    refine ⟨fun q => ?_, fun q => by cases q⟩
    exfalso
    unfold cnt at hc
    cases h2 : (hlv v kd T n).2 with
    | none => rw [h2] at hc; simp at hc
    | some y =>
      rw [h2] at hc q
      have h1 : (hlv v kd T n).1 = 2 := by simp at hc; exact hc.1
      exact hlv_least hv hkd (Prod.ext h1 h2) q
section CREAD2
variable {z : Nat} {kc : KC} {σ : Sg} {im : Nat → Option (Nat × Sg)}
theorem co_st81 {M : Mem} {k : Nat} {kd x : Int32} {w : Int32 × Option Int64} {st : Int32} {fo : Int64} (hk : k < 3) (hkd : kd = nI k) (hc : CO z σ im M) (hfo : gL M 1 (z + 12) 5 = some fo) (hw : Found w st fo) (hle : lg_cmp (cv w (loS σ k) (hiS σ k)) (-9223372036854775808) = 0 ↔ cnt w (loS σ k) (hiS σ k) = false) (k23 : Nat → Int32 → Int32 → Int32 → Int32 → Int32 → Int64 → Int32 → Mem → Option (Int32 × Mem)) (s d h o : Bool) (fi : Int64) (l : Nat) (hso : s = false → h = o) :
    ∃ s' d' h' o' fi', (s' = false → h' = o') ∧ fX7_state_81 k23 z x kd (bI s) (bI (!d)) (bI h) fi (nI l) st M = k23 z x kd (bI s') (bI (!d')) (bI h') fi' (nI (l + 1)) M ∧
      (∀ (W : Nat → Int32 × Option Int64) (C bit : Nat → Bool) (j : Nat), W l = w → C l = cnt w (loS σ k) (hiS σ k) → bit l = true → stS W C bit (j + 1) l s d o fi = stS W C bit j (l + 1) s' d' o' fi') := by
  have hv := co_counted hc hk hfo hw
  unfold fX7_state_81 fX7_state_117 fX7_state_112 fX7_state_143 fX7_state_144 fX7_state_117 fX7_state_155
  rw [← hkd] at hv
  rw [co_ck hc, Option.bind_some, hv, Option.bind_some]
  dsimp only
  have hst : st = 2 ↔ w.1 ≤ 0 := by
    rcases hw with ⟨rfl, rfl⟩ | ⟨rfl, rfl⟩ | ⟨rfl, rfl⟩
    · exact (by decide : (0 : Int32) = 2 ↔ (2 : Int32) ≤ 0)
    · exact (by decide : (1 : Int32) = 2 ↔ (1 : Int32) ≤ 0)
    · exact (by decide : (2 : Int32) = 2 ↔ (0 : Int32) ≤ 0)
  cases hcnt : cnt w (loS σ k) (hiS σ k) with
  | false =>
    rw [if_pos (hle.mpr hcnt), nI_1]
    refine ⟨s, d, h || decide (¬ w.1 ≤ 0), o || decide (¬ w.1 ≤ 0), fi, fun q => by rw [hso q], ?_, ?_⟩
    · cases h with
      | true => rw [if_neg (by decide)]; rfl
      | false =>
        rw [if_pos (by decide)]
        by_cases h2 : st = 2
        · rw [if_pos h2, decide_eq_false (show ¬ ¬ w.1 ≤ 0 from fun q => q (hst.mp h2))]; rfl
        · rw [if_neg h2, decide_eq_true (show ¬ w.1 ≤ 0 from fun q => h2 (hst.mpr q))]; rfl
    · intro W C bit j hW hC hb
      rw [stS, if_pos hb, hC, if_neg (by decide), hW]
  | true =>
    have hne : ¬ lg_cmp (cv w (loS σ k) (hiS σ k)) (-9223372036854775808) = 0 := fun q => by rw [hle.mp q] at hcnt; cases hcnt
    have hcv : cv w (loS σ k) (hiS σ k) = w.2.getD 0 := by unfold cv; rw [if_pos hcnt]
    rw [if_neg hne, nI_1, hcv]
    cases s with
    | false =>
      rw [if_pos (by decide)]
      refine ⟨true, d, h, o || decide (¬ w.1 ≤ 0), w.2.getD 0, (fun q => by cases q), rfl, ?_⟩
      intro W C bit j hW hC hb
      rw [stS, if_pos hb, hC, if_pos rfl, hW]
      simp
    | true =>
      rw [if_neg (by decide)]
      refine ⟨true, d || decide (¬ w.2.getD 0 = fi), h, o || decide (¬ w.1 ≤ 0), fi, (fun q => by cases q), ?_, ?_⟩
      · cases d with
        | true => rw [if_pos (by decide)]; rfl
        | false =>
          rw [if_neg (by decide)]
          by_cases he : w.2.getD 0 = fi
          · rw [if_pos ((cmp_eq _ _).mpr he), he]; simp [bI]
          · rw [if_neg (fun q => he ((cmp_eq _ _).mp q))]; simp [bI, he]
      · intro W C bit j hW hC hb
        rw [stS, if_pos hb, hC, if_pos rfl, hW]
        simp
theorem co_stLoop {k : Nat} {kd x : Int32} (hk : k < 3) (hkd : kd = nI k) : ∀ (d l f : Nat) (s dd h o : Bool) (fi : Int64) (M : Mem), l + d = 6 → d < f → LenOk M → CO z σ im M → (s = false → h = o) → ∃ M', fX7_state_23 f z x kd (bI s) (bI (!dd)) (bI h) fi (nI l) M = some (stS (fun l => hlv (ldS σ l) kd (lbS σ) (lnS σ)) (fun l => cnt (hlv (ldS σ l) kd (lbS σ) (lnS σ)) (loS σ k) (hiS σ k)) (fun l => decide (¬ (x >>> (nI l &&& 31)) &&& 1 = 0)) (nlS σ - l) l s dd o fi, M') ∧ Chg (z + 12) (z + 15) M M' ∧ CO z σ im M' := by
  have hkd3 : kd = 0 ∨ kd = 1 ∨ kd = 2 := by
    rw [hkd]
    rcases (show k = 0 ∨ k = 1 ∨ k = 2 by omega) with rfl | rfl | rfl
    · exact Or.inl rfl
    · exact Or.inr (Or.inl rfl)
    · exact Or.inr (Or.inr rfl)
  intro d
  induction d with
  | zero =>
    intro l f s dd h o fi M hl hf hK hc hso
    obtain ⟨f, rfl⟩ : ∃ g, f = g + 1 := ⟨f - 1, by omega⟩
    have hok := co_ok hc
    have hn6 := hok.1
    refine ⟨M, ?_, Chg.rf _ _ _, hc⟩
    rw [fX7_state_23, if_pos (li_ge 6 l 6 rfl (by omega) (by omega)), show nlS σ - l = 0 by omega, stS]
    unfold fX7_state_186 fX7_state_175
    cases s with
    | false =>
      rw [hso rfl]
      cases o <;> rfl
    | true => cases dd <;> rfl
  | succ d ih =>
    intro l f s dd h o fi M hl hf hK hc hso
    obtain ⟨f, rfl⟩ : ∃ g, f = g + 1 := ⟨f - 1, by omega⟩
    have hok := co_ok hc
    have hsh := co_sh hc
    have hn6 := hok.1
    have skip : ∀ M1, CO z σ im M1 → LenOk M1 → (nlS σ ≤ l ∨ decide (¬ (x >>> (nI l &&& 31)) &&& 1 = 0) = false) → fX7_state_53 (fX7_state_23 f) z x kd (bI s) (bI (!dd)) (bI h) fi (nI l) none M1 = fX7_state_23 f z x kd (bI s) (bI (!dd)) (bI h) fi (nI (l + 1)) M1 := by
      intro M1 hc1 _ _
      unfold fX7_state_53
      simp only [Option.elim]
      unfold fX7_state_81
      have : fX7_countedValue z 2 kd M1 = some (-9223372036854775808, M1) := by
        unfold fX7_countedValue fX7_countedValue_32 fX7_countedValue_35
        rw [if_neg (by decide)]
      rw [co_ck hc1, Option.bind_some, this, Option.bind_some]
      dsimp only
      rw [if_pos ((cmp_eq _ _).mpr rfl)]
      unfold fX7_state_112 fX7_state_117 fX7_state_155
      rw [nI_1]
      cases h with
      | true => rw [if_neg (by decide)]; rfl
      | false => rw [if_pos (by decide), if_pos rfl]; rfl
    have fin : ∀ M1, CO z σ im M1 → LenOk M1 → Chg (z + 12) (z + 15) M M1 → (nlS σ ≤ l ∨ decide (¬ (x >>> (nI l &&& 31)) &&& 1 = 0) = false) → ∃ M', fX7_state_53 (fX7_state_23 f) z x kd (bI s) (bI (!dd)) (bI h) fi (nI l) none M1 = some (stS (fun l => hlv (ldS σ l) kd (lbS σ) (lnS σ)) (fun l => cnt (hlv (ldS σ l) kd (lbS σ) (lnS σ)) (loS σ k) (hiS σ k)) (fun l => decide (¬ (x >>> (nI l &&& 31)) &&& 1 = 0)) (nlS σ - l) l s dd o fi, M') ∧ Chg (z + 12) (z + 15) M M' ∧ CO z σ im M' := by
      intro M1 hc1 hK1 g1 hcase
      obtain ⟨M', q1, q2, q3⟩ := ih (l + 1) f s dd h o fi M1 (by omega) (by omega) hK1 hc1 hso
      refine ⟨M', ?_, g1.trans q2, q3⟩
      rw [skip M1 hc1 hK1 hcase, q1]
      rcases Nat.lt_or_ge l (nlS σ) with q | q
      · rw [show nlS σ - l = (nlS σ - (l + 1)) + 1 by omega, stS, if_neg]
        rcases hcase with r | r
        · omega
        · rw [r]; decide
      · rw [show nlS σ - l = 0 by omega, show nlS σ - (l + 1) = 0 by omega]; rfl
    have hand : ∀ y : Int32, (y &&& 1 = 1) ↔ ¬ (y &&& 1 = 0) := by
      intro y
      obtain ⟨j, hj, e⟩ := pk_andE y (m := 1) 1 (by decide)
      rw [e]
      rcases (show j = 0 ∨ j = 1 by omega) with rfl | rfl <;> decide
    rw [fX7_state_23, if_neg (li_nge 6 l 6 rfl (by omega) (by decide))]
    by_cases hbit : (x >>> (nI l &&& 31)) &&& 1 = 1
    · rw [if_pos hbit, co_g0 hc, Option.bind_some, cs_ck hsh, Option.bind_some]
      rcases cs_landAt hsh hok.1 (nI l) with ⟨l', b, l1, l2, l3, l4, l5, l6⟩ | ⟨l1, l3⟩
      · have el : l = l' := (nI_eq (by omega) (by omega)).mp l2
        subst el
        rw [l3, Option.bind_some]
        obtain ⟨st, M1, fo, q1, q2, q3, q4, q5⟩ := co_readLine hc hK hkd3 (Nat.le_refl _) _ (hok.2.1 l l1) l4 l5
        obtain ⟨s', d', h', o', fi', r1, r2, r3⟩ := co_st81 (x := x) hk hkd q5 q3 q2 (cv_least (hok.2.1 l l1) hkd3 _ _) (fX7_state_23 f) s dd h o fi l hso
        obtain ⟨M', p1, p2, p3⟩ := ih (l + 1) f s' d' h' o' fi' M1 (by omega) (by omega) (lenOk_of hK q4.2.1) q5 r1
        refine ⟨M', ?_, q4.trans p2, p3⟩
        unfold fX7_state_53
        simp only [Option.elim]
        rw [co_g0 hc, Option.bind_some, cs_g0 hsh, Option.bind_some, tx_ck hsh.2.1, Option.bind_some, tx_len hsh.2.1, Option.bind_some]
        dsimp only
        rw [co_ck hc, Option.bind_some, q1, Option.bind_some]
        dsimp only
        rw [r2, p1, show nlS σ - l = (nlS σ - (l + 1)) + 1 by omega]
        rw [r3 _ _ _ (nlS σ - (l + 1)) rfl rfl (decide_eq_true ((hand _).mp hbit))]
      · rw [l3, Option.bind_some]
        refine fin M hc hK (Chg.rf _ _ _) (Or.inl ?_)
        rcases Nat.lt_or_ge l (nlS σ) with q | q
        · exact absurd ⟨l, q, rfl⟩ l1
        · exact q
    · rw [if_neg hbit]
      exact fin M hc hK (Chg.rf _ _ _) (Or.inr (decide_eq_false (fun q => hbit ((hand _).mpr q))))
variable {M : Mem}
theorem stS_congr {W W' : Nat → Int32 × Option Int64} {C C' bit : Nat → Bool} : ∀ (d l : Nat) (s dd o : Bool) (fi : Int64), (∀ j, l ≤ j → j < l + d → W j = W' j ∧ C j = C' j) → stS W C bit d l s dd o fi = stS W' C' bit d l s dd o fi := by
  intro d
  induction d with
  | zero => exact fun l s dd o fi _ => rfl
  | succ d ih =>
    intro l s dd o fi h
    obtain ⟨h1, h2⟩ := h l (by omega) (by omega)
    have hn : ∀ s dd o fi, stS W C bit d (l + 1) s dd o fi = stS W' C' bit d (l + 1) s dd o fi := fun s dd o fi => ih (l + 1) s dd o fi (fun j q1 q2 => h j (by omega) (by omega))
    rw [stS, stS, h1, h2, hn, hn, hn]
theorem step_state (h : INV z kc σ im M) (hK : LenOk M) (x kd : Int32) : Step z kc (fX7_state z x kd) (fX8_state (z + 18) x kd) M := by
  have hc := h.2.1
  have hok := co_ok hc
  by_cases hk : ¬ kd < 0 ∧ ¬ 2 < kd
  · obtain ⟨hkd, k, k1, k2⟩ := kind3 hk
    obtain ⟨M', q1, q4, q5⟩ := co_stLoop (x := x) k1 k2 6 0 FU false false false false 0 M (by omega) (by unfold FU; omega) hK hc (fun _ => rfl)
    have c : fX7_state z x kd M = some (stS (fun l => hlv (ldS σ l) kd (lbS σ) (lnS σ)) (fun l => cnt (hlv (ldS σ l) kd (lbS σ) (lnS σ)) (loS σ k) (hiS σ k)) (fun l => decide (¬ (x >>> (nI l &&& 31)) &&& 1 = 0)) (nlS σ - 0) 0 false false false 0, M') := by
      unfold fX7_state
      rw [e_isKind, Option.bind_some]
      dsimp only
      rw [if_pos hk, if_neg (by decide)]
      exact q1
    refine step_of h c (Cl.of q4 hc.1 (by omega)) q5 (fun A B hR hO => ?_)
    obtain ⟨M2, p1, p2⟩ := p_state hok.1 hO.1.1 hok.2.2.1 hO.1.2.2.1 x kd hR
    rcases p2 with ⟨p2, -⟩ | ⟨k', r3, r4, r5⟩
    · exact absurd hk p2
    · have ek : k' = k := (nI_eq (by omega) (by omega)).mp (r4.symm.trans k2)
      subst ek
      refine ⟨A, B, M2, ?_, p1, hO⟩
      rw [r5, Nat.sub_zero]
      congr 2
      refine stS_congr _ _ _ _ _ _ (fun j _ hj => ?_)
      have e := sl_hld hO.1 (l := j) (by omega) (Nat.le_refl _) kd
      rw [← k2, e, (sl_b hO.1 k1).1, (sl_b hO.1 k1).2]
      exact ⟨rfl, rfl⟩
  · have c : fX7_state z x kd M = some (-1, M) := by
      unfold fX7_state
      rw [e_isKind, Option.bind_some]
      dsimp only
      rw [if_neg hk, if_pos rfl]
    refine step_of h c (Cl.of (Chg.rf 0 0 M) hc.1 (by omega)) hc (fun A B hR hO => ?_)
    obtain ⟨M2, p1, p2⟩ := p_state hok.1 hO.1.1 hok.2.2.1 hO.1.2.2.1 x kd hR
    rcases p2 with ⟨-, p2⟩ | ⟨k', r3, r4, r5⟩
    · exact ⟨A, B, M2, p2, p1, hO⟩
    · subst r4
      exact absurd ⟨nI_pos (by omega), li_ngt 2 k' 2 rfl (by omega) (by decide)⟩ hk
/-- whether a row counts, of the state -/
def rOk (σ : Sg) (l k r : Nat) : Bool := cnt (hlv (ldS σ l) (nI k) (fun j => rbS σ (60 * r + j)) (rlS σ r)) (loS σ k) (hiS σ k)
theorem sl_rowOk {A : Nat → Nat → Int32} {B : Nat → Nat → Int64} (h : Sl A B 0 σ) {l r k : Nat} (hl : l < nlS σ) (hr : r < nrS σ) (hk : k < 3) : rowOk A B (rlS σ) l k r = rOk σ l k r := by
  unfold rowOk rOk
  rw [sl_row h hl hr, (sl_b h hk).1, (sl_b h hk).2]
theorem sl_len {A : Nat → Nat → Int32} {B : Nat → Nat → Int64} (h : Sl A B 0 σ) (hok : SgOk σ) : ∀ r, r < nrS σ → rlS σ r ≤ 60 ∧ A 15 r = nI (rlS σ r) := by
  intro r hr
  have := (h.2.2.2.2.2.1 r hr).1
  simp only [Nat.mul_zero, Nat.zero_add] at this
  exact ⟨(hok.2.2.2.2.2.2.2 r hr).1, this⟩
theorem firstBad_congr {P Q : Nat → Bool} : ∀ (d r : Nat), (∀ j, r ≤ j → j < r + d → P j = Q j) → firstBad P d r = firstBad Q d r := by
  intro d
  induction d with
  | zero => exact fun r _ => rfl
  | succ d ih =>
    intro r hPQ
    rw [firstBad, firstBad, hPQ r (by omega) (by omega), ih (r + 1) (fun j h1 h2 => hPQ j (by omega) (by omega))]
theorem nI_kd {k : Nat} (hk : k < 3) : nI k = 0 ∨ nI k = 1 ∨ nI k = 2 := by
  rcases (show k = 0 ∨ k = 1 ∨ k = 2 by omega) with rfl | rfl | rfl
  · exact Or.inl rfl
  · exact Or.inr (Or.inl rfl)
  · exact Or.inr (Or.inr rfl)
theorem co_misLoop {l b k : Nat} (hk : k < 3) (hl : l < nlS σ) (hb : z + 42 ≤ b) : ∀ (d r f : Nat) (M : Mem), r + d = nrS σ → d < f → LenOk M → CO z σ im M → b < M.1 → M.2.1 b = some (lcell (ldS σ l)) → ∃ M', fX7_misfit_25 f z (nI k) b (nI r) M = some (oI (firstBad (rOk σ l k) d r), M') ∧ Chg (z + 12) (z + 15) M M' ∧ CO z σ im M' := by
  intro d
  induction d with
  | zero =>
    intro j f M hj hf hK hc hbm hL
    obtain ⟨f, rfl⟩ : ∃ g, f = g + 1 := ⟨f - 1, by omega⟩
    have hsh := co_sh hc
    have hnr := (co_ok hc).2.2.2.2.2.2.1
    refine ⟨M, ?_, Chg.rf _ _ _, hc⟩
    rw [fX7_misfit_25, co_g0 hc, Option.bind_some, cs_g6 hsh, Option.bind_some, if_pos (nI_le (by omega) (by omega))]
    rfl
  | succ d ih =>
    intro j f M hj hf hK hc hbm hL
    obtain ⟨f, rfl⟩ : ∃ g, f = g + 1 := ⟨f - 1, by omega⟩
    have hsh := co_sh hc
    have hok := co_ok hc
    have hnr := hok.2.2.2.2.2.2.1
    obtain ⟨M', q1, q4, q5⟩ := co_rowValue hc hK hk (r := j) (by omega) _ (hok.2.1 l hl) hL hb
    rw [fX7_misfit_25, co_g0 hc, Option.bind_some, cs_g6 hsh, Option.bind_some, if_neg (nI_ge (by omega) (by omega)), co_ck hc, Option.bind_some, q1, Option.bind_some]
    dsimp only
    have hle := cv_least (T := fun i => rbS σ (60 * j + i)) (n := rlS σ j) (hok.2.1 l hl) (nI_kd hk) (loS σ k) (hiS σ k)
    cases hcn : rOk σ l k j with
    | false =>
      rw [if_pos (hle.mpr hcn)]
      refine ⟨M', ?_, q4, q5⟩
      rw [firstBad, hcn, if_neg (by decide)]
      rfl
    | true =>
      rw [if_neg (fun q => by have := hle.mp q; unfold rOk at hcn; rw [this] at hcn; cases hcn), nI_1]
      obtain ⟨M2, r1, r2, r3⟩ := ih (j + 1) f M' (by omega) (by omega) (lenOk_of hK q4.2.1) q5 (Nat.lt_of_lt_of_le hbm q4.1) ((q4.2.2 b hbm (by omega)).trans hL)
      refine ⟨M2, ?_, q4.trans r2, r3⟩
      rw [r1, firstBad, hcn, if_pos rfl]
theorem step_misfit (h : INV z kc σ im M) (hK : LenOk M) (x kd : Int32) : Step z kc (fX7_misfit z x kd) (fX8_misfit (z + 18) x kd) M := by
  have hc := h.2.1
  have hok := co_ok hc
  have hsh := co_sh hc
  have hnr := hok.2.2.2.2.2.2.1
  have no : ∀ M1, Cl z M M1 → CO z σ im M1 → ¬ okLK (nlS σ) x kd → fX7_misfit z x kd M = some (-1, M1) → Step z kc (fX7_misfit z x kd) (fX8_misfit (z + 18) x kd) M := by
    intro M1 g co hn c
    refine step_of h c g co (fun A B hR hO => ?_)
    obtain ⟨M2, q1, q2⟩ := p_misfit hok.1 hO.1.1 hnr hO.1.2.2.2.2.1 (sl_len hO.1 hok) x kd hR
    rcases q2 with ⟨-, q2⟩ | ⟨l, k, r1, r2, r3, r4, -⟩
    · exact ⟨A, B, M2, q2, q1, hO⟩
    · subst r2 r4
      exact absurd (ok_both hok.1 r1 ⟨nI_pos (by omega), li_ngt 2 k 2 rfl (by omega) (by decide)⟩) hn
  rcases cs_landAt hsh hok.1 x with ⟨l, b, l1, l2, l3, l4, l5, l6⟩ | ⟨l1, l3⟩
  · by_cases hk : ¬ kd < 0 ∧ ¬ 2 < kd
    · obtain ⟨hkd, k, k1, k2⟩ := kind3 hk
      obtain ⟨M', q1, q4, q5⟩ := co_misLoop k1 l1 l5 (nrS σ) 0 FU M (by omega) (by unfold FU; omega) hK hc l6 l4
      have c : fX7_misfit z x kd M = some (oI (firstBad (rOk σ l k) (nrS σ) 0), M') := by
        unfold fX7_misfit
        rw [co_g0 hc, Option.bind_some, cs_ck hsh, Option.bind_some, l3, Option.bind_some]
        simp only [Option.elim]
        rw [e_isKind, Option.bind_some]
        dsimp only
        rw [if_pos hk, if_neg (by decide), k2]
        exact q1
      refine step_of h c (Cl.of q4 hc.1 (by omega)) q5 (fun A B hR hO => ?_)
      obtain ⟨M2, p1, p2⟩ := p_misfit hok.1 hO.1.1 hnr hO.1.2.2.2.2.1 (sl_len hO.1 hok) x kd hR
      rcases p2 with ⟨p2, -⟩ | ⟨l', k', r1, r2, r3, r4, r5⟩
      · exact absurd (by rw [l2]; exact ok_both hok.1 l1 hk) p2
      · have hn6 := hok.1
        have el : l' = l := (nI_eq (by omega) (by omega)).mp (r2.symm.trans l2)
        have ek : k' = k := (nI_eq (by omega) (by omega)).mp (r4.symm.trans k2)
        subst el ek
        refine ⟨A, B, M2, ?_, p1, hO⟩
        rw [r5]
        congr 3
        exact firstBad_congr _ _ (fun j _ h2 => sl_rowOk hO.1 l1 (by omega) k1)
    · refine no M (Cl.of (Chg.rf 0 0 M) hc.1 (by omega)) hc (fun q => hk q.2) ?_
      unfold fX7_misfit fX7_misfit_20
      rw [co_g0 hc, Option.bind_some, cs_ck hsh, Option.bind_some, l3, Option.bind_some]
      simp only [Option.elim]
      rw [e_isKind, Option.bind_some]
      dsimp only
      rw [if_neg hk, if_pos rfl]
  · refine no M (Cl.of (Chg.rf 0 0 M) hc.1 (by omega)) hc (nok_l hok.1 l1) ?_
    unfold fX7_misfit fX7_misfit_20
    rw [co_g0 hc, Option.bind_some, cs_ck hsh, Option.bind_some, l3, Option.bind_some]
    rfl
def rW (σ : Sg) (l k r : Nat) : Int32 × Option Int64 := hlv (ldS σ l) (nI k) (fun j => rbS σ (60 * r + j)) (rlS σ r)
theorem co_sumLoop {l b k : Nat} (hk : k < 3) (hl : l < nlS σ) (hb : z + 42 ≤ b) : ∀ (d r f : Nat) (s : Int64) (M : Mem), r + d = nrS σ → d < f → LenOk M → CO z σ im M → b < M.1 → M.2.1 b = some (lcell (ldS σ l)) → ∃ M', fX7_sum_32 f z (nI k) b s (nI r) M = some (sumS (rW σ l k) (rOk σ l k) d r s, M') ∧ Chg (z + 12) (z + 15) M M' ∧ CO z σ im M' := by
  intro d
  induction d with
  | zero =>
    intro j f s M hj hf hK hc hbm hL
    obtain ⟨f, rfl⟩ : ∃ g, f = g + 1 := ⟨f - 1, by omega⟩
    have hsh := co_sh hc
    have hnr := (co_ok hc).2.2.2.2.2.2.1
    refine ⟨M, ?_, Chg.rf _ _ _, hc⟩
    rw [fX7_sum_32, co_g0 hc, Option.bind_some, cs_g6 hsh, Option.bind_some, if_pos (nI_le (by omega) (by omega))]
    rfl
  | succ d ih =>
    intro j f s M hj hf hK hc hbm hL
    obtain ⟨f, rfl⟩ : ∃ g, f = g + 1 := ⟨f - 1, by omega⟩
    have hsh := co_sh hc
    have hok := co_ok hc
    have hnr := hok.2.2.2.2.2.2.1
    obtain ⟨M', q1, q4, q5⟩ := co_rowValue hc hK hk (r := j) (by omega) _ (hok.2.1 l hl) hL hb
    rw [fX7_sum_32, co_g0 hc, Option.bind_some, cs_g6 hsh, Option.bind_some, if_neg (nI_ge (by omega) (by omega)), co_ck hc, Option.bind_some, q1, Option.bind_some]
    dsimp only
    have hle := cv_least (T := fun i => rbS σ (60 * j + i)) (n := rlS σ j) (hok.2.1 l hl) (nI_kd hk) (loS σ k) (hiS σ k)
    cases hcn : rOk σ l k j with
    | false =>
      rw [if_pos (hle.mpr hcn)]
      refine ⟨M', ?_, q4, q5⟩
      rw [sumS, hcn, if_neg (by decide)]
    | true =>
      have hcv : cv (hlv (ldS σ l) (nI k) (fun i => rbS σ (60 * j + i)) (rlS σ j)) (loS σ k) (hiS σ k) = (rW σ l k j).2.getD 0 := by
        unfold cv
        have hcn' : cnt (hlv (ldS σ l) (nI k) (fun i => rbS σ (60 * j + i)) (rlS σ j)) (loS σ k) (hiS σ k) = true := hcn
        rw [if_pos hcn']
        rfl
      rw [if_neg (fun q => by have := hle.mp q; unfold rOk at hcn; rw [this] at hcn; cases hcn), nI_1, hcv]
      obtain ⟨M2, r1, r2, r3⟩ := ih (j + 1) f (s + (rW σ l k j).2.getD 0) M' (by omega) (by omega) (lenOk_of hK q4.2.1) q5 (Nat.lt_of_lt_of_le hbm q4.1) ((q4.2.2 b hbm (by omega)).trans hL)
      refine ⟨M2, ?_, q4.trans r2, r3⟩
      rw [r1, sumS, hcn, if_pos rfl]
theorem sumS_congr {W W' : Nat → Int32 × Option Int64} {P Q : Nat → Bool} : ∀ (d r : Nat) (s : Int64), (∀ j, r ≤ j → j < r + d → P j = Q j ∧ W j = W' j) → sumS W P d r s = sumS W' Q d r s := by
  intro d
  induction d with
  | zero => exact fun r s _ => rfl
  | succ d ih =>
    intro r s hPQ
    obtain ⟨h1, h2⟩ := hPQ r (by omega) (by omega)
    rw [sumS, sumS, h1, h2, ih (r + 1) _ (fun j h1 h2 => hPQ j (by omega) (by omega))]
theorem step_sum (h : INV z kc σ im M) (hK : LenOk M) (x kd : Int32) : Step z kc (fX7_sum z x kd) (fX8_sum (z + 18) x kd) M := by
  have hc := h.2.1
  have hok := co_ok hc
  have hsh := co_sh hc
  have hnr := hok.2.2.2.2.2.2.1
  have no : ∀ M1, Cl z M M1 → CO z σ im M1 → ¬ okLK1 (nlS σ) x kd → fX7_sum z x kd M = some (LEAST, M1) → Step z kc (fX7_sum z x kd) (fX8_sum (z + 18) x kd) M := by
    intro M1 g co hn c
    refine step_of h c g co (fun A B hR hO => ?_)
    obtain ⟨M2, q1, q2⟩ := p_sum hok.1 hO.1.1 hnr hO.1.2.2.2.2.1 (sl_len hO.1 hok) x kd hR
    rcases q2 with ⟨-, q2⟩ | ⟨l, k, r1, r2, r3, r4, -⟩
    · exact ⟨A, B, M2, q2, q1, hO⟩
    · subst r2 r4
      exact absurd ⟨(isL_iff hok.1 _).mpr ⟨l, r1, rfl⟩, ⟨nI_pos (by omega), li_ngt 1 k 1 rfl (by omega) (by decide)⟩⟩ hn
  rcases cs_landAt hsh hok.1 x with ⟨l, b, l1, l2, l3, l4, l5, l6⟩ | ⟨l1, l3⟩
  · by_cases hk : ¬ kd < 0 ∧ ¬ 1 < kd
    · obtain ⟨k, k1, k2⟩ := kind_of1 hk
      obtain ⟨M', q1, q4, q5⟩ := co_sumLoop (k := k) (by omega) l1 l5 (nrS σ) 0 FU 0 M (by omega) (by unfold FU; omega) hK hc l6 l4
      have c : fX7_sum z x kd M = some (sumS (rW σ l k) (rOk σ l k) (nrS σ) 0 0, M') := by
        unfold fX7_sum fX7_sum_26
        rw [co_g0 hc, Option.bind_some, cs_ck hsh, Option.bind_some, l3, Option.bind_some]
        simp only [Option.elim]
        rcases (show k = 0 ∨ k = 1 by omega) with rfl | rfl
        · have k3 : kd = 0 := k2
          rw [if_pos k3, k3]
          exact q1
        · have k3 : kd = 1 := k2
          rw [if_neg (by rw [k3]; decide), if_pos k3, k3]
          exact q1
      refine step_of h c (Cl.of q4 hc.1 (by omega)) q5 (fun A B hR hO => ?_)
      obtain ⟨M2, p1, p2⟩ := p_sum hok.1 hO.1.1 hnr hO.1.2.2.2.2.1 (sl_len hO.1 hok) x kd hR
      rcases p2 with ⟨p2, -⟩ | ⟨l', k', r1, r2, r3, r4, r5⟩
      · exact absurd ⟨(isL_iff hok.1 _).mpr ⟨l, l1, l2⟩, hk⟩ p2
      · have hn6 := hok.1
        have el : l' = l := (nI_eq (by omega) (by omega)).mp (r2.symm.trans l2)
        have ek : k' = k := (nI_eq (by omega) (by omega)).mp (r4.symm.trans k2)
        subst el ek
        refine ⟨A, B, M2, ?_, p1, hO⟩
        rw [r5]
        congr 2
        exact sumS_congr _ _ _ (fun j _ h2 => ⟨sl_rowOk hO.1 l1 (by omega) (by omega), sl_row hO.1 l1 (by omega) _⟩)
    · refine no M (Cl.of (Chg.rf 0 0 M) hc.1 (by omega)) hc (fun q => hk q.2) ?_
      unfold fX7_sum fX7_sum_22
      rw [co_g0 hc, Option.bind_some, cs_ck hsh, Option.bind_some, l3, Option.bind_some]
      simp only [Option.elim]
      rw [if_neg (fun q => hk (by rw [q]; decide)), if_neg (fun q => hk (by rw [q]; decide))]
  · refine no M (Cl.of (Chg.rf 0 0 M) hc.1 (by omega)) hc (fun q => l1 ((isL_iff hok.1 x).mp q.1)) ?_
    unfold fX7_sum fX7_sum_22
    rw [co_g0 hc, Option.bind_some, cs_ck hsh, Option.bind_some, l3, Option.bind_some]
    rfl
theorem step_count (h : INV z kc σ im M) (x : Int32) : Step z kc (fX7_count z x) (fX8_count (z + 18) x) M := by
  have hc := h.2.1
  have hsh := co_sh hc
  have c : fX7_count z x M = some (if x = 0 then nI (nlS σ) else if x = 1 then nI (lnS σ) else if x = 2 then nI (nrS σ) else if x = 3 then nI (snS σ) else -1, M) := by
    unfold fX7_count
    by_cases x0 : x = 0
    · rw [if_pos x0, if_pos x0, co_g0 hc, Option.bind_some, cs_g3 hsh, Option.bind_some]
    · rw [if_neg x0, if_neg x0]
      by_cases x1 : x = 1
      · rw [if_pos x1, if_pos x1, co_g0 hc, Option.bind_some, cs_g0 hsh, Option.bind_some, tx_ck hsh.2.1, Option.bind_some, tx_len hsh.2.1, Option.bind_some]
      · rw [if_neg x1, if_neg x1]
        by_cases x2 : x = 2
        · rw [if_pos x2, if_pos x2, co_g0 hc, Option.bind_some, cs_g6 hsh, Option.bind_some]
        · rw [if_neg x2, if_neg x2]
          by_cases x3 : x = 3
          · rw [if_pos x3, if_pos x3, co_g0 hc, Option.bind_some, cs_g1 hsh, Option.bind_some, tx_ck hsh.2.2.1, Option.bind_some, tx_len hsh.2.2.1, Option.bind_some]
          · rw [if_neg x3, if_neg x3]
  refine step_of h c (Cl.of (Chg.rf 0 0 M) hc.1 (by omega)) hc (fun A B hR hO => ?_)
  obtain ⟨M2, q1, q2⟩ := p_count hO.1.1 hO.1.2.2.1 hO.1.2.2.2.2.1 hO.1.2.2.2.2.2.2.1 x hR
  exact ⟨A, B, M2, q2, q1, hO⟩
theorem step_shown (h : INV z kc σ im M) (x : Int32) : Step z kc (fX7_shown z x) (fX8_shown (z + 18) x) M := by
  have hc := h.2.1
  have hok := co_ok hc
  have hsh := co_sh hc
  have hsn := hok.2.2.2.2.1
  have hb : ∀ w, fX4_byteAt (z + 1 + 3) x M = some (w, M) → fX7_shown z x M = some (w, M) := by
    intro w e
    unfold fX7_shown
    rw [co_g0 hc, Option.bind_some, cs_g1 hsh, Option.bind_some, tx_ck hsh.2.2.1, Option.bind_some, e, Option.bind_some]
  rcases tx_byteAt hsh.2.2.1 (by decide) x with ⟨k, k1, k2, k3⟩ | ⟨k1, k3⟩
  · refine step_of h (hb _ k3) (Cl.of (Chg.rf 0 0 M) hc.1 (by omega)) hc (fun A B hR hO => ?_)
    obtain ⟨M2, q1, q2⟩ := p_shown (sh := snS σ) (by omega) hO.1.2.2.2.2.2.2.1 x hR
    rcases q2 with ⟨j, j1, j2, j3⟩ | ⟨j1, -⟩
    · have : j = k := (nI_eq (by omega) (by omega)).mp (j2.symm.trans k2)
      subst this
      have e := hO.1.2.2.2.2.2.2.2.1 j j1
      simp only [Nat.mul_zero, Nat.zero_add] at e
      rw [e] at j3
      exact ⟨A, B, M2, j3, q1, hO⟩
    · exact absurd ⟨k, k1, k2⟩ j1
  · refine step_of h (hb _ k3) (Cl.of (Chg.rf 0 0 M) hc.1 (by omega)) hc (fun A B hR hO => ?_)
    obtain ⟨M2, q1, q2⟩ := p_shown (sh := snS σ) (by omega) hO.1.2.2.2.2.2.2.1 x hR
    rcases q2 with ⟨j, j1, j2, j3⟩ | ⟨-, j3⟩
    · exact absurd ⟨j, j1, j2⟩ k1
    · exact ⟨A, B, M2, j3, q1, hO⟩
end CREAD2
