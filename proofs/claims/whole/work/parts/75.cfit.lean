/-! ===== the calls, one by one: fit, key, undo, bounds, take, clear ===== -/
theorem bit_or : ∀ i, i < 6 → ∀ a, a < 2 ^ i → nI a ||| (1 : Int32) <<< (nI i &&& 31) = nI (a + 2 ^ i) := by decide
theorem bit_or0 : ∀ a, a < 64 → nI a ||| 0 = nI a := by decide
theorem bit_and : ∀ i, i < 6 → ∀ a, a < 64 → (nI a &&& (1 : Int32) <<< (nI i &&& 31) = 0 ↔ a / 2 ^ i % 2 = 0) := by decide
theorem bit_one : ∀ i, i < 7 → (1 : Int32) <<< (nI i &&& 31) = nI (2 ^ i) := by decide
section CFIT
variable {z : Nat} {kc : KC} {σ : Sg} {im : Nat → Option (Nat × Sg)}
theorem co_fitRow {l b k : Nat} (hk : k < 3) (hl : l < nlS σ) (hb : z + 42 ≤ b) (k23 : Nat → Int32 → Int32 → Int32 → Mem → Option (Int32 × Mem)) : ∀ (d r f F : Nat) (M : Mem), r + d = nrS σ → d < f → LenOk M → CO z σ im M → b < M.1 → M.2.1 b = some (lcell (ldS σ l)) → F < 64 → F / 2 ^ l % 2 = 1 → 2 ^ l ≤ F → (F - 2 ^ l) / 2 ^ l % 2 = 0 → ∃ M', fX7_fit_52 k23 f z (nI k) (nI F) (nI l) (some b) (nI (2 ^ l)) (nI r) M = k23 z (nI k) (nI (if (firstBad (rOk σ l k) d r).isNone = true then F else F - 2 ^ l)) (nI (l + 1)) M' ∧ Chg (z + 12) (z + 15) M M' ∧ CO z σ im M' := by
  intro d
  induction d with
  | zero =>
    intro j f F M hj hf hK hc hbm hL hF h1 h2 h3
    obtain ⟨f, rfl⟩ : ∃ g, f = g + 1 := ⟨f - 1, by omega⟩
    have hsh := co_sh hc
    have hnr := (co_ok hc).2.2.2.2.2.2.1
    refine ⟨M, ?_, Chg.rf _ _ _, hc⟩
    rw [fX7_fit_52, co_g0 hc, Option.bind_some, cs_g6 hsh, Option.bind_some, if_pos (nI_le (by omega) (by omega))]
    unfold fX7_fit_103
    rw [nI_1]
    rfl
  | succ d ih =>
    intro j f F M hj hf hK hc hbm hL hF h1 h2 h3
    obtain ⟨f, rfl⟩ : ∃ g, f = g + 1 := ⟨f - 1, by omega⟩
    have hsh := co_sh hc
    have hok := co_ok hc
    have hn6 := hok.1
    have hnr := hok.2.2.2.2.2.2.1
    have hand : ∀ a, a < 64 → (nI a &&& nI (2 ^ l) = 0 ↔ a / 2 ^ l % 2 = 0) := by
      intro a ha
      rw [← bit_one l (by omega)]
      exact bit_and l (by omega) a ha
    obtain ⟨M', q1, q4, q5⟩ := co_rowValue hc hK hk (r := j) (by omega) _ (hok.2.1 l hl) hL hb
    rw [fX7_fit_52, co_g0 hc, Option.bind_some, cs_g6 hsh, Option.bind_some, if_neg (nI_ge (by omega) (by omega))]
    simp only [Option.elim]
    rw [if_neg (fun q => by have := (hand F hF).mp q; omega), co_ck hc, Option.bind_some, q1, Option.bind_some]
    dsimp only
    have hle := cv_least (T := fun i => rbS σ (60 * j + i)) (n := rlS σ j) (hok.2.1 l hl) (nI_kd hk) (loS σ k) (hiS σ k)
    unfold fX7_fit_97
    cases hcn : rOk σ l k j with
    | false =>
      rw [if_pos (hle.mpr hcn), nI_1, pk_sub h2]
      refine ⟨M', ?_, q4, q5⟩
      rw [firstBad, hcn, if_neg (show ¬ false = true by decide), if_neg (show ¬ (some j).isNone = true by simp)]
      -- the bit is gone: the next round ends
      obtain ⟨f, rfl⟩ : ∃ g, f = g + 1 := ⟨f - 1, by omega⟩
      rw [fX7_fit_52, co_g0 q5, Option.bind_some, cs_g6 (co_sh q5), Option.bind_some]
      unfold fX7_fit_103
      rw [nI_1]
      by_cases hlast : nI (nrS σ) ≤ nI (j + 1)
      · rw [if_pos hlast]
      · rw [if_neg hlast]
        simp only [Option.elim]
        rw [if_pos ((hand (F - 2 ^ l) (Nat.lt_of_le_of_lt (Nat.sub_le _ _) hF)).mpr h3)]
    | true =>
      rw [if_neg (fun q => by have := hle.mp q; unfold rOk at hcn; rw [this] at hcn; cases hcn), nI_1]
      obtain ⟨M2, r1, r2, r3⟩ := ih (j + 1) f F M' (by omega) (by omega) (lenOk_of hK q4.2.1) q5 (Nat.lt_of_lt_of_le hbm q4.1) ((q4.2.2 b hbm (by omega)).trans hL) hF h1 h2 h3
      refine ⟨M2, ?_, q4.trans r2, r3⟩
      rw [r1, firstBad, hcn, if_pos rfl]
theorem co_fitLoop {k : Nat} (hk : k < 3) : ∀ (d l f acc : Nat) (M : Mem), l + d = nlS σ → d < f → LenOk M → CO z σ im M → acc < 2 ^ l → ∃ M', fX7_fit_23 f z (nI k) (nI (acc + (2 ^ nlS σ - 2 ^ l))) (nI l) M = some (fitS (fun l => (firstBad (rOk σ l k) (nrS σ) 0).isNone) d l (nI acc), M') ∧ Chg (z + 12) (z + 15) M M' ∧ CO z σ im M' := by
  intro d
  induction d with
  | zero =>
    intro l f acc M hl hf hK hc hacc
    obtain ⟨f, rfl⟩ : ∃ g, f = g + 1 := ⟨f - 1, by omega⟩
    have hsh := co_sh hc
    have hn6 := (co_ok hc).1
    refine ⟨M, ?_, Chg.rf _ _ _, hc⟩
    rw [fX7_fit_23, co_g0 hc, Option.bind_some, cs_g3 hsh, Option.bind_some, if_pos (nI_le (by omega) (by omega))]
    have hl' : l = nlS σ := by omega
    rw [hl', Nat.sub_self, Nat.add_zero]
    rfl
  | succ d ih =>
    intro l f acc M hl hf hK hc hacc
    obtain ⟨f, rfl⟩ : ∃ g, f = g + 1 := ⟨f - 1, by omega⟩
    have hsh := co_sh hc
    have hok := co_ok hc
    have hn6 := hok.1
    have hnr := hok.2.2.2.2.2.2.1
    rw [fX7_fit_23, co_g0 hc, Option.bind_some, cs_g3 hsh, Option.bind_some, if_neg (nI_ge (by omega) (by omega)), Option.bind_some, cs_ck hsh, Option.bind_some]
    rcases cs_landAt hsh hok.1 (nI l) with ⟨l', b, l1, l2, l3, l4, l5, l6⟩ | ⟨l1, -⟩
    · have el : l = l' := (nI_eq (by omega) (by omega)).mp l2
      subst el
      rw [l3, Option.bind_some]
      dsimp only
      rw [bit_one l (by omega)]
      -- the bits
      have hp : ∃ t, 2 ^ nlS σ = 2 ^ l * (2 * t) ∧ 1 ≤ t := by
        refine ⟨2 ^ (nlS σ - l - 1), ?_, Nat.one_le_pow _ _ (by decide)⟩
        have e : nlS σ = l + ((nlS σ - l - 1) + 1) := by omega
        rw [← Nat.pow_succ', ← Nat.pow_add, ← e]
      obtain ⟨t, t1, t2⟩ := hp
      have h64 : 2 ^ nlS σ ≤ 64 := Nat.le_trans (Nat.pow_le_pow_right (by decide) hn6) (by decide)
      have hpl : 0 < 2 ^ l := Nat.pow_pos (by decide)
      have hmul : 2 ^ l * (2 * t) = 2 ^ l * (2 * (t - 1) + 1) + 2 ^ l := by
        rw [show 2 * t = (2 * (t - 1) + 1) + 1 by omega, Nat.mul_succ]
      have eF : acc + (2 ^ nlS σ - 2 ^ l) = acc + 2 ^ l * (2 * (t - 1) + 1) := by rw [t1]; omega
      have hF1 : (acc + (2 ^ nlS σ - 2 ^ l)) / 2 ^ l % 2 = 1 := by
        rw [eF, Nat.add_mul_div_left _ _ hpl, Nat.div_eq_of_lt hacc]
        omega
      have hF2 : 2 ^ l ≤ acc + (2 ^ nlS σ - 2 ^ l) := by
        have : 2 ^ l * 1 ≤ 2 ^ l * (2 * (t - 1) + 1) := Nat.mul_le_mul_left _ (by omega)
        omega
      have hF3 : (acc + (2 ^ nlS σ - 2 ^ l) - 2 ^ l) / 2 ^ l % 2 = 0 := by
        have e2 : acc + (2 ^ nlS σ - 2 ^ l) - 2 ^ l = acc + 2 ^ l * (2 * (t - 1)) := by
          rw [eF, Nat.mul_succ]
          omega
        rw [e2, Nat.add_mul_div_left _ _ hpl, Nat.div_eq_of_lt hacc]
        omega
      have hpow : 2 ^ (l + 1) = 2 ^ l + 2 ^ l := by rw [Nat.pow_succ]; omega
      have hle1 : 2 ^ (l + 1) ≤ 2 ^ nlS σ := Nat.pow_le_pow_right (by decide) (by omega)
      obtain ⟨M1, q1, q2, q3⟩ := co_fitRow hk l1 l5 (fX7_fit_23 f) (nrS σ) 0 FU (acc + (2 ^ nlS σ - 2 ^ l)) M (by omega) (by unfold FU; omega) hK hc l6 l4 (by omega) hF1 hF2 hF3
      have q1' : fX7_fit_52 (fX7_fit_23 f) FU z (nI k) (nI (acc + (2 ^ nlS σ - 2 ^ l))) (nI l) (some b) (nI (2 ^ l)) 0 M = _ := q1
      rw [q1']
      rw [fitS]
      cases hb : (firstBad (rOk σ l k) (nrS σ) 0).isNone with
      | true =>
        obtain ⟨M2, r1, r2, r3⟩ := ih (l + 1) f (acc + 2 ^ l) M1 (by omega) (by omega) (lenOk_of hK q2.2.1) q3 (by omega)
        refine ⟨M2, ?_, q2.trans r2, r3⟩
        rw [if_pos rfl, if_pos rfl, bit_or l (by omega) acc hacc, ← r1]
        congr 2
        omega
      | false =>
        obtain ⟨M2, r1, r2, r3⟩ := ih (l + 1) f acc M1 (by omega) (by omega) (lenOk_of hK q2.2.1) q3 (by omega)
        refine ⟨M2, ?_, q2.trans r2, r3⟩
        rw [if_neg (by decide), if_neg (by decide), bit_or0 acc (by omega), ← r1]
        congr 2
        omega
    · exact absurd ⟨l, by omega, rfl⟩ l1
variable {M : Mem}
theorem fitS_congr {P Q : Nat → Bool} : ∀ (d l : Nat) (b : Int32), (∀ j, l ≤ j → j < l + d → P j = Q j) → fitS P d l b = fitS Q d l b := by
  intro d
  induction d with
  | zero => exact fun l b _ => rfl
  | succ d ih =>
    intro l b hPQ
    rw [fitS, fitS, hPQ l (by omega) (by omega), ih (l + 1) _ (fun j h1 h2 => hPQ j (by omega) (by omega))]
theorem step_fit (h : INV z kc σ im M) (hK : LenOk M) (kd : Int32) : Step z kc (fX7_fit z kd) (fX8_fit (z + 18) kd) M := by
  have hc := h.2.1
  have hok := co_ok hc
  have hsh := co_sh hc
  have hn6 := hok.1
  have hnr := hok.2.2.2.2.2.2.1
  by_cases hk : ¬ kd < 0 ∧ ¬ 2 < kd
  · obtain ⟨hkd, k, k1, k2⟩ := kind3 hk
    obtain ⟨M', q1, q4, q5⟩ := co_fitLoop k1 (nlS σ) 0 FU 0 M (by omega) (by unfold FU; omega) hK hc (by decide)
    have c : fX7_fit z kd M = some (fitS (fun l => (firstBad (rOk σ l k) (nrS σ) 0).isNone) (nlS σ) 0 (nI 0), M') := by
      unfold fX7_fit
      rw [e_isKind, Option.bind_some]
      dsimp only
      rw [if_pos hk, if_neg (by decide), co_g0 hc, Option.bind_some, cs_g3 hsh, Option.bind_some, bit_one _ (by omega)]
      have e : nI (2 ^ nlS σ) - 1 = nI (0 + (2 ^ nlS σ - 2 ^ 0)) := by
        rw [Nat.zero_add]
        exact pk_sub (b := 1) (Nat.one_le_pow _ _ (by decide))
      rw [e, k2]
      exact q1
    refine step_of h c (Cl.of q4 hc.1 (by omega)) q5 (fun A B hR hO => ?_)
    obtain ⟨M2, p1, p2⟩ := p_fit hok.1 hO.1.1 hnr hO.1.2.2.2.2.1 (sl_len hO.1 hok) kd hR
    rcases p2 with ⟨p2, -⟩ | ⟨k', r3, r4, r5⟩
    · exact absurd hk p2
    · have ek : k' = k := (nI_eq (by omega) (by omega)).mp (r4.symm.trans k2)
      subst ek
      refine ⟨A, B, M2, ?_, p1, hO⟩
      rw [r5]
      congr 2
      refine fitS_congr _ _ _ (fun j _ hj => ?_)
      rw [firstBad_congr _ _ (fun r _ h2 => sl_rowOk hO.1 (show j < nlS σ by omega) (by omega) k1)]
  · have c : fX7_fit z kd M = some (-1, M) := by
      unfold fX7_fit
      rw [e_isKind, Option.bind_some]
      dsimp only
      rw [if_neg hk, if_pos rfl]
    refine step_of h c (Cl.of (Chg.rf 0 0 M) hc.1 (by omega)) hc (fun A B hR hO => ?_)
    obtain ⟨M2, p1, p2⟩ := p_fit hok.1 hO.1.1 hnr hO.1.2.2.2.2.1 (sl_len hO.1 hok) kd hR
    rcases p2 with ⟨-, p2⟩ | ⟨k', r3, r4, r5⟩
    · exact ⟨A, B, M2, p2, p1, hO⟩
    · subst r4
      exact absurd ⟨nI_pos (by omega), li_ngt 2 k' 2 rfl (by omega) (by decide)⟩ hk
/-! what is written -/
def wLine (σ : Sg) (n : Nat) (L : Nat → Int32) : Sg := (σ.1, (n, L), σ.2.2)
def wShown (σ : Sg) (n : Nat) (L : Nat → Int32) : Sg := (σ.1, σ.2.1, (n, L), σ.2.2.2)
def wRows (σ : Sg) (n : Nat) (l : Nat → Nat) (L : Nat → Int32) : Sg := (σ.1, σ.2.1, σ.2.2.1, (n, l, L), σ.2.2.2.2)
def wBnd (σ : Sg) (lo hi : Nat → Int64) : Sg := (σ.1, σ.2.1, σ.2.2.1, σ.2.2.2.1, lo, hi)
def wLands (σ : Sg) (n : Nat) (L : Nat → L8) : Sg := ((n, L), σ.2)
theorem wLine_ok {n : Nat} {L : Nat → Int32} (h : SgOk σ) (hn : n ≤ 60) (hL : ∀ k, k < n → byt (L k)) : SgOk (wLine σ n L) := ⟨h.1, h.2.1, hn, hL, h.2.2.2.2⟩
theorem wShown_ok {n : Nat} {L : Nat → Int32} (h : SgOk σ) (hn : n ≤ 100) (hL : ∀ k, k < n → byt (L k)) : SgOk (wShown σ n L) := ⟨h.1, h.2.1, h.2.2.1, h.2.2.2.1, hn, hL, h.2.2.2.2.2.2⟩
/-- a new line in the now-sheet -/
theorem co_line {M' : Mem} {n : Nat} {L : Nat → Int32} (h : CO z σ im M) (hT : TX (z + 1 + 1) 60 n L M') (g : Chg (z + 2) (z + 3) M M') (hL : ∀ k, k < n → byt (L k)) : CO z (wLine σ n L) im M' := by
  have h' := h
  obtain ⟨h0, h1, h2, h3, h4, h5, h6, ⟨nd, Ld, h7⟩, h8⟩ := h'
  obtain ⟨k0, k1, k2, k3, k4, k5, k6, k7⟩ := h2
  have at_ : ∀ a, a < M.1 → (a < z + 2 ∨ z + 3 < a) → M'.2.1 a = M.2.1 a := g.2.2
  refine CO.fr h (g.wide (by omega) (by omega)) (at_ _ (by omega) (by omega)) ⟨(at_ (z + 1) (by omega) (by omega)).trans k0, hT, k2.fr g (by omega) (by omega), k3.fr g (at_ _ (by omega) (by omega)) (fun b v q1 q2 q3 => (at_ b q2 (by omega)).trans q3) h8.1, k4.fr (at_ _ (by omega) (by omega)), k5.fr (at_ _ (by omega) (by omega)), k6.fr (at_ _ (by omega) (by omega)), k7.fr (at_ _ (by omega) (by omega))⟩ (h6.fr g (by omega) (by omega)) ⟨nd, Ld, h7.fr g (by omega) (by omega)⟩ (wLine_ok h8 hT.1 hL)
theorem co_shown {M' : Mem} {n : Nat} {L : Nat → Int32} (h : CO z σ im M) (hT : TX (z + 1 + 3) 100 n L M') (g : Chg (z + 4) (z + 5) M M') (hL : ∀ k, k < n → byt (L k)) : CO z (wShown σ n L) im M' := by
  have h' := h
  obtain ⟨h0, h1, h2, h3, h4, h5, h6, ⟨nd, Ld, h7⟩, h8⟩ := h'
  obtain ⟨k0, k1, k2, k3, k4, k5, k6, k7⟩ := h2
  have at_ : ∀ a, a < M.1 → (a < z + 4 ∨ z + 5 < a) → M'.2.1 a = M.2.1 a := g.2.2
  refine CO.fr h (g.wide (by omega) (by omega)) (at_ _ (by omega) (by omega)) ⟨(at_ (z + 1) (by omega) (by omega)).trans k0, k1.fr g (by omega) (by omega), hT, k3.fr g (at_ _ (by omega) (by omega)) (fun b v q1 q2 q3 => (at_ b q2 (by omega)).trans q3) h8.1, k4.fr (at_ _ (by omega) (by omega)), k5.fr (at_ _ (by omega) (by omega)), k6.fr (at_ _ (by omega) (by omega)), k7.fr (at_ _ (by omega) (by omega))⟩ (h6.fr g (by omega) (by omega)) ⟨nd, Ld, h7.fr g (by omega) (by omega)⟩ (wShown_ok h8 hT.1 hL)
theorem co_draft {M' : Mem} {n : Nat} {L : Nat → Int32} (h : CO z σ im M) (hT : TX (z + 16) 100 n L M') (g : Chg (z + 16) (z + 17) M M') : CO z σ im M' := by
  have h' := h
  obtain ⟨h0, h1, h2, h3, h4, h5, h6, h7, h8⟩ := h'
  have at_ : ∀ a, a < M.1 → (a < z + 16 ∨ z + 17 < a) → M'.2.1 a = M.2.1 a := g.2.2
  exact CO.fr h (g.wide (by omega) (by omega)) (at_ _ (by omega) (by omega)) (h2.fr h8.1 g (by omega) (by omega) (fun b v q1 q2 q3 => (at_ b q2 (by omega)).trans q3)) (h6.fr g (by omega) (by omega)) ⟨n, L, hT⟩ h8
theorem byt_of {x : Int32} (h : ¬ x < 0 ∧ ¬ 255 < x) : byt x := by
  obtain ⟨k, hk, rfl⟩ := nI_of h.1
  refine ⟨k, ?_, rfl⟩
  rcases Nat.lt_or_ge k 256 with q | q
  · exact q
  · exact absurd (li_gt 255 k 255 rfl (by omega) hk) h.2
theorem step_key (h : INV z kc σ im M) (x : Int32) : Step z kc (fX7_key z x) (fX8_key (z + 18) x) M := by
  have hc := h.2.1
  have hok := co_ok hc
  have hsh := co_sh hc
  have hln := hok.2.2.1
  by_cases hx : (¬ x < 0 ∧ ¬ 255 < x) ∧ lnS σ < 60
  · obtain ⟨M', q1, q2, q3⟩ := tx_add hsh.2.1 (by decide) hx.2 x
    have hby : ∀ k, k < lnS σ + 1 → byt (upd (lbS σ) (lnS σ) x k) := by
      intro k hk
      by_cases he : k = lnS σ
      · rw [he, pk_us]; exact byt_of hx.1
      · rw [pk_un he]; exact hok.2.2.2.1 k (by omega)
    have hc' := co_line hc q2 (q3.wide (by omega) (by omega)) hby
    have c : fX7_key z x M = some (nI (lnS σ + 1), M') := by
      unfold fX7_key
      rw [if_neg hx.1.1, if_neg hx.1.2, co_g0 hc, Option.bind_some, cs_g0 hsh, Option.bind_some, tx_ck hsh.2.1, Option.bind_some, tx_len hsh.2.1, Option.bind_some]
      dsimp only
      rw [if_pos (li_lt 60 _ 60 rfl hx.2 (by decide)), co_g0 hc, Option.bind_some, cs_g0 hsh, Option.bind_some, tx_ck hsh.2.1, Option.bind_some, q1, Option.bind_some, co_g0 hc', Option.bind_some, cs_g0 (co_sh hc'), Option.bind_some, tx_ck q2, Option.bind_some, tx_len q2, Option.bind_some]
    refine step_of h c (Cl.of q3 hc.1 (by omega)) hc' (fun A B hR hO => ?_)
    rcases p_key hln hO.1.2.2.1 x hR with ⟨-, M2, p1, p2⟩ | ⟨p1, -⟩
    · refine ⟨_, B, M2, p2, p1, ?_⟩
      obtain ⟨⟨o1, o2, o3, o4, o5, o6, o7, o8, o9⟩, hO2⟩ := hO
      refine ⟨⟨o1, o2, ?_, ?_, o5, o6, o7, o8, o9⟩, fun k hk => ⟨(hO2 k hk).1, fun s τ e => ?_⟩⟩
      · show upd (A 10) 0 (nI (lnS σ + 1)) 0 = nI (lnS σ + 1)
        exact pk_us
      · intro k hk
        show upd (A 11) (lnS σ) x (60 * 0 + k) = upd (lbS σ) (lnS σ) x k
        rw [Nat.mul_zero, Nat.zero_add]
        by_cases he : k = lnS σ
        · rw [he, pk_us, pk_us]
        · have := o4 k (by have : k < lnS σ + 1 := hk; omega)
          rw [Nat.mul_zero, Nat.zero_add] at this
          rw [pk_un he, pk_un he, this]
      · obtain ⟨s1, s2, s3, s4, s5, s6, s7, s8, s9⟩ := (hO2 k hk).2 s τ e
        refine ⟨s1, s2, ?_, ?_, s5, s6, s7, s8, s9⟩
        · show upd (A 10) 0 (nI (lnS σ + 1)) (k + 1) = _
          rw [pk_un (by omega)]; exact s3
        · intro j hj
          show upd (A 11) (lnS σ) x (60 * (k + 1) + j) = _
          rw [pk_un (by omega)]; exact s4 j hj
    · exact absurd hx p1
  · have c : fX7_key z x M = some (-1, M) := by
      unfold fX7_key fX7_key_26
      by_cases x1 : x < 0
      · rw [if_pos x1]
      · rw [if_neg x1]
        by_cases x2 : 255 < x
        · rw [if_pos x2]
        · have : ¬ lnS σ < 60 := fun q => hx ⟨⟨x1, x2⟩, q⟩
          rw [if_neg x2, co_g0 hc, Option.bind_some, cs_g0 hsh, Option.bind_some, tx_ck hsh.2.1, Option.bind_some, tx_len hsh.2.1, Option.bind_some]
          dsimp only
          rw [if_neg (li_nlt 60 _ 60 rfl (by omega) (by omega))]
    refine step_of h c (Cl.of (Chg.rf 0 0 M) hc.1 (by omega)) hc (fun A B hR hO => ?_)
    rcases p_key hln hO.1.2.2.1 x hR with ⟨p1, -⟩ | ⟨-, M2, p1, p2⟩
    · exact absurd p1 hx
    · exact ⟨A, B, M2, p2, p1, hO⟩
end CFIT
