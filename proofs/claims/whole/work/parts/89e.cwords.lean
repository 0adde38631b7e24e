/-! ===== the class writes numbers in words ===== -/
section CWORDS
variable {t : Nat} {M0 : Mem}
theorem cw_kc {L : List Int32} {M : Mem} (h : CW t M0 L M) : M.2.2 = M0.2.2 := h.2.2.1
theorem c_addName (hS : StrOk M0.2.2) {L : List Int32} {M : Mem} (h : CW t M0 L M) {i : Nat} (hi : i < 31) (hl : ln L + ((nmB i).length + 1) ≤ 101) : ∃ M', fX5_addName t (nI i) M = some M' ∧ CW t M0 (adW L i) M' := by
  have hn9 := nm_len i hi
  have loop : ∀ (d j f : Nat) (P : List Int32) (M : Mem), j + d = (nmB i).length → d < f → P.length + (nmB i).length ≤ 100 → CW t M0 (P ++ (nmB i).take j) M → ∃ M', fX5_addName_20 f t (M0.2.2.1 (56 + 2 * i)) (nI j) M = some M' ∧ CW t M0 (P ++ nmB i) M' := by
    intro d
    induction d with
    | zero =>
      intro j f P M hj hf hp hc
      obtain ⟨f, rfl⟩ : ∃ g, f = g + 1 := ⟨f - 1, by omega⟩
      have hS' : StrOk M.2.2 := by rw [cw_kc hc]; exact hS
      have ha : M0.2.2.1 (56 + 2 * i) = M.2.2.1 (56 + 2 * i) := by rw [cw_kc hc]
      refine ⟨M, ?_, ?_⟩
      · rw [fX5_addName_20, ha, nm_ck hS' hi, Option.bind_some, nm_length hS' hi, Option.bind_some]
        dsimp only
        rw [if_pos (nI_le (by omega) (by omega))]
      · rw [List.take_of_length_le (by omega)] at hc
        exact hc
    | succ d ih =>
      intro j f P M hj hf hp hc
      obtain ⟨f, rfl⟩ : ∃ g, f = g + 1 := ⟨f - 1, by omega⟩
      have hS' : StrOk M.2.2 := by rw [cw_kc hc]; exact hS
      have ha : M0.2.2.1 (56 + 2 * i) = M.2.2.1 (56 + 2 * i) := by rw [cw_kc hc]
      have hjl : j < (nmB i).length := by omega
      have hpl : (P ++ (nmB i).take j).length < 100 := by rw [List.length_append, List.length_take]; omega
      obtain ⟨M1, q1, q2⟩ := cw_add hc hpl (lf (nmB i) j)
      have e : P ++ (nmB i).take j ++ [lf (nmB i) j] = P ++ (nmB i).take (j + 1) := by
        rw [List.append_assoc, List.take_succ, List.getElem?_eq_getElem hjl]
        unfold lf
        rw [List.getD_eq_getElem?_getD, List.getElem?_eq_getElem hjl]
        rfl
      rw [e] at q2
      obtain ⟨M2, r1, r2⟩ := ih (j + 1) f P M1 (by omega) (by omega) hp q2
      refine ⟨M2, ?_, r2⟩
      rw [ha] at r1
      rw [fX5_addName_20, ha, nm_ck hS' hi, Option.bind_some, nm_length hS' hi, Option.bind_some]
      dsimp only
      rw [if_neg (nI_ge hjl (by omega)), nm_ck hS' hi, Option.bind_some, nm_charAt hS' hi hjl, Option.bind_some]
      dsimp only
      rw [cw_ck hc, Option.bind_some, q1, Option.bind_some, nI_1, r1]
  have go : ∀ (P : List Int32) (M : Mem), P.length + (nmB i).length ≤ 100 → CW t M0 P M → ∃ M', fX5_addName_13 t (nI i) M = some M' ∧ CW t M0 (P ++ nmB i) M' := by
    intro P M hp hc
    obtain ⟨M', q1, q2⟩ := loop (nmB i).length 0 FU P M (by omega) (by unfold FU; omega) hp (by rw [List.take_zero, List.append_nil]; exact hc)
    refine ⟨M', ?_, q2⟩
    unfold fX5_addName_13
    rw [e_nameOf M i hi, Option.bind_some]
    dsimp only
    rw [cw_kc hc]
    exact q1
  unfold fX5_addName
  rw [cw_ck h, Option.bind_some, tx_len h.1, Option.bind_some]
  dsimp only
  unfold ln at hl
  unfold adW
  by_cases hL : L = []
  · subst hL
    rw [if_pos (show nI ([] : List Int32).length ≤ 0 by decide), if_pos rfl]
    exact go [] M (by simp; omega) h
  · rw [if_neg hL] at hl
    have hp : 0 < L.length := List.length_pos_iff.mpr hL
    obtain ⟨M1, q1, q2⟩ := cw_add h (by omega) 32
    obtain ⟨M2, r1, r2⟩ := go (L ++ [32]) M1 (by rw [List.length_append]; simp; omega) q2
    refine ⟨M2, ?_, ?_⟩
    · rw [if_neg (show ¬ nI L.length ≤ 0 from li_nle 0 L.length 0 rfl hp (by omega)), cw_ck h, Option.bind_some, q1, Option.bind_some, r1]
    · rw [if_neg hL]
      exact r2
/-- the name behind a part: none, or one -/
def Bh (x : Int32) (bh : List Nat) : Prop := (x = -1 ∧ bh = []) ∨ ∃ b, b < 31 ∧ x = nI b ∧ bh = [b]
theorem Bh.lt {x : Int32} {bh : List Nat} (h : Bh x bh) : ∀ t ∈ bh, t < 31 := by
  rcases h with ⟨-, rfl⟩ | ⟨b, hb, -, rfl⟩
  · intro t ht; cases ht
  · intro t ht; simp at ht; omega
theorem c_63 (hS : StrOk M0.2.2) {x : Int32} {bh : List Nat} (hb : Bh x bh) {L : List Int32} {M : Mem} (h : CW t M0 L M) (hl : ln L + wl bh ≤ 101) : ∃ M', fX5_addPart_63 t x M = some M' ∧ CW t M0 (jw L bh) M' := by
  unfold fX5_addPart_63 fX5_addPart_73
  rcases hb with ⟨rfl, rfl⟩ | ⟨b, hb, rfl, rfl⟩
  · exact ⟨M, if_pos rfl, h⟩
  · obtain ⟨M', q1, q2⟩ := c_addName hS h hb (by simp only [wl] at hl; omega)
    refine ⟨M', ?_, q2⟩
    rw [if_neg (fun q => by
      have hp := nI_pos (n := b) (by omega)
      rw [q] at hp
      exact hp (by decide)), q1, Option.bind_some]
theorem c_54 (hS : StrOk M0.2.2) {x : Int32} {bh : List Nat} (hb : Bh x bh) {r : Nat} (hr : r < 20) {L : List Int32} {M : Mem} (h : CW t M0 L M) (hl : ln L + wl (rT r ++ bh) ≤ 101) : ∃ M', fX5_addPart_54 t x (nI r) M = some M' ∧ CW t M0 (jw L (rT r ++ bh)) M' := by
  unfold fX5_addPart_54
  unfold rT at hl ⊢
  by_cases h0 : 0 < r
  · rw [if_pos h0] at hl ⊢
    have hl' : ln L + ((nmB r).length + 1 + wl bh) ≤ 101 := hl
    obtain ⟨M1, q1, q2⟩ := c_addName hS h (i := r) (by omega) (by omega)
    obtain ⟨M2, r1, r2⟩ := c_63 hS hb q2 (by rw [ln_adW (by omega)]; omega)
    refine ⟨M2, ?_, r2⟩
    rw [if_neg (show ¬ nI r ≤ 0 from li_nle 0 r 0 rfl h0 (by omega)), q1, Option.bind_some, r1]
  · rw [if_neg h0] at hl ⊢
    rw [show r = 0 by omega, if_pos (show nI 0 ≤ 0 by decide)]
    exact c_63 hS hb h hl
theorem c_25 (hS : StrOk M0.2.2) {x : Int32} {bh : List Nat} (hb : Bh x bh) {p : Nat} (hp : p < 1000) {L : List Int32} {M : Mem} (h : CW t M0 L M) (hl : ln L + wl (tT (p % 100) ++ bh) ≤ 101) : ∃ M', fX5_addPart_25 t (nI p) x M = some M' ∧ CW t M0 (jw L (tT (p % 100) ++ bh)) M' := by
  have e1 : rmI (nI p) 100 = nI (p % 100) := rmI_nI (d := 100) (by omega) (by decide) (by decide)
  have e2 : rmI (nI (p % 100)) 10 = nI (p % 100 % 10) := rmI_nI (d := 10) (by omega) (by decide) (by decide)
  have e3 : nI (p % 100) / 10 = nI (p % 100 / 10) := pk_div (d := 10) (by omega) (by decide) (by decide)
  have e4 : (20 : Int32) + nI (p % 100 / 10) = nI (20 + p % 100 / 10) := nI_add 20 _
  have e5 : nI (20 + p % 100 / 10) - 2 = nI (20 + p % 100 / 10 - 2) := pk_sub (b := 2) (by omega)
  unfold fX5_addPart_25
  rw [e1, e2, e3, e4, e5]
  unfold tT at hl ⊢
  by_cases h20 : p % 100 < 20
  · rw [if_pos h20] at hl ⊢
    rw [if_pos (li_lt 20 (p % 100) 20 rfl h20 (by decide))]
    exact c_54 hS hb h20 h hl
  · rw [if_neg h20] at hl ⊢
    rw [if_neg (li_nlt 20 (p % 100) 20 rfl (by omega) (by omega)), show 20 + p % 100 / 10 - 2 = 18 + p % 100 / 10 by omega]
    have hl' : ln L + ((nmB (18 + p % 100 / 10)).length + 1 + wl (rT (p % 100 % 10) ++ bh)) ≤ 101 := hl
    obtain ⟨M1, q1, q2⟩ := c_addName hS h (i := 18 + p % 100 / 10) (by omega) (by omega)
    obtain ⟨M2, r1, r2⟩ := c_54 hS hb (r := p % 100 % 10) (by omega) q2 (by rw [ln_adW (by omega)]; omega)
    refine ⟨M2, ?_, r2⟩
    rw [q1, Option.bind_some, r1]
theorem c_part (hS : StrOk M0.2.2) {x : Int32} {bh : List Nat} (hb : Bh x bh) {p : Nat} (hp : p < 1000) {L : List Int32} {M : Mem} (h : CW t M0 L M) (hl : ln L + wl (tkN p bh) ≤ 101) : ∃ M', fX5_addPart t (nI p) x M = some M' ∧ CW t M0 (jw L (tkN p bh)) M' := by
  unfold fX5_addPart
  unfold tkN at hl ⊢
  by_cases h0 : p = 0
  · rw [if_pos h0] at hl ⊢
    rw [h0, if_pos (show nI 0 = 0 by decide)]
    exact ⟨M, rfl, h⟩
  · rw [if_neg h0] at hl ⊢
    rw [if_neg (nI_ne0 (by omega) (by omega))]
    unfold tkB hT at hl ⊢
    by_cases h100 : p < 100
    · rw [if_pos h100] at hl ⊢
      rw [if_pos (li_lt 100 p 100 rfl h100 (by decide))]
      exact c_25 hS hb hp h hl
    · rw [if_neg h100] at hl ⊢
      rw [if_neg (li_nlt 100 p 100 rfl (by omega) (by omega))]
      have e1 : nI p / 100 = nI (p / 100) := pk_div (d := 100) (by omega) (by decide) (by decide)
      have hl' : ln L + ((nmB (p / 100)).length + 1 + ((nmB 28).length + 1 + wl (tT (p % 100) ++ bh))) ≤ 101 := hl
      obtain ⟨M1, q1, q2⟩ := c_addName hS h (i := p / 100) (by omega) (by omega)
      obtain ⟨M2, r1, r2⟩ := c_addName hS q2 (i := 28) (by omega) (by rw [ln_adW (by omega)]; omega)
      obtain ⟨M3, s1, s2⟩ := c_25 hS hb hp r2 (by rw [ln_adW (by omega), ln_adW (by omega)]; omega)
      refine ⟨M3, ?_, s2⟩
      have r1' : fX5_addName t 28 M1 = some M2 := r1
      rw [e1, q1, Option.bind_some, r1', Option.bind_some, s1]
/-- the class writes a number in words -/
theorem c_words (hS : StrOk M0.2.2) {n0 : Nat} {L0 : Nat → Int32} (hT : TX t 100 n0 L0 M0) {N : Nat} (hN : N < 10 ^ 9) : ∃ M', fX5_write t (nI N) M0 = some M' ∧ CW t M0 (jw [] (tkW N)) M' := by
  obtain ⟨M1, q1, q2, q3⟩ := tx_empty hT (lf [])
  have c1 : CW t M0 [] M1 := ⟨q2, q3⟩
  have hw := wl_tkW hN
  unfold fX5_write
  rw [tx_ck hT, Option.bind_some, q1, Option.bind_some]
  unfold tkW at hw ⊢
  by_cases h0 : N = 0
  · rw [if_pos h0] at hw ⊢
    rw [h0, if_pos (show nI 0 = 0 by decide)]
    obtain ⟨M2, r1, r2⟩ := c_addName hS c1 (i := 0) (by decide) (by simp only [wl] at hw; exact Nat.le_trans (by have : ln [] = 0 := rfl; omega) hw)
    have r1' : fX5_addName t 0 M1 = some M2 := r1
    exact ⟨M2, by rw [r1', Option.bind_some], r2⟩
  · rw [if_neg h0] at hw ⊢
    rw [if_neg (nI_ne0 (by omega) (by omega))]
    have e1 : nI N / 1000000 = nI (N / 1000000) := pk_div (d := 1000000) (by omega) (by decide) (by decide)
    have e2 : nI N / 1000 = nI (N / 1000) := pk_div (d := 1000) (by omega) (by decide) (by decide)
    have e3 : rmI (nI (N / 1000)) 1000 = nI (N / 1000 % 1000) := rmI_nI (d := 1000) (by omega) (by decide) (by decide)
    have e4 : rmI (nI N) 1000 = nI (N % 1000) := rmI_nI (d := 1000) (by omega) (by decide) (by decide)
    rw [wl_app, wl_app] at hw
    have hl0 : ln [] = 0 := rfl
    have b30 : Bh 30 [30] := Or.inr ⟨30, by decide, rfl, rfl⟩
    have b29 : Bh 29 [29] := Or.inr ⟨29, by decide, rfl, rfl⟩
    have b0 : Bh (-1) [] := Or.inl ⟨rfl, rfl⟩
    obtain ⟨M2, r1, r2⟩ := c_part hS b30 (p := N / 1000000) (by omega) c1 (by omega)
    have l2 := ln_jw (tkN_lt (p := N / 1000000) (by omega) b30.lt) []
    obtain ⟨M3, s1, s2⟩ := c_part hS b29 (p := N / 1000 % 1000) (by omega) r2 (by omega)
    have l3 := ln_jw (tkN_lt (p := N / 1000 % 1000) (by omega) b29.lt) (jw [] (tkN (N / 1000000) [30]))
    obtain ⟨M4, u1, u2⟩ := c_part hS b0 (p := N % 1000) (by omega) s2 (by omega)
    refine ⟨M4, ?_, ?_⟩
    · rw [e1, e2, e3, e4, r1, Option.bind_some, s1, Option.bind_some, u1, Option.bind_some]
    · rw [jw_app, jw_app]
      exact u2
end CWORDS
