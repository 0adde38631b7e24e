/-! ===== the reference makes numbers in words ===== -/
def bAt (w : Int64) (d : Nat) : Int32 := ((w >>> ((nI (8 * d)).toInt64 &&& 63)) &&& (255 : Int64)).toInt32
def wBy (w : Int64) : Nat → List Int32
  | 0 => []
  | d + 1 => (if bAt w d = 0 then [] else [bAt w d]) ++ wBy w d
def shI : Nat → Int32
  | 0 => -8
  | d + 1 => nI (8 * d)
def cwL : List Int64 := [2053468783, 7302757, 7632751, 499968533861, 1718580594, 1718187621, 7563640, 495623497070, 435560081524, 1852403301, 7628142, 111516233131374, 128056151537253, 8388070246277539182, 7381247448723055982, 28826336384869742, 32485588391519598, 8315182465026385253, 7307485568712402286, 7956011598750246254, 128056151667833, 127991794529401, 439956436089, 439854986361, 495690740857, 32481181504009337, 111503380870265, 121399102764153, 29402514569979236, 8388076856215170660, 30796686857695086]
def cw (i : Nat) : Int64 := cwL.getD i 0
theorem cw_by : ∀ i, i < 31 → ¬ i = 17 → wBy (cw i) 8 = nmB i := by decide +kernel
theorem cw_17 : wBy (cw 17) 8 ++ [110] = nmB 17 := by decide +kernel
theorem wBy_len (w : Int64) : ∀ d, (wBy w d).length ≤ d := by
  intro d
  induction d with
  | zero => exact Nat.le_refl _
  | succ d ih =>
    unfold wBy
    rw [List.length_append]
    split
    · simp; omega
    · simp; omega
section RWORDS
variable {m : Nat} {A : Nat → Nat → Int32} {B : Nat → Nat → Int64} {N : Mem}
theorem mk_26 {L : List Int32} {M : Mem} (h : MK m A B N L M) : gI M 5 m 26 = some (nI L.length) := by
  obtain ⟨I, A', fd, rfl, hC, h26, h22⟩ := h
  rw [mm_gI26, h26]
theorem mk_bytes (w : Int64) : ∀ (d f : Nat) (L : List Int32) (M : Mem), d ≤ 8 → d < f → L.length + d ≤ 150 → MK m A B N L M → ∃ M', fX8_sayWord_16 f m w (shI d) M = some M' ∧ MK m A B N (L ++ wBy w d) M' := by
  intro d
  induction d with
  | zero =>
    intro f L M hd hf hl h
    obtain ⟨f, rfl⟩ : ∃ g, f = g + 1 := ⟨f - 1, by omega⟩
    refine ⟨M, ?_, by rw [wBy, List.append_nil]; exact h⟩
    rw [fX8_sayWord_16, if_pos (show shI 0 < 0 by decide)]
  | succ d ih =>
    intro f L M hd hf hl h
    obtain ⟨f, rfl⟩ : ∃ g, f = g + 1 := ⟨f - 1, by omega⟩
    have hs : ∀ d, d < 8 → shI (d + 1) + (-8) = shI d ∧ ¬ shI (d + 1) < 0 := by decide
    obtain ⟨s1, s2⟩ := hs d (by omega)
    have e : ((w >>> ((shI (d + 1)).toInt64 &&& 63)) &&& (255 : Int64)).toInt32 = bAt w d := rfl
    rw [fX8_sayWord_16, if_neg s2, e]
    unfold fX8_sayWord_41
    rw [s1, wBy]
    by_cases h0 : bAt w d = 0
    · rw [if_pos h0, if_pos h0, List.nil_append]
      exact ih f L M (by omega) (by omega) (by omega) h
    · rw [if_neg h0, if_neg h0]
      obtain ⟨M1, q1, q2⟩ := mk_say h (by omega) (bAt w d)
      obtain ⟨M2, r1, r2⟩ := ih f _ M1 (by omega) (by omega) (by rw [List.length_append]; simp; omega) q2
      refine ⟨M2, ?_, ?_⟩
      · rw [mk_ck h, Option.bind_some, q1, Option.bind_some, r1]
      · rw [List.append_assoc] at r2
        exact r2
theorem mk_word0 (w : Int64) {L : List Int32} {M : Mem} (h : MK m A B N L M) (hl : L.length ≤ 140) : ∃ M', fX8_sayWord m w M = some M' ∧ MK m A B N ((if L = [] then [] else L ++ [32]) ++ wBy w 8) M' := by
  unfold fX8_sayWord fX8_sayWord_13
  rw [mk_26 h, Option.bind_some]
  by_cases hL : L = []
  · subst hL
    rw [if_pos (show nI ([] : List Int32).length ≤ 0 by decide), if_pos rfl]
    exact mk_bytes w 8 FU [] M (by decide) (by unfold FU; omega) (by simp) h
  · have hp : 0 < L.length := List.length_pos_iff.mpr hL
    obtain ⟨M1, q1, q2⟩ := mk_say h (by omega) 32
    obtain ⟨M2, r1, r2⟩ := mk_bytes w 8 FU (L ++ [32]) M1 (by decide) (by unfold FU; omega) (by rw [List.length_append]; simp; omega) q2
    refine ⟨M2, ?_, ?_⟩
    · rw [if_neg (show ¬ nI L.length ≤ 0 from li_nle 0 L.length 0 rfl hp (by omega)), mk_ck h, Option.bind_some, q1, Option.bind_some]
      exact r1
    · rw [if_neg hL]
      exact r2
theorem mk_word {i : Nat} (hi : i < 31) (h17 : ¬ i = 17) {L : List Int32} {M : Mem} (h : MK m A B N L M) (hl : L.length ≤ 140) : ∃ M', fX8_sayWord m (cw i) M = some M' ∧ MK m A B N (adW L i) M' := by
  obtain ⟨M', q1, q2⟩ := mk_word0 (cw i) h hl
  rw [cw_by i hi h17] at q2
  exact ⟨M', q1, q2⟩
theorem e_b20 {M : Mem} (hck : ck M 5 m = some ()) : ∀ r, 0 < r → r < 20 → ¬ r = 17 → fX8_sayBelow20 m (nI r) M = (fX8_sayWord m (cw r) M).bind some := by
  intro r h0 hr h17
  have h : r = 1 ∨ r = 2 ∨ r = 3 ∨ r = 4 ∨ r = 5 ∨ r = 6 ∨ r = 7 ∨ r = 8 ∨ r = 9 ∨ r = 10 ∨ r = 11 ∨ r = 12 ∨ r = 13 ∨ r = 14 ∨ r = 15 ∨ r = 16 ∨ r = 18 ∨ r = 19 := by omega
  unfold fX8_sayBelow20
  rcases h with rfl | rfl | rfl | rfl | rfl | rfl | rfl | rfl | rfl | rfl | rfl | rfl | rfl | rfl | rfl | rfl | rfl | rfl
  all_goals (repeat (first | rw [if_pos (by decide)] | rw [if_neg (by decide)]); rw [hck]; rfl)
theorem e_b17 {M : Mem} (hck : ck M 5 m = some ()) : fX8_sayBelow20 m (nI 17) M = (fX8_sayWord m (cw 17) M).bind fun r34 => (ck r34 5 m).bind fun _ => (fX8_say m 110 r34).bind some := by
  unfold fX8_sayBelow20
  repeat (first | rw [if_pos (by decide)] | rw [if_neg (by decide)])
  rw [hck]
  rfl
theorem e_tens {M : Mem} (hck : ck M 5 m = some ()) : ∀ r, 2 ≤ r → r < 10 → fX8_sayTens m (nI r) M = (fX8_sayWord m (cw (18 + r)) M).bind some := by
  intro r h0 hr
  have h : r = 2 ∨ r = 3 ∨ r = 4 ∨ r = 5 ∨ r = 6 ∨ r = 7 ∨ r = 8 ∨ r = 9 := by omega
  unfold fX8_sayTens
  rcases h with rfl | rfl | rfl | rfl | rfl | rfl | rfl | rfl
  all_goals (repeat (first | rw [if_pos (by decide)] | rw [if_neg (by decide)]); rw [hck]; rfl)
theorem mk_b20 {r : Nat} (hr : r < 20) {L : List Int32} {M : Mem} (h : MK m A B N L M) (hl : L.length ≤ 140) : ∃ M', fX8_sayBelow20 m (nI r) M = some M' ∧ MK m A B N (jw L (rT r)) M' := by
  unfold rT
  by_cases h0 : 0 < r
  · rw [if_pos h0]
    by_cases h17 : r = 17
    · subst h17
      rw [e_b17 (mk_ck h)]
      obtain ⟨M1, q1, q2⟩ := mk_word0 (cw 17) h hl
      have hlen : ((if L = [] then [] else L ++ [32]) ++ wBy (cw 17) 8).length < 160 := by
        have := wBy_len (cw 17) 8
        rw [List.length_append]
        split
        · simp; omega
        · rw [List.length_append]; simp; omega
      obtain ⟨M2, r1, r2⟩ := mk_say q2 hlen 110
      refine ⟨M2, ?_, ?_⟩
      · rw [q1, Option.bind_some, mk_ck q2, Option.bind_some, r1]; rfl
      · rw [List.append_assoc, cw_17] at r2
        exact r2
    · rw [e_b20 (mk_ck h) r h0 hr h17]
      obtain ⟨M1, q1, q2⟩ := mk_word (i := r) (by omega) h17 h hl
      exact ⟨M1, by rw [q1]; rfl, q2⟩
  · rw [if_neg h0, show r = 0 by omega]
    refine ⟨M, ?_, h⟩
    unfold fX8_sayBelow20
    repeat (first | rw [if_pos (by decide)] | rw [if_neg (by decide)])
    rfl
theorem jw_len {ts : List Nat} (h : ∀ t ∈ ts, t < 31) {L : List Int32} {k : Nat} (hk : ln L + wl ts ≤ k) : (jw L ts).length ≤ k := by
  have h1 := ln_jw h L
  have h2 := len_ln (jw L ts)
  omega
/-- below one thousand -/
theorem mk_1000 {p : Nat} (hp : p < 1000) {L : List Int32} {M : Mem} (h : MK m A B N L M) (hl : ln L ≤ 80) : ∃ M', fX8_sayBelow1000 m (nI p) M = some M' ∧ MK m A B N (jw L (tkB p)) M' := by
  have hL := len_ln L
  have go : ∀ (L : List Int32) (M : Mem), L.length ≤ 120 → MK m A B N L M → ∃ M', fX8_sayBelow1000_21 m (nI p) M = some M' ∧ MK m A B N (jw L (tT (p % 100))) M' := by
    intro L M hl h
    have e1 : rmI (nI p) 100 = nI (p % 100) := rmI_nI (d := 100) (by omega) (by decide) (by decide)
    have e2 : rmI (nI (p % 100)) 10 = nI (p % 100 % 10) := rmI_nI (d := 10) (by omega) (by decide) (by decide)
    have e3 : nI (p % 100) / 10 = nI (p % 100 / 10) := pk_div (d := 10) (by omega) (by decide) (by decide)
    unfold fX8_sayBelow1000_21 fX8_sayBelow1000_56
    rw [e1, e2, e3]
    unfold tT
    by_cases h20 : p % 100 < 20
    · rw [if_neg (li_nge 20 (p % 100) 20 rfl h20 (by decide)), if_pos h20, mk_ck h, Option.bind_some]
      obtain ⟨M1, q1, q2⟩ := mk_b20 h20 h (by omega)
      exact ⟨M1, by rw [q1, Option.bind_some], q2⟩
    · rw [if_pos (li_ge 20 (p % 100) 20 rfl (by omega) (by omega)), if_neg h20, mk_ck h, Option.bind_some, e_tens (mk_ck h) _ (by omega) (by omega)]
      obtain ⟨M1, q1, q2⟩ := mk_word (i := 18 + p % 100 / 10) (by omega) (by omega) h (by omega)
      have hn9 := nm_len (18 + p % 100 / 10) (by omega)
      have hlen : (adW L (18 + p % 100 / 10)).length ≤ 140 := by
        unfold adW
        rw [List.length_append]
        split
        · simp; omega
        · rw [List.length_append]; simp; omega
      obtain ⟨M2, r1, r2⟩ := mk_b20 (r := p % 100 % 10) (by omega) q2 hlen
      refine ⟨M2, ?_, r2⟩
      rw [q1, Option.bind_some, Option.bind_some, mk_ck q2, Option.bind_some, r1, Option.bind_some]
  unfold fX8_sayBelow1000 tkB hT
  by_cases h100 : p < 100
  · rw [if_pos (li_le 99 p 99 rfl (by omega) (by decide)), if_pos h100, List.nil_append]
    exact go L M (by omega) h
  · rw [if_neg (li_nle 99 p 99 rfl (by omega) (by omega)), if_neg h100, mk_ck h, Option.bind_some]
    have e1 : nI p / 100 = nI (p / 100) := pk_div (d := 100) (by omega) (by decide) (by decide)
    obtain ⟨M1, q1, q2⟩ := mk_b20 (r := p / 100) (by omega) h (by omega)
    have er : rT (p / 100) = [p / 100] := by unfold rT; rw [if_pos (by omega)]
    rw [er] at q2
    have q2' : MK m A B N (adW L (p / 100)) M1 := q2
    have l1 := ln_adW (L := L) (i := p / 100) (by omega)
    have n1 := nm_len (p / 100) (by omega)
    have l1' := len_ln (adW L (p / 100))
    obtain ⟨M2, r1, r2⟩ := mk_word (i := 28) (by decide) (by decide) q2' (by omega)
    have l2 := ln_adW (L := adW L (p / 100)) (i := 28) (by decide)
    have n2 := nm_len 28 (by decide)
    have l2' := len_ln (adW (adW L (p / 100)) 28)
    obtain ⟨M3, s1, s2⟩ := go _ M2 (by omega) r2
    refine ⟨M3, ?_, ?_⟩
    · have r1' : fX8_sayWord m 29402514569979236 M1 = some M2 := r1
      rw [e1, q1, Option.bind_some, mk_ck q2, Option.bind_some, r1', Option.bind_some, s1]
    · rw [jw_app]
      exact s2
/-- the reference makes a number's words -/
theorem mk_words {K : Nat} (hK : K < 10 ^ 9) {M : Mem} (R : RM m A B N M) : ∃ M', fX8_makeWords m (nI K) M = some M' ∧ MK m A B N (jw [] (tkW K)) M' := by
  obtain ⟨M1, e1, K1⟩ := mk_start R
  have d1 : nI K / 1000000 = nI (K / 1000000) := pk_div (d := 1000000) (by omega) (by decide) (by decide)
  have d2 : nI K / 1000 = nI (K / 1000) := pk_div (d := 1000) (by omega) (by decide) (by decide)
  have d3 : rmI (nI (K / 1000)) 1000 = nI (K / 1000 % 1000) := rmI_nI (d := 1000) (by omega) (by decide) (by decide)
  have d4 : rmI (nI K) 1000 = nI (K % 1000) := rmI_nI (d := 1000) (by omega) (by decide) (by decide)
  have w30 : wl [30] = 8 := by decide +kernel
  have w29 : wl [29] = 9 := by decide +kernel
  have hl0 : ln [] = 0 := rfl
  -- the last part
  have g71 : ∀ (L : List Int32) (M : Mem), ln L ≤ 80 → MK m A B N L M → ∃ M', fX8_makeWords_71 m (nI K) M = some M' ∧ MK m A B N (jw L (tkB (K % 1000))) M' := by
    intro L M hl h
    unfold fX8_makeWords_71
    rw [d4, mk_ck h, Option.bind_some]
    obtain ⟨M2, q1, q2⟩ := mk_1000 (p := K % 1000) (by omega) h hl
    exact ⟨M2, by rw [q1, Option.bind_some], q2⟩
  have tk : ∀ p, tkN p [] = tkB p := by
    intro p
    unfold tkN
    by_cases h0 : p = 0
    · rw [if_pos h0, h0]; decide
    · rw [if_neg h0, List.append_nil]
  have g39 : ∀ (L : List Int32) (M : Mem), ln L ≤ 36 → MK m A B N L M → ∃ M', fX8_makeWords_39 m (nI K) M = some M' ∧ MK m A B N (jw L (tkN (K / 1000 % 1000) [29] ++ tkN (K % 1000) [])) M' := by
    intro L M hl h
    unfold fX8_makeWords_39
    rw [d2, d3, tk (K % 1000), jw_app]
    unfold tkN
    by_cases h0 : K / 1000 % 1000 = 0
    · rw [if_pos h0, h0, if_pos (show nI 0 ≤ 0 by decide)]
      exact g71 L M (by omega) h
    · rw [if_neg h0, if_neg (show ¬ nI (K / 1000 % 1000) ≤ 0 from li_nle 0 _ 0 rfl (by omega) (by omega)), mk_ck h, Option.bind_some]
      obtain ⟨M2, q1, q2⟩ := mk_1000 (p := K / 1000 % 1000) (by omega) h (by omega)
      have hlt : ∀ t ∈ tkB (K / 1000 % 1000), t < 31 := fun t ht => by have := tkB_lt (p := K / 1000 % 1000) (by omega) t ht; omega
      have l1 := ln_jw hlt L
      have l2 := len_ln (jw L (tkB (K / 1000 % 1000)))
      have w1 := wl_tkB (K / 1000 % 1000) (by omega)
      obtain ⟨M3, r1, r2⟩ := mk_word (i := 29) (by decide) (by decide) q2 (by omega)
      have l3 := ln_adW (L := jw L (tkB (K / 1000 % 1000))) (i := 29) (by decide)
      have n3 := nm_len 29 (by decide)
      obtain ⟨M4, s1, s2⟩ := g71 _ M3 (by omega) r2
      refine ⟨M4, ?_, ?_⟩
      · have r1' : fX8_sayWord m 8388076856215170660 M2 = some M3 := r1
        rw [q1, Option.bind_some, mk_ck q2, Option.bind_some, r1', Option.bind_some, s1]
      · rw [jw_app]
        exact s2
  have g16 : ∀ (M : Mem), ¬ K = 0 → MK m A B N [] M → ∃ M', fX8_makeWords_16 m (nI K) M = some M' ∧ MK m A B N (jw [] (tkW K)) M' := by
    intro M h0 h
    unfold fX8_makeWords_16 tkW
    rw [if_neg h0, d1, jw_app]
    by_cases h6 : K ≤ 999999
    · rw [if_pos (li_le 999999 K 999999 rfl h6 (by decide)), show tkN (K / 1000000) [30] = [] by unfold tkN; rw [if_pos (by omega)]]
      exact g39 [] M (by omega) h
    · rw [if_neg (li_nle 999999 K 999999 rfl (by omega) (by omega)), show tkN (K / 1000000) [30] = tkB (K / 1000000) ++ [30] by unfold tkN; rw [if_neg (by omega)], mk_ck h, Option.bind_some]
      obtain ⟨M2, q1, q2⟩ := mk_1000 (p := K / 1000000) (by omega) h (by omega)
      have hlt : ∀ t ∈ tkB (K / 1000000), t < 31 := fun t ht => by have := tkB_lt (p := K / 1000000) (by omega) t ht; omega
      have l1 := ln_jw hlt []
      have l2 := len_ln (jw [] (tkB (K / 1000000)))
      have w1 := wl_tkB (K / 1000000) (by omega)
      obtain ⟨M3, r1, r2⟩ := mk_word (i := 30) (by decide) (by decide) q2 (by omega)
      have l3 := ln_adW (L := jw [] (tkB (K / 1000000))) (i := 30) (by decide)
      have n3 : (nmB 30).length = 7 := by decide +kernel
      obtain ⟨M4, s1, s2⟩ := g39 _ M3 (by omega) r2
      refine ⟨M4, ?_, ?_⟩
      · have r1' : fX8_sayWord m 30796686857695086 M2 = some M3 := r1
        rw [q1, Option.bind_some, mk_ck q2, Option.bind_some, r1', Option.bind_some, s1]
      · rw [jw_app [] (tkB (K / 1000000)) [30]]
        exact s2
  unfold fX8_makeWords
  rw [e1, Option.bind_some]
  by_cases h0 : K = 0
  · subst h0
    rw [if_pos (show nI 0 = 0 by decide), mk_ck K1, Option.bind_some]
    obtain ⟨M2, q1, q2⟩ := mk_word (i := 0) (by decide) (by decide) K1 (by simp)
    have l3 := ln_adW (L := []) (i := 0) (by decide)
    have n3 : (nmB 0).length = 4 := by decide +kernel
    obtain ⟨M3, r1, r2⟩ := g39 _ M2 (by omega) q2
    refine ⟨M3, ?_, ?_⟩
    · have q1' : fX8_sayWord m 2053468783 M1 = some M2 := q1
      rw [q1', Option.bind_some]
      unfold fX8_makeWords_16
      rw [if_pos (show nI 0 ≤ 999999 by decide), r1]
    · exact r2
  · rw [if_neg (nI_ne0 (by omega) (by omega))]
    exact g16 M1 h0 K1
end RWORDS
