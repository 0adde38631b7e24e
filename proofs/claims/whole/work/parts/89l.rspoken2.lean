/-! ===== the reference: spoken ===== -/
theorem tkN_0 (bh : List Nat) : tkN 0 bh = [] := by unfold tkN; rw [if_pos rfl]
theorem tkN_p {q : Nat} (h : 0 < q) (bh : List Nat) : tkN q bh = tkB q ++ bh := by unfold tkN; rw [if_neg (by omega)]
theorem jn_1 (i : Nat) : jn [i] = nmB i := by simp [jn, fl]
theorem len29 : (nmB 29).length = 8 := by decide +kernel
theorem len30 : (nmB 30).length = 7 := by decide +kernel
theorem suf_uniq {T : Nat → Int32} {n K K' : Nat} (hK : K < 10 ^ 9) (hK' : K' < 10 ^ 9) (h : Suf T n 0 (tkW K)) (h' : Suf T n 0 (tkW K')) : K = K' := by
  have ne : ∀ {K : Nat}, K < 10 ^ 9 → ¬ tkW K = [] := by
    intro K hK q
    have e := mf_tkW hK
    rw [q] at e
    have e' : 0 = K := e
    rw [← e'] at q
    cases q
  have pre : ∀ {K K' : Nat}, K < 10 ^ 9 → K' < 10 ^ 9 → Suf T n 0 (tkW K) → Suf T n 0 (tkW K') → ∃ c, tkW K' = tkW K ++ c := by
    intro K K' hK hK' h h'
    have hA : At T n 0 (jn (tkW K)) := pre_at (a := tkW K) (c := []) (by rw [List.append_nil]; exact h) (ne hK)
    exact at_pre h' hA (ne hK) (tkW_lt hK) (tkW_lt hK')
  obtain ⟨c, hc⟩ := pre hK hK' h h'
  obtain ⟨d, hd⟩ := pre hK' hK h' h
  have hl := congrArg List.length hc
  have hl' := congrArg List.length hd
  rw [List.length_append] at hl hl'
  have hc0 : c = [] := List.length_eq_zero_iff.mp (by omega)
  rw [hc0, List.append_nil] at hc
  have e := mf_tkW hK
  rw [← hc, mf_tkW hK'] at e
  exact e.symm
section RSPK2
variable {m : Nat} {A : Nat → Nat → Int32} {B : Nat → Nat → Int64} {N : Mem} {n : Nat} {T : Nat → Int32}
theorem jn_pos {ts : List Nat} (h : ¬ ts = []) (hv : ∀ t ∈ ts, t < 31) : 0 < (jn ts).length := List.length_pos_iff.mpr (jn_ne h hv)
theorem r_exC (hl : LnA A n T) {p a b c q k f : Nat} {M : Mem} (hq : 0 < q) (hq1 : q < 1000) (hk : k < 3) (hs : Suf T n p (tkB q)) (R : RM m A B N M) : ∃ M', RM m A B N M' ∧ fX8_spoken_31 (f + 2) m (nI p) (nI a) (nI b) (nI c) (nI k) M = fX8_spoken_158 m (nI a) (nI b) (nI q) M' := by
  have hn := hl.1
  have hs1 := hs.1
  have hpos := jn_pos (tkB_ne hq1 hq) (wB_lt hq1)
  obtain ⟨best, long, hB, M1, R1, e1⟩ := r_step hl R (p := p) (a := a) (b := b) (c := c) (k := k) (f := f + 1) (by omega) hk
  obtain ⟨rfl, rfl⟩ := bst_first (c := []) hq hq1 (fun t ht => by cases ht) (Or.inl rfl) (by rw [List.append_nil]; exact hs) hB
  rw [if_neg (by omega), if_neg (fun q => by omega), if_neg (fun q => by omega)] at e1
  exact ⟨M1, R1, by rw [e1, r_stop hl R1 (Or.inl (Nat.le_refl _)) (by omega) (by omega)]⟩
theorem r_exB (hl : LnA A n T) {p a y q k f : Nat} {M : Mem} (hy : y < 1000) (hq1 : q < 1000) (h0 : 0 < y ∨ 0 < q) (hk : k < 2) (hs : Suf T n p (tkN y [29] ++ tkN q [])) (R : RM m A B N M) : ∃ M', RM m A B N M' ∧ fX8_spoken_31 (f + 3) m (nI p) (nI a) (nI 0) (nI 0) (nI k) M = fX8_spoken_158 m (nI a) (nI y) (nI q) M' := by
  have hn := hl.1
  by_cases hy0 : y = 0
  · subst hy0
    have hq0 : 0 < q := h0.resolve_left (by omega)
    rw [tkN_0, List.nil_append, tkN_p hq0, List.append_nil] at hs
    exact r_exC hl hq0 hq1 (by omega) hs R
  · have hyp : 0 < y := by omega
    rw [tkN_p hyp, List.append_assoc] at hs
    have hv : ∀ t ∈ [29] ++ tkN q [], t < 31 := by
      intro t ht
      rcases List.mem_append.mp ht with h | h
      · simp at h; omega
      · exact tkN_lt hq1 (fun t ht => by cases ht) t h
    have hs1 := suf_step hs (tkB_ne hy hyp) (by simp)
    have hA29 := pre_at (a := [29]) (c := tkN q []) hs1 (by simp)
    have hn30 : ¬ At T n (p + (jn (tkB y)).length + 1) (jn [30]) := by
      intro q30
      obtain ⟨d, hd⟩ := at_pre hs1 q30 (by simp) (by simp) hv
      injection hd with h1 h2
      cases h1
    rw [jn_1] at hA29 hn30
    have h29 := hA29.1
    rw [len29] at h29
    have hpy := jn_pos (tkB_ne hy hyp) (wB_lt hy)
    obtain ⟨best, long, hB, M1, R1, e1⟩ := r_step hl R (p := p) (a := a) (b := 0) (c := 0) (k := k) (f := f + 2) (by omega) (by omega)
    obtain ⟨rfl, rfl⟩ := bst_first (c := [29] ++ tkN q []) hyp hy hv (Or.inr ⟨29, tkN q [], rfl, Nat.le_refl _⟩) hs hB
    rw [if_neg (by omega), if_neg (fun q => hn30 q.2), if_pos ⟨by omega, hA29⟩] at e1
    by_cases hq0 : q = 0
    · subst hq0
      have hend := hs1.1
      rw [tkN_0, List.append_nil, jn_1, len29] at hend
      exact ⟨M1, R1, by rw [e1, r_stop hl R1 (Or.inl (by omega)) (by omega) (by omega)]⟩
    · have hqp : 0 < q := by omega
      rw [tkN_p hqp, List.append_nil] at hs1
      have hs2 := suf_step hs1 (by simp) (tkB_ne hq1 hqp)
      rw [jn_1, len29] at hs2
      rw [e1]
      exact r_exC hl hqp hq1 (by omega) hs2 R1
theorem r_exA (hl : LnA A n T) {x y q f : Nat} {M : Mem} (hx : x < 1000) (hy : y < 1000) (hq1 : q < 1000) (h0 : 0 < x ∨ 0 < y ∨ 0 < q) (hs : Suf T n 0 (tkN x [30] ++ (tkN y [29] ++ tkN q []))) (R : RM m A B N M) : ∃ M', RM m A B N M' ∧ fX8_spoken_31 (f + 4) m (nI 0) (nI 0) (nI 0) (nI 0) (nI 0) M = fX8_spoken_158 m (nI x) (nI y) (nI q) M' := by
  have hn := hl.1
  by_cases hx0 : x = 0
  · subst hx0
    rw [tkN_0, List.nil_append] at hs
    exact r_exB hl hy hq1 (h0.resolve_left (by omega)) (by omega) hs R
  · have hxp : 0 < x := by omega
    rw [tkN_p hxp, List.append_assoc] at hs
    have hv : ∀ t ∈ [30] ++ (tkN y [29] ++ tkN q []), t < 31 := by
      intro t ht
      rcases List.mem_append.mp ht with h | h
      · simp at h; omega
      · rcases List.mem_append.mp h with h | h
        · exact tkN_lt hy (fun t ht => by simp at ht; omega) t h
        · exact tkN_lt hq1 (fun t ht => by cases ht) t h
    have hs1 := suf_step hs (tkB_ne hx hxp) (by simp)
    have hA30 := pre_at (a := [30]) (c := tkN y [29] ++ tkN q []) hs1 (by simp)
    rw [jn_1] at hA30
    have h30 := hA30.1
    rw [len30] at h30
    obtain ⟨best, long, hB, M1, R1, e1⟩ := r_step hl R (p := 0) (a := 0) (b := 0) (c := 0) (k := 0) (f := f + 3) (by omega) (by omega)
    obtain ⟨rfl, rfl⟩ := bst_first (c := [30] ++ (tkN y [29] ++ tkN q [])) hxp hx hv (Or.inr ⟨30, _, rfl, by decide⟩) hs hB
    rw [if_neg (by omega), if_pos ⟨by omega, hA30⟩] at e1
    rw [e1]
    by_cases h00 : y = 0 ∧ q = 0
    · obtain ⟨rfl, rfl⟩ := h00
      have hend := hs1.1
      rw [tkN_0, tkN_0, List.append_nil, List.append_nil, jn_1, len30] at hend
      exact ⟨M1, R1, by rw [r_stop hl R1 (Or.inl (by omega)) (by omega) (by omega)]⟩
    · have hne : ¬ tkN y [29] ++ tkN q [] = [] := by
        intro e
        obtain ⟨e2, e3⟩ := List.append_eq_nil_iff.mp e
        by_cases hy0 : y = 0
        · rw [tkN_p (show 0 < q by omega), List.append_nil] at e3
          exact tkB_ne hq1 (by omega) e3
        · rw [tkN_p (show 0 < y by omega)] at e2
          exact tkB_ne hy (by omega) (List.append_eq_nil_iff.mp e2).1
      have hs2 := suf_step hs1 (by simp) hne
      rw [jn_1, len30] at hs2
      exact r_exB hl hy hq1 (by omega) (by omega) hs2 R1
theorem r_exZ (hl : LnA A n T) {f : Nat} {M : Mem} (hs : Suf T n 0 [0]) (R : RM m A B N M) : ∃ M', RM m A B N M' ∧ fX8_spoken_31 (f + 1) m (nI 0) (nI 0) (nI 0) (nI 0) (nI 0) M = fX8_spoken_158 m (nI 0) (nI 0) (nI 0) M' := by
  have h1 := hs.1
  have hp := jn_pos (ts := [0]) (by simp) (by simp)
  obtain ⟨best, long, hB, M1, R1, e1⟩ := r_step hl R (p := 0) (a := 0) (b := 0) (c := 0) (k := 0) (f := f) (by omega) (by omega)
  have hb : best = 0 := by
    rcases hB.1 with ⟨q, -⟩ | ⟨b0, b1, b2, b3⟩
    · exact q
    · exfalso
      obtain ⟨d, hd⟩ := at_pre hs b3 (tkB_ne b1 b0) (wB_lt b1) (by simp)
      have hne := tkB_ne b1 b0
      have hlt := tkB_lt b1
      cases hB0 : tkB best with
      | nil => exact hne hB0
      | cons t r =>
        rw [hB0] at hd
        injection hd with h3 h4
        have := (hlt t (by rw [hB0]; exact List.mem_cons_self)).1
        omega
  rw [if_pos hb] at e1
  exact ⟨M1, R1, e1⟩
/-- the last step: the number's own words stand in the line, or not -/
theorem r_158 (hl : LnA A n T) {a b c : Nat} {M : Mem} (ha : a < 1000) (hb : b < 1000) (hc : c < 1000) (R : RM m A B N M) : ∃ M', RM m A B N M' ∧ ((Suf T n 0 (tkW (1000000 * a + 1000 * b + c)) ∧ fX8_spoken_158 m (nI a) (nI b) (nI c) M = some (nI (1000000 * a + 1000 * b + c), M')) ∨ (¬ Suf T n 0 (tkW (1000000 * a + 1000 * b + c)) ∧ fX8_spoken_158 m (nI a) (nI b) (nI c) M = some (-1, M'))) := by
  have hn := hl.1
  have hK : 1000000 * a + 1000 * b + c < 10 ^ 9 := by omega
  have e0 : (((1000000 : Int32) * nI a) + ((1000 : Int32) * nI b)) + nI c = nI (1000000 * a + 1000 * b + c) := by
    rw [show (1000000 : Int32) * nI a = nI (1000000 * a) from pk_mul 1000000 a, show (1000 : Int32) * nI b = nI (1000 * b) from pk_mul 1000 b, nI_add, nI_add]
  obtain ⟨M1, e1, K1⟩ := mk_words hK R
  have hlen := len_words hK
  rw [jw_jn (tkW_lt hK)] at K1 hlen
  refine ⟨M1, K1.rm, ?_⟩
  unfold fX8_spoken_158 fX8_spoken_204 fX8_spoken_205
  rw [rm_ck R, Option.bind_some, e0, e1, Option.bind_some, mk_26 K1, Option.bind_some, rm_gN10 K1.rm, Option.bind_some, rm_len hl.2.1 K1.rm, Option.bind_some]
  by_cases hlen2 : (jn (tkW (1000000 * a + 1000 * b + c))).length = n
  · rw [if_pos (by rw [hlen2]), mk_ck K1, Option.bind_some, show (0 : Int32) = nI 0 from rfl, r_isAt hl K1 (by omega) (by omega), Option.bind_some]
    dsimp only
    by_cases hA : At T n 0 (jn (tkW (1000000 * a + 1000 * b + c)))
    · left
      rw [decide_eq_true hA, if_neg (show ¬ bI true = nI 0 by decide)]
      exact ⟨⟨by omega, fun k hk => hA.2.1 k hk⟩, rfl⟩
    · right
      rw [decide_eq_false hA, if_pos (show bI false = nI 0 by decide)]
      refine ⟨fun q => hA ⟨by omega, fun k hk => q.2 k hk, Or.inl (by omega)⟩, rfl⟩
  · right
    rw [if_neg (fun q => hlen2 ((nI_eq (by omega) (by omega)).mp q))]
    exact ⟨fun q => hlen2 (by have := q.1; omega), rfl⟩
theorem p_spoken (hl : LnA A n T) {M : Mem} (R : RM m A B N M) : ∃ M', RM m A B N M' ∧ ((∃ K, K < 10 ^ 9 ∧ Suf T n 0 (tkW K) ∧ fX8_spoken m M = some (nI K, M')) ∨ ((∀ K, K < 10 ^ 9 → ¬ Suf T n 0 (tkW K)) ∧ fX8_spoken m M = some (-1, M'))) := by
  have hn := hl.1
  obtain ⟨M1, e1, R1⟩ := rm_code R 0
  unfold fX8_spoken
  rw [e1, Option.bind_some, rm_gN10 R1, Option.bind_some, rm_len hl.2.1 R1, Option.bind_some]
  by_cases h0 : n = 0
  · rw [h0, if_pos (show nI 0 = 0 by decide)]
    refine ⟨M1, R1, Or.inr ⟨fun K hK hs => ?_, rfl⟩⟩
    have hp : 0 < (jn (tkW K)).length := by
      refine jn_pos (fun q => ?_) (tkW_lt hK)
      have e := mf_tkW hK
      rw [q] at e
      have e' : 0 = K := e
      rw [← e'] at q
      cases q
    have := hs.1
    omega
  · rw [if_neg (nI_ne0 (by omega) (by omega))]
    have fu : FU = 99996 + 4 := rfl
    by_cases hex : ∃ K, K < 10 ^ 9 ∧ Suf T n 0 (tkW K)
    · obtain ⟨K, hK, hs⟩ := hex
      have run : ∃ M', RM m A B N M' ∧ fX8_spoken_31 FU m (nI 0) (nI 0) (nI 0) (nI 0) (nI 0) M1 = fX8_spoken_158 m (nI (K / 1000000)) (nI (K / 1000 % 1000)) (nI (K % 1000)) M' := by
        rw [fu]
        by_cases hK0 : K = 0
        · subst hK0
          exact r_exZ hl hs R1
        · have hs' := hs
          unfold tkW at hs'
          rw [if_neg hK0] at hs'
          exact r_exA hl (by omega) (by omega) (by omega) (by omega) hs' R1
      obtain ⟨M2, R2, e2⟩ := run
      obtain ⟨M3, R3, e3⟩ := r_158 hl (a := K / 1000000) (b := K / 1000 % 1000) (c := K % 1000) (by omega) (by omega) (by omega) R2
      rw [show 1000000 * (K / 1000000) + 1000 * (K / 1000 % 1000) + K % 1000 = K by omega] at e3
      refine ⟨M3, R3, Or.inl ⟨K, hK, hs, ?_⟩⟩
      rcases e3 with ⟨-, e3⟩ | ⟨q, -⟩
      · rw [← e3, ← e2]
        rfl
      · exact absurd hs q
    · obtain ⟨a, b, c, M2, ha, hb, hc, R2, e2⟩ := r_loop hl 3 0 0 0 0 0 FU M1 (by decide) (by unfold FU; omega) (by decide) (by decide) (by decide) (by decide) R1
      obtain ⟨M3, R3, e3⟩ := r_158 hl ha hb hc R2
      refine ⟨M3, R3, Or.inr ⟨fun K hK hs => hex ⟨K, hK, hs⟩, ?_⟩⟩
      rcases e3 with ⟨q, -⟩ | ⟨-, e3⟩
      · exact absurd ⟨_, by omega, q⟩ hex
      · rw [← e3, ← e2]
        rfl
end RSPK2
