/-! ===== words ===== -/
section CWSTEP
variable {z : Nat} {kc : KC} {σ : Sg} {im : Nat → Option (Nat × Sg)} {M : Mem}
theorem words_in {x : Int32} (h1 : ¬ x < 0) (h2 : ¬ (999999999 : Int32) < x) : ∃ K, K < 10 ^ 9 ∧ x = nI K := by
  obtain ⟨K, hK, rfl⟩ := nI_of h1
  refine ⟨K, ?_, rfl⟩
  rcases Nat.lt_or_ge K (10 ^ 9) with q | q
  · exact q
  · exact absurd (li_gt 999999999 K 999999999 rfl (by omega) hK) h2
theorem le_nlt {x y : Int32} (h : x ≤ y) : ¬ y < x := by
  rw [Int32.lt_iff_toInt_lt]
  rw [Int32.le_iff_toInt_le] at h
  omega
theorem nle_lt {x y : Int32} (h : ¬ x ≤ y) : y < x := by
  rw [Int32.lt_iff_toInt_lt]
  rw [Int32.le_iff_toInt_le] at h
  omega
theorem step_words (h : INV z kc σ im M) (hS : StrOk M.2.2) (x : Int32) : Step z kc (fX7_words z x) (fX8_words (z + 18) x) M := by
  have hc := h.2.1
  have hok := co_ok hc
  have hsh := co_sh hc
  have hm := hc.1
  have no : (¬ (¬ x < 0 ∧ ¬ (999999999 : Int32) < x)) → fX7_words z x M = some (-1, M) → Step z kc (fX7_words z x) (fX8_words (z + 18) x) M := by
    intro hn c
    refine step_of h c (Cl.of (Chg.rf 0 0 M) hc.1 (by omega)) hc (fun A B hR hO => ?_)
    obtain ⟨M2, e1, R1⟩ := rm_code hR 0
    refine ⟨A, B, M2, ?_, R1, hO⟩
    unfold fX8_words
    rw [e1, Option.bind_some, e_in, Option.bind_some]
    dsimp only
    rw [if_neg hn, if_pos rfl]
  by_cases h0 : x < 0
  · refine no (fun q => q.1 h0) ?_
    unfold fX7_words fX7_words_10
    rw [if_pos h0]
  · by_cases h9 : x ≤ 999999999
    · obtain ⟨K, hK, rfl⟩ := words_in h0 (le_nlt h9)
      obtain ⟨M1, q1, q2⟩ := c_words hS hsh.2.2.1 hK
      have hlen := len_words hK
      have hby := jw_byt (tkW_lt hK) [] (fun c hc => by cases hc)
      have hc' := co_shown hc q2.1 (q2.2.wide (by omega) (by omega)) (fun k hk => hby _ (lf_mem hk))
      have c : fX7_words z (nI K) M = some (nI (jw [] (tkW K)).length, M1) := by
        unfold fX7_words
        rw [if_neg h0, if_pos h9, co_g0 hc, Option.bind_some, cs_g1 hsh, Option.bind_some, q1, Option.bind_some, co_g0 hc', Option.bind_some, cs_g1 (co_sh hc'), Option.bind_some, tx_ck q2.1, Option.bind_some, tx_len q2.1, Option.bind_some]
      refine step_of h c (Cl.of q2.2 hc.1 (by omega)) hc' (fun A B hR hO => ?_)
      obtain ⟨M2, e1, R1⟩ := rm_code hR 0
      obtain ⟨M3, e2, K2⟩ := mk_words hK R1
      obtain ⟨M4, A', k1, k2, k3, k4, k5, k6, k7⟩ := p_keep (by omega) K2
      refine ⟨A', B, M4, ?_, k2, ro_shown hO k3 k4 k5 k6 k7⟩
      unfold fX8_words
      rw [e1, Option.bind_some, e_in, Option.bind_some]
      dsimp only
      rw [if_pos (show ¬ nI K < 0 ∧ ¬ (999999999 : Int32) < nI K from ⟨h0, le_nlt h9⟩), if_neg (show ¬ (1 : Int32) = 0 by decide), rm_ck R1, Option.bind_some, e2, Option.bind_some, mk_ck K2, Option.bind_some, k1, Option.bind_some]
    · refine no (fun q => q.2 (nle_lt h9)) ?_
      unfold fX7_words fX7_words_10
      rw [if_neg h0, if_neg h9]
end CWSTEP
