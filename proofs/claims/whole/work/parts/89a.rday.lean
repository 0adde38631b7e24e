/-! ===== the reference writes days ===== -/
theorem dayN_1 {y mo : Nat} : dayN 1 mo y = befN y + sumN y (mo - 1) 1 := by
  unfold dayN befN
  omega
section RDAYW
variable {m : Nat} {A : Nat → Nat → Int32} {B : Nat → Nat → Int64} {N : Mem}
theorem mk_dig {x k : Nat} (hx : x < 2 ^ 30) (hk : 1 ≤ k) (hk9 : k ≤ 9) (L : List Int32) (M : Mem) (hl : L.length + k < 150) (hM : MK m A B N L M) : ∃ M', fX8_sayDigits m (nI x) (nI k) M = some M' ∧ MK m A B N (L ++ dgL x k) M' := by
  have l25 : ∀ (i j f : Nat) (L : List Int32) (M : Mem), j + i = k → i < f → L.length + i < 150 → MK m A B N L M → ∃ M', fX8_sayDigits_25 f m (nI x) (nI k) (nI (10 ^ i / 10)) (nI j) M = some M' ∧ MK m A B N (L ++ dgL x i) M' := by
    intro i
    induction i with
    | zero =>
      intro j f L M hj hf hlen hM
      obtain ⟨f, rfl⟩ : ∃ g, f = g + 1 := ⟨f - 1, by omega⟩
      refine ⟨M, ?_, by rw [dgL, List.append_nil]; exact hM⟩
      rw [fX8_sayDigits_25, if_pos (nI_le (by omega) (by omega))]
    | succ i ih =>
      intro j f L M hj hf hlen hM
      obtain ⟨f, rfl⟩ : ∃ g, f = g + 1 := ⟨f - 1, by omega⟩
      have hu : 10 ^ (i + 1) / 10 = 10 ^ i := by
        rw [Nat.pow_succ]
        exact Nat.mul_div_cancel _ (by decide)
      have hup : 0 < 10 ^ i := Nat.pow_pos (by decide)
      have hu9 : 10 ^ i ≤ 10 ^ 9 := Nat.pow_le_pow_right (by decide) (by omega)
      have hdz : dzI (nI (10 ^ i)) = some () := by
        unfold dzI
        rw [if_neg (nI_ne0 hup (by omega))]
      have hd1 : nI x / nI (10 ^ i) = nI (x / 10 ^ i) := pk_div (by omega) hup (by omega)
      have hr : rmI (nI (x / 10 ^ i)) 10 = nI (x / 10 ^ i % 10) := rmI_nI (d := 10) (by have := Nat.div_le_self x (10 ^ i); omega) (by decide) (by decide)
      have h48 : (48 : Int32) + nI (x / 10 ^ i % 10) = nI (48 + x / 10 ^ i % 10) := nI_add 48 _
      have hdv : nI (10 ^ i) / 10 = nI (10 ^ i / 10) := pk_div (d := 10) (by omega) (by decide) (by decide)
      obtain ⟨M1, q1, h1⟩ := mk_say hM (by omega) (nI (48 + x / 10 ^ i % 10))
      obtain ⟨M', r1, r2⟩ := ih (j + 1) f _ M1 (by omega) (by omega) (by rw [List.length_append]; simp only [List.length_singleton]; omega) h1
      refine ⟨M', ?_, ?_⟩
      · rw [fX8_sayDigits_25, if_neg (nI_ge (by omega) (by omega)), hu, hdz, Option.bind_some, mk_ck hM, Option.bind_some, hd1, hr, h48, q1, Option.bind_some, hdv, nI_1, r1]
      · rw [List.append_assoc] at r2
        exact r2
  have l5 : ∀ (e j f : Nat), j + e = k → e < f → 1 ≤ j → fX8_sayDigits_5 f m (nI x) (nI k) (nI (10 ^ (j - 1))) (nI j) M = fX8_sayDigits_25 FU m (nI x) (nI k) (nI (10 ^ (k - 1))) 0 M := by
    intro e
    induction e with
    | zero =>
      intro j f hj hf h1
      obtain ⟨f, rfl⟩ : ∃ g, f = g + 1 := ⟨f - 1, by omega⟩
      rw [fX8_sayDigits_5, if_pos (nI_le (by omega) (by omega)), show j = k by omega]
    | succ e ih =>
      intro j f hj hf h1
      obtain ⟨f, rfl⟩ : ∃ g, f = g + 1 := ⟨f - 1, by omega⟩
      have e10 : nI (10 ^ (j - 1)) * 10 = nI (10 ^ (j + 1 - 1)) := by
        rw [show nI (10 ^ (j - 1)) * 10 = nI (10 ^ (j - 1) * 10) from pk_mul _ 10, ← Nat.pow_succ, show (j - 1).succ = j + 1 - 1 by omega]
      rw [fX8_sayDigits_5, if_neg (nI_ge (by omega) (by omega)), nI_1, e10, ih (j + 1) f (by omega) (by omega) (by omega)]
  obtain ⟨M', q1, q2⟩ := l25 k 0 FU L M (by omega) (by unfold FU; omega) hl hM
  refine ⟨M', ?_, q2⟩
  have e0 : 10 ^ k / 10 = 10 ^ (k - 1) := by
    rw [show k = (k - 1) + 1 by omega, Nat.pow_succ, Nat.mul_div_cancel _ (by decide), Nat.add_sub_cancel]
  rw [e0] at q1
  unfold fX8_sayDigits
  have := l5 (k - 1) 1 FU (by omega) (by unfold FU; omega) (by decide)
  have t2 : fX8_sayDigits_5 FU m (nI x) (nI k) 1 1 M = _ := this
  rw [t2]
  exact q1
theorem p_makeDay {l x : Nat} (hl : l < 24) (hv : L8Ok (lnd A l)) (hx : x ≤ 3652058) {y mo : Nat} (hY : YOk x y) (hMo : MOk y (x - befN y) mo) (M : Mem) (hM : MK m A B N [] M) : ∃ M', fX8_makeDay m (nI l) (lN x) M = some (1, M') ∧ MK m A B N (dayL (lnd A l) y mo (x - befN y - sumN y (mo - 1) 1 + 1)) M' := by
  obtain ⟨y1, y2, y3, y4⟩ := hY
  obtain ⟨m1, m2, m3, m4⟩ := hMo
  have a8 : ∀ {L : List Int32} {M : Mem}, MK m A B N L M → aI M (m + 8) (nI l) = some (A 8 l) := fun h => rm_aI (by decide) (by decide) rfl (by decide) hl h.rm
  have a9 : ∀ {L : List Int32} {M : Mem}, MK m A B N L M → aI M (m + 9) (nI l) = some (A 9 l) := fun h => rm_aI (by decide) (by decide) rfl (by decide) hl h.rm
  have dn : ∀ (d m2 y2 : Nat) (M : Mem), 1 ≤ d → d < 2 ^ 31 → 1 ≤ m2 → m2 < 2 ^ 16 → 1 ≤ y2 → y2 < 2 ^ 16 → fX8_dayNumber (nI d) (nI m2) (nI y2) M = some (lN (dayN d m2 y2), M) := fun d m2 y2 M h1 h2 h3 h4 h5 h6 => e_dayNumber h1 h2 h3 h4 h5 h6 M
  have hd0 : befN y + sumN y (mo - 1) 1 ≤ x := by omega
  generalize hd : x - befN y - sumN y (mo - 1) 1 = d0
  have hdx : d0 < 2 ^ 29 := by omega
  -- the text
  have s92 : ∃ M', fX8_makeDay_92 m (nI l) (lN x) (nI y) (nI mo) M = some (1, M') ∧ MK m A B N (dayL (lnd A l) y mo (d0 + 1)) M' := by
    have e1 := dn 1 mo y M (by decide) (by decide) m1 (by omega) y1 (by omega)
    have e1' : fX8_dayNumber 1 (nI mo) (nI y) M = some (lN (dayN 1 mo y), M) := e1
    have ed : (lN x - lN (dayN 1 mo y)).toInt32 + 1 = nI (d0 + 1) := by
      rw [lN_sub (by rw [dayN_1]; omega), lN_i, dayN_1, show x - (befN y + sumN y (mo - 1) 1) = d0 by omega, nI_1]
    unfold fX8_makeDay_92
    rw [e1', Option.bind_some, ed]
    dsimp only
    rw [rm_gN8 hM.rm, Option.bind_some, a8 hM, Option.bind_some]
    unfold dayL
    have e8 : (lnd A l).2.2.2.2.2.2.1 = A 8 l := rfl
    have e9 : (lnd A l).2.2.2.2.2.2.2 = A 9 l := rfl
    rw [e8, e9]
    have sg : ∀ (L : List Int32) (M : Mem), L.length < 100 → MK m A B N L M → ∃ M', fX8_say m (A 9 l) M = some M' ∧ MK m A B N (L ++ [A 9 l]) M' := fun L M hl h => mk_say h (by omega) _
    have app : ∀ (L : List Int32) (k x : Nat), (L ++ dgL x k).length = L.length + k := fun L k x => by rw [List.length_append, dgL_len]
    have app1 : ∀ (L : List Int32) (c : Int32), (L ++ [c]).length = L.length + 1 := fun L c => by rw [List.length_append]; rfl
    by_cases h2 : A 8 l = 2
    · rw [if_pos h2]
      obtain ⟨M1, q1, h1⟩ := mk_dig (x := y) (k := 4) (by omega) (by decide) (by decide) [] M (by decide) hM
      have z1 : ([] ++ dgL y 4).length = 4 := by rw [app]; rfl
      obtain ⟨M2, q2, h2'⟩ := sg _ M1 (by omega) h1
      have z2 : ([] ++ dgL y 4 ++ [A 9 l]).length = 5 := by rw [app1, z1]
      obtain ⟨M3, q3, h3⟩ := mk_dig (x := mo) (k := 2) (by omega) (by decide) (by decide) _ M2 (by omega) h2'
      have z3 : ([] ++ dgL y 4 ++ [A 9 l] ++ dgL mo 2).length = 7 := by rw [app, z2]
      obtain ⟨M4, q4, h4⟩ := sg _ M3 (by omega) h3
      have z4 : ([] ++ dgL y 4 ++ [A 9 l] ++ dgL mo 2 ++ [A 9 l]).length = 8 := by rw [app1, z3]
      obtain ⟨M5, q5, h5⟩ := mk_dig (x := d0 + 1) (k := 2) (by omega) (by decide) (by decide) _ M4 (by omega) h4
      have q1' : fX8_sayDigits m (nI y) 4 M = some M1 := q1
      have q3' : fX8_sayDigits m (nI mo) 2 M2 = some M3 := q3
      have q5' : fX8_sayDigits m (nI (d0 + 1)) 2 M4 = some M5 := q5
      refine ⟨M5, ?_, ?_⟩
      · rw [mk_ck hM, Option.bind_some, q1', Option.bind_some, rm_gN9 h1.rm, Option.bind_some, a9 h1, Option.bind_some, mk_ck h1, Option.bind_some, q2, Option.bind_some, mk_ck h2', Option.bind_some, q3', Option.bind_some, rm_gN9 h3.rm, Option.bind_some, a9 h3, Option.bind_some, mk_ck h3, Option.bind_some, q4, Option.bind_some, mk_ck h4, Option.bind_some, q5', Option.bind_some, nz1]
        rfl
      · rw [h2]
        simp only [List.append_assoc, List.cons_append, List.nil_append] at h5 ⊢
        exact h5
    · rw [if_neg h2, Option.bind_some, a8 hM, Option.bind_some]
      have body : ∀ a b : Nat, a < 2 ^ 30 → b < 2 ^ 30 → ∃ M', MK m A B N (dgL a 2 ++ (A 9 l :: (dgL b 2 ++ (A 9 l :: dgL y 4)))) M' ∧ ∃ M2, MK m A B N (dgL a 2 ++ [A 9 l]) M2 ∧ (∀ c d : Int32, fX8_makeDay_177 m (nI l) (nI y) c d (nI a) m M = if A 8 l = 0 then fX8_makeDay_208 m (nI l) (nI y) c m M2 else fX8_makeDay_208 m (nI l) (nI y) d m M2) ∧ fX8_makeDay_208 m (nI l) (nI y) (nI b) m M2 = some (1, M') := by
        intro a b ha hb
        obtain ⟨M1, q1, h1⟩ := mk_dig (x := a) (k := 2) ha (by decide) (by decide) [] M (by decide) hM
        have z1 : ([] ++ dgL a 2).length = 2 := by rw [app]; rfl
        obtain ⟨M2, q2, h2'⟩ := sg _ M1 (by omega) h1
        have z2 : ([] ++ dgL a 2 ++ [A 9 l]).length = 3 := by rw [app1, z1]
        obtain ⟨M3, q3, h3⟩ := mk_dig (x := b) (k := 2) hb (by decide) (by decide) _ M2 (by omega) h2'
        have z3 : ([] ++ dgL a 2 ++ [A 9 l] ++ dgL b 2).length = 5 := by rw [app, z2]
        obtain ⟨M4, q4, h4⟩ := sg _ M3 (by omega) h3
        have z4 : ([] ++ dgL a 2 ++ [A 9 l] ++ dgL b 2 ++ [A 9 l]).length = 6 := by rw [app1, z3]
        obtain ⟨M5, q5, h5⟩ := mk_dig (x := y) (k := 4) (by omega) (by decide) (by decide) _ M4 (by omega) h4
        have q1' : fX8_sayDigits m (nI a) 2 M = some M1 := q1
        have q3' : fX8_sayDigits m (nI b) 2 M2 = some M3 := q3
        have q5' : fX8_sayDigits m (nI y) 4 M4 = some M5 := q5
        refine ⟨M5, ?_, M2, h2', fun c d => ?_, ?_⟩
        · simp only [List.append_assoc, List.cons_append, List.nil_append] at h5 ⊢
          exact h5
        · unfold fX8_makeDay_177
          rw [mk_ck hM, Option.bind_some, q1', Option.bind_some, rm_gN9 h1.rm, Option.bind_some, a9 h1, Option.bind_some, mk_ck h1, Option.bind_some, q2, Option.bind_some, rm_gN8 h2'.rm, Option.bind_some, a8 h2', Option.bind_some]
        · unfold fX8_makeDay_208
          rw [mk_ck h2', Option.bind_some, q3', Option.bind_some, rm_gN9 h3.rm, Option.bind_some, a9 h3, Option.bind_some, mk_ck h3, Option.bind_some, q4, Option.bind_some, mk_ck h4, Option.bind_some, q5', Option.bind_some, nz1]
          rfl
      rcases hv.2.2.2.2.2.1 with ho | ho | ho
      · have ho : A 8 l = 0 := ho
        obtain ⟨M', b1, M2, -, b3, b4⟩ := body (d0 + 1) mo (by omega) (by omega)
        refine ⟨M', ?_, ?_⟩
        · rw [if_pos ho, b3, if_pos ho, b4]
        · rw [ho]; exact b1
      · have ho : A 8 l = 1 := ho
        obtain ⟨M', b1, M2, -, b3, b4⟩ := body mo (d0 + 1) (by omega) (by omega)
        refine ⟨M', ?_, ?_⟩
        · rw [if_neg (by rw [ho]; decide), b3, if_neg (by rw [ho]; decide), b4]
        · rw [ho]; exact b1
      · exact absurd ho h2
  obtain ⟨M', r1, r2⟩ := s92
  refine ⟨M', ?_, r2⟩
  -- the month
  have s64 : ∀ (e j f : Nat), j + e = mo → e < f → 1 ≤ j → fX8_makeDay_64 f m (nI l) (lN x) (nI y) (nI j) M = some (1, M') := by
    have smono : ∀ a b, a ≤ b → sumN y a 1 ≤ sumN y b 1 := by
      intro a b hab
      induction b with
      | zero => rw [show a = 0 by omega]; exact Nat.le_refl _
      | succ b ih =>
        by_cases he : a = b + 1
        · rw [he]; exact Nat.le_refl _
        · have := ih (by omega)
          rw [sumN_last]
          omega
    intro e
    induction e with
    | zero =>
      intro j f hj hf h1
      obtain ⟨f, rfl⟩ : ∃ g, f = g + 1 := ⟨f - 1, by omega⟩
      have hjm : j = mo := by omega
      subst hjm
      rw [fX8_makeDay_64]
      by_cases h12 : j = 12
      · rw [if_pos (by rw [h12]; decide), r1]
      · have e1 : fX8_dayNumber 1 (nI (j + 1)) (nI y) M = some (lN (dayN 1 (j + 1) y), M) := dn 1 (j + 1) y M (by decide) (by decide) (by omega) (by omega) y1 (by omega)
        have hlt := m4.resolve_left h12
        rw [if_neg (li_nge 12 j 12 rfl (by omega) (by decide)), nI_1, e1, Option.bind_some]
        dsimp only
        rw [dayN_1, Nat.add_sub_cancel, if_pos ((cmp_gt _ _).mpr ((pk_lLT (by omega) (by have := sumN_le y j 1; have : befN y ≤ x := y3; omega)).mpr (by omega))), r1]
    | succ e ih =>
      intro j f hj hf h1
      obtain ⟨f, rfl⟩ : ∃ g, f = g + 1 := ⟨f - 1, by omega⟩
      have e1 : fX8_dayNumber 1 (nI (j + 1)) (nI y) M = some (lN (dayN 1 (j + 1) y), M) := dn 1 (j + 1) y M (by decide) (by decide) (by omega) (by omega) y1 (by omega)
      have hle := smono j (mo - 1) (by omega)
      rw [fX8_makeDay_64, if_neg (li_nge 12 j 12 rfl (by omega) (by decide)), nI_1, e1, Option.bind_some]
      dsimp only
      rw [dayN_1, Nat.add_sub_cancel, if_neg (fun q => by have := (pk_lLT (by omega) (by omega)).mp ((cmp_gt _ _).mp q); omega)]
      exact ih (j + 1) f (by omega) (by omega) (by omega)
  -- the year
  have s33 : ∀ (e j f : Nat), j + e = y → e < f → 1 ≤ j → fX8_makeDay_33 f m (nI l) (lN x) (nI j) M = some (1, M') := by
    have fin : fX8_makeDay_61 m (nI l) (lN x) (nI y) M = some (1, M') := by
      unfold fX8_makeDay_61
      exact s64 (mo - 1) 1 FU (by omega) (by unfold FU; omega) (by decide)
    intro e
    induction e with
    | zero =>
      intro j f hj hf h1
      obtain ⟨f, rfl⟩ : ∃ g, f = g + 1 := ⟨f - 1, by omega⟩
      have hjm : j = y := by omega
      subst hjm
      rw [fX8_makeDay_33]
      by_cases h99 : j = 9999
      · rw [if_pos (by rw [h99]; decide), fin]
      · have e1 : fX8_dayNumber 1 1 (nI (j + 1)) M = some (lN (dayN 1 1 (j + 1)), M) := dn 1 1 (j + 1) M (by decide) (by decide) (by decide) (by decide) (by omega) (by omega)
        have hb : befN (j + 1) < 2 ^ 40 := by unfold befN; omega
        rw [if_neg (li_nge 9999 j 9999 rfl (by omega) (by decide)), nI_1, e1, Option.bind_some]
        dsimp only
        rw [dayN_1]
        simp only [Nat.sub_self, sumN, Nat.add_zero]
        rw [if_pos ((cmp_gt _ _).mpr ((pk_lLT (by omega) (by omega)).mpr y4)), fin]
    | succ e ih =>
      intro j f hj hf h1
      obtain ⟨f, rfl⟩ : ∃ g, f = g + 1 := ⟨f - 1, by omega⟩
      have e1 : fX8_dayNumber 1 1 (nI (j + 1)) M = some (lN (dayN 1 1 (j + 1)), M) := dn 1 1 (j + 1) M (by decide) (by decide) (by decide) (by decide) (by omega) (by omega)
      have hle := bef_mono (a := j + 1) (b := y) (by omega) (by omega)
      rw [fX8_makeDay_33, if_neg (li_nge 9999 j 9999 rfl (by omega) (by decide)), nI_1, e1, Option.bind_some]
      dsimp only
      rw [dayN_1]
      simp only [Nat.sub_self, sumN, Nat.add_zero]
      rw [if_neg (fun q => by have := (pk_lLT (by omega) (by omega)).mp ((cmp_gt _ _).mp q); omega)]
      exact ih (j + 1) f (by omega) (by omega) (by omega)
  unfold fX8_makeDay
  have e31 : fX8_dayNumber 31 12 9999 M = some (lN (dayN 31 12 9999), M) := dn 31 12 9999 M (by decide) (by decide) (by decide) (by decide) (by decide) (by decide)
  have e32 : dayN 31 12 9999 = 3652058 := by decide
  rw [if_neg (fun q => lN_nn (by omega) ((cmp_lt _ _).mp q)), e31, Option.bind_some]
  dsimp only
  rw [e32, if_pos ((cmp_le _ _).mpr (fun q => by have := (pk_lLT (by decide) (by omega)).mp q; omega))]
  rw [show lN x / 366 = lN (x / 366) from pk_lDiv (b := 366) (by omega) (by decide) (by decide), lN_i, nI_1]
  have hy0 : x / 366 + 1 ≤ y := by
    rcases Nat.lt_or_ge y (x / 366 + 1) with q | q
    · exfalso
      have h1 := bef_mono (a := y + 1) (b := x / 366 + 1) (by omega) q
      have h2 : befN (x / 366 + 1) ≤ x := by
        unfold befN
        rw [Nat.add_sub_cancel]
        omega
      omega
    · exact q
  exact s33 (y - (x / 366 + 1)) (x / 366 + 1) FU (by omega) (by unfold FU; omega) (by omega)
end RDAYW
