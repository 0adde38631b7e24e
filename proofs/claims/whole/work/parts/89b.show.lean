/-! ===== what is written, and by whom it is refused; show, other ===== -/
theorem d_uniq {w D D' : Nat} (h : DOk w D) (h' : DOk w D') : D = D' := by
  obtain ⟨a1, a2, a3, a4⟩ := h
  obtain ⟨b1, b2, b3, b4⟩ := h'
  rcases Nat.lt_trichotomy D D' with q | q | q
  · exfalso
    have h1 : 10 ^ (D' - 1) ≤ w := b4.resolve_left (by omega)
    have h2 : 10 ^ D ≤ 10 ^ (D' - 1) := Nat.pow_le_pow_right (by decide) (by omega)
    omega
  · exact q
  · exfalso
    have h1 : 10 ^ (D - 1) ≤ w := a4.resolve_left (by omega)
    have h2 : 10 ^ D' ≤ 10 ^ (D - 1) := Nat.pow_le_pow_right (by decide) (by omega)
    omega
def WD (v : L8) (value : Int64) (L : List Int32) : Prop := ∃ x y mo, value = lN x ∧ x ≤ 3652058 ∧ YOk x y ∧ MOk y (x - befN y) mo ∧ L = dayL v y mo (x - befN y - sumN y (mo - 1) 1 + 1)
def WA (v : L8) (kd : Int32) (value : Int64) (n : Int32) (L : List Int32) : Prop := ∃ V k D, ∃ neg : Bool, n = nI k ∧ k ≤ 6 ∧ value = (if neg = true then - lN V else lN V) ∧ V ≤ 999999999999999 ∧ (neg = true → 0 < V) ∧ rndN V k ≤ 999999999999999 ∧ DOk (rndN V k / 10 ^ 6) D ∧ L = amtL v (decide (kd = 1)) (neg && decide (0 < rndN V k)) (rndN V k / 10 ^ 6) (rndN V k) k D
def WR (v : L8) (kd : Int32) (value : Int64) (n : Int32) (L : List Int32) : Prop := (kd = 2 ∧ WD v value L) ∨ ((kd = 0 ∨ kd = 1) ∧ WA v kd value n L)
theorem val_dec {value : Int64} (h1 : ¬ value < -999999999999999) (h2 : ¬ (999999999999999 : Int64) < value) : ∃ V, ∃ neg : Bool, value = (if neg = true then - lN V else lN V) ∧ V ≤ 999999999999999 ∧ (neg = true → 0 < V) := by
  rw [Int64.lt_iff_toInt_lt] at h1 h2
  have h3 : (999999999999999 : Int64).toInt = 999999999999999 := by decide
  have h4 : (-999999999999999 : Int64).toInt = -999999999999999 := by decide
  rw [h4] at h1
  rw [h3] at h2
  by_cases hn : value.toInt < 0
  · refine ⟨(- value.toInt).toNat, true, ?_, by omega, fun _ => by omega⟩
    rw [if_pos rfl]
    apply Int64.toInt_inj.mp
    have h5 : (lN (- value.toInt).toNat).toInt = (((- value.toInt).toNat : Nat) : Int) := pk_lT (by omega)
    rw [Int64.toInt_neg, h5, Int.bmod_eq_of_le (by omega) (by omega)]
    omega
  · refine ⟨value.toInt.toNat, false, ?_, by omega, fun q => by cases q⟩
    rw [if_neg (by decide)]
    apply Int64.toInt_inj.mp
    have h5 : (lN value.toInt.toNat).toInt = ((value.toInt.toNat : Nat) : Int) := pk_lT (by omega)
    rw [h5]
    omega
theorem val_neg {V : Nat} {neg : Bool} (hV : V ≤ 999999999999999) : ¬ (if neg = true then - lN V else lN V) < -999999999999999 ∧ ¬ (999999999999999 : Int64) < (if neg = true then - lN V else lN V) := by
  have h1 : (lN V).toInt = (V : Int) := pk_lT (by omega)
  have h3 : (999999999999999 : Int64).toInt = 999999999999999 := by decide
  have h4 : (-999999999999999 : Int64).toInt = -999999999999999 := by decide
  have h2 : (- lN V).toInt = - (V : Int) := by
    rw [Int64.toInt_neg, h1]
    rw [Int.bmod_eq_of_le (by omega) (by omega)]
  cases neg with
  | true =>
    rw [if_pos rfl, Int64.lt_iff_toInt_lt, Int64.lt_iff_toInt_lt, h2, h3, h4]
    omega
  | false =>
    rw [if_neg (by decide), Int64.lt_iff_toInt_lt, Int64.lt_iff_toInt_lt, h1, h3, h4]
    omega
theorem val_pos {V : Nat} {neg : Bool} (hV : ¬ V ≤ 999999999999999) (hb : V < 2 ^ 60) : (if neg = true then - lN V else lN V) < -999999999999999 ∨ (999999999999999 : Int64) < (if neg = true then - lN V else lN V) := by
  have h1 : (lN V).toInt = (V : Int) := pk_lT (by omega)
  have h3 : (999999999999999 : Int64).toInt = 999999999999999 := by decide
  have h4 : (-999999999999999 : Int64).toInt = -999999999999999 := by decide
  have h2 : (- lN V).toInt = - (V : Int) := by
    rw [Int64.toInt_neg, h1]
    rw [Int.bmod_eq_of_le (by omega) (by omega)]
  cases neg with
  | true =>
    rw [if_pos rfl, Int64.lt_iff_toInt_lt, Int64.lt_iff_toInt_lt, h2, h3, h4]
    omega
  | false =>
    rw [if_neg (by decide), Int64.lt_iff_toInt_lt, Int64.lt_iff_toInt_lt, h1, h3, h4]
    omega
theorem e_isAmount (value : Int64) (M : Mem) : fX7_isAmount value M = some (bI (decide (¬ value < -999999999999999 ∧ ¬ (999999999999999 : Int64) < value)), M) := by
  unfold fX7_isAmount fX7_isAmount_20 fX7_isAmount_21
  rw [nz0, nz1]
  by_cases h1 : value < -999999999999999
  · rw [if_pos ((cmp_lt _ _).mpr h1)]; simp [h1, bI]
  · rw [if_neg (fun q => h1 ((cmp_lt _ _).mp q))]
    by_cases h2 : (999999999999999 : Int64) < value
    · rw [if_pos ((cmp_gt _ _).mpr h2)]; simp [h2, bI]
    · rw [if_neg (fun q => h2 ((cmp_gt _ _).mp q)), decide_eq_true (show ¬ value < -999999999999999 ∧ ¬ (999999999999999 : Int64) < value from ⟨h1, h2⟩)]; rfl
section SHOWC
variable {t la : Nat} {v : L8} {M0 : Mem}
/-- the class writes a value, or refuses it -/
theorem c_write (hK : LenOk M0) (h : LA t la v M0) (hv : L8Ok v) {n0 : Nat} {L0 : Nat → Int32} (hT : TX t 100 n0 L0 M0) (kd n : Int32) (value : Int64) : (∃ L M', WR v kd value n L ∧ fX7_writeValue t (some la) kd value n M0 = some (nI L.length, M') ∧ CW t M0 L M') ∨ ((∀ L, ¬ WR v kd value n L) ∧ fX7_writeValue t (some la) kd value n M0 = some (-1, M0)) := by
  unfold fX7_writeValue fX7_writeValue_25 fX7_writeValue_67
  simp only [Option.elim]
  by_cases k2 : kd = 2
  · rw [if_pos k2]
    have hno : (∀ L, ¬ WD v value L) → ∀ L, ¬ WR v kd value n L := by
      rintro hn L (⟨-, q⟩ | ⟨q, -⟩)
      · exact hn L q
      · rw [k2] at q; rcases q with q | q <;> exact absurd q (by decide)
    by_cases h0 : value < 0
    · rw [if_pos ((cmp_lt _ _).mpr h0)]
      refine Or.inr ⟨hno ?_, rfl⟩
      rintro L ⟨x, y, mo, rfl, hx, -⟩
      exact lN_nn (by omega) h0
    · rw [if_neg (fun q => h0 ((cmp_lt _ _).mp q))]
      obtain ⟨x, hx, rfl⟩ := pk_lOf h0
      have h58 : lg_cmp (lN x) 3652058 ≤ 0 ↔ x ≤ 3652058 := by
        rw [cmp_le]
        have h1 : (3652058 : Int64) < lN x ↔ 3652058 < x := pk_lLT (a := 3652058) (by decide) hx
        rw [h1]
        omega
      by_cases hx2 : x ≤ 3652058
      · rw [if_pos (h58.mpr hx2), lN_i]
        obtain ⟨y, mo, M', h1, h2, h3, h4⟩ := cw_day hx2 hK h hT
        refine Or.inl ⟨_, M', Or.inl ⟨k2, x, y, mo, rfl, hx2, h1, h2, rfl⟩, ?_, h4⟩
        rw [h3, Option.bind_some, tx_ck h4.1, Option.bind_some, tx_len h4.1, Option.bind_some]
      · rw [if_neg (fun q => hx2 (h58.mp q))]
        refine Or.inr ⟨hno ?_, rfl⟩
        rintro L ⟨x', y, mo, e, hx', -⟩
        have := (pk_lEQ hx (by omega)).mp e
        omega
  · rw [if_neg k2]
    have hno : (∀ L, ¬ WA v kd value n L) → ∀ L, ¬ WR v kd value n L := by
      rintro hn L (⟨q, -⟩ | ⟨-, q⟩)
      · exact k2 q
      · exact hn L q
    have go : (kd = 0 ∨ kd = 1) → (∃ L M', WR v kd value n L ∧ fX7_writeValue_48 t la kd value n M0 = some (nI L.length, M') ∧ CW t M0 L M') ∨ ((∀ L, ¬ WR v kd value n L) ∧ fX7_writeValue_48 t la kd value n M0 = some (-1, M0)) := by
      intro k01
      unfold fX7_writeValue_48 fX7_writeValue_67
      by_cases n0 : n < 0
      · rw [if_pos n0]
        refine Or.inr ⟨hno ?_, rfl⟩
        rintro L ⟨V, k, D, neg, rfl, hk, -⟩
        exact nI_pos (by omega) n0
      · obtain ⟨k, hk, rfl⟩ := nI_of n0
        rw [if_neg n0]
        by_cases hk6 : k ≤ 6
        · rw [if_neg (li_ngt 6 k 6 rfl hk6 (by decide)), e_isAmount, Option.bind_some]
          dsimp only
          by_cases ha : ¬ value < -999999999999999 ∧ ¬ (999999999999999 : Int64) < value
          · rw [decide_eq_true ha, if_neg (by decide)]
            obtain ⟨V, neg, rfl, hV, hneg⟩ := val_dec ha.1 ha.2
            rw [e_rounded (by omega) hk6 neg hneg, Option.bind_some]
            dsimp only
            rw [e_isAmount, Option.bind_some]
            dsimp only
            have hpow : 10 ^ (6 - k) ≤ 10 ^ 6 := Nat.pow_le_pow_right (by decide) (by omega)
            have hxle : rndN V k ≤ V + 10 ^ (6 - k) / 2 := by
              unfold rndN
              exact Nat.div_mul_le_self _ _
            by_cases hr : rndN V k ≤ 999999999999999
            · have hvn := val_neg (neg := neg) hr
              rw [decide_eq_true hvn, if_neg (show ¬ bI true = 0 by decide)]
              obtain ⟨D, hD⟩ := d_ex (w := rndN V k / 10 ^ 6) (by omega)
              have hwx : ∀ i, rndN V k / 10 ^ (6 + i) % 10 = rndN V k / 10 ^ 6 / 10 ^ i % 10 := fun i => by rw [Nat.div_div_eq_div_mul, ← Nat.pow_add]
              have heq : (if neg = true then - lN (rndN V k) else lN (rndN V k)) = if (neg && decide (0 < rndN V k)) = true then - lN (rndN V k) else lN (rndN V k) := by
                cases neg with
                | false => rfl
                | true =>
                  by_cases hz : 0 < rndN V k
                  · rw [decide_eq_true hz]; rfl
                  · rw [show rndN V k = 0 by omega]; decide
              obtain ⟨M', q1, q2⟩ := cw_amount (w := rndN V k / 10 ^ 6) (x := rndN V k) (n := k) (show rndN V k < 2 ^ 62 by omega) hwx hD hk6 h hv (decide (kd = 1)) (neg && decide (0 < rndN V k)) (fun q => by
                rw [Bool.and_eq_true] at q
                exact of_decide_eq_true q.2) hT
              rw [← heq] at q1
              refine Or.inl ⟨_, M', Or.inr ⟨k01, V, k, D, neg, rfl, hk6, rfl, hV, hneg, hr, hD, rfl⟩, ?_, q2⟩
              unfold fX7_writeValue_99
              rcases k01 with rfl | rfl
              · have q1' : fX6_writeAmount t la 0 (if neg = true then - lN (rndN V k) else lN (rndN V k)) (nI k) M0 = some M' := q1
                rw [if_neg (by decide), q1', Option.bind_some, tx_ck q2.1, Option.bind_some, tx_len q2.1, Option.bind_some]
              · have q1' : fX6_writeAmount t la 1 (if neg = true then - lN (rndN V k) else lN (rndN V k)) (nI k) M0 = some M' := q1
                rw [if_pos rfl, q1', Option.bind_some, tx_ck q2.1, Option.bind_some, tx_len q2.1, Option.bind_some]
            · have hvp := val_pos (neg := neg) hr (by omega)
              rw [decide_eq_false (fun q => hvp.elim q.1 q.2), if_pos (show bI false = 0 by decide)]
              refine Or.inr ⟨hno ?_, rfl⟩
              rintro L ⟨V', k', D, neg', e1, hk', e2, hV', hneg', hr', -⟩
              have ek : k = k' := (nI_eq (by omega) (by omega)).mp e1
              subst ek
              have eV : V = V' := by
                have e3 := congrArg Int64.toInt e2
                have h1 : (lN V).toInt = (V : Int) := pk_lT (by omega)
                have h1' : (lN V').toInt = (V' : Int) := pk_lT (by omega)
                have h2 : (- lN V).toInt = - (V : Int) := by rw [Int64.toInt_neg, h1, Int.bmod_eq_of_le (by omega) (by omega)]
                have h2' : (- lN V').toInt = - (V' : Int) := by rw [Int64.toInt_neg, h1', Int.bmod_eq_of_le (by omega) (by omega)]
                cases neg <;> cases neg'
                · simp [h1, h1'] at e3; omega
                · have := hneg' rfl; simp [h1, h2'] at e3; omega
                · have := hneg rfl; simp [h2, h1'] at e3; omega
                · simp [h2, h2'] at e3; omega
              subst eV
              exact hr hr'
          · rw [decide_eq_false ha, if_pos (by decide)]
            refine Or.inr ⟨hno ?_, rfl⟩
            rintro L ⟨V, k', D, neg, -, -, rfl, hV, -⟩
            exact ha (val_neg hV)
        · rw [if_pos (li_gt 6 k 6 rfl (by omega) hk)]
          refine Or.inr ⟨hno ?_, rfl⟩
          rintro L ⟨V, k', D, neg, e1, hk', -⟩
          have := (nI_eq hk (by omega)).mp e1
          omega
    by_cases k0 : kd = 0
    · rw [if_pos k0]; exact go (Or.inl k0)
    · rw [if_neg k0]
      by_cases k1 : kd = 1
      · rw [if_pos k1]; exact go (Or.inr k1)
      · rw [if_neg k1]
        refine Or.inr ⟨?_, rfl⟩
        rintro L (⟨q, -⟩ | ⟨q, -⟩)
        · exact k2 q
        · exact q.elim k0 k1
end SHOWC
section SHOWR
variable {m : Nat} {A : Nat → Nat → Int32} {B : Nat → Nat → Int64} {N : Mem}
/-- the reference makes a value's text, or refuses it -/
theorem p_make {l nl : Nat} (hnl : nl ≤ 6) (h1 : A 1 0 = nI nl) (hl : l < nl) (hv : L8Ok (lnd A l)) (kd n : Int32) (value : Int64) (M : Mem) (R : RM m A B N M) : (∀ L, WR (lnd A l) kd value n L → ∃ M', fX8_make m (nI l) kd value n M = some (1, M') ∧ MK m A B N L M') ∧ ((∀ L, ¬ WR (lnd A l) kd value n L) → ∃ M', fX8_make m (nI l) kd value n M = some (0, M') ∧ RM m A B N M') := by
  obtain ⟨M1, e1, K1⟩ := mk_start R
  have hil : ¬ nI l < 0 ∧ ¬ nI nl - 1 < nI l := (isL_iff hnl _).mpr ⟨l, hl, rfl⟩
  have start : fX8_make m (nI l) kd value n M = (if ¬ kd < 0 ∧ ¬ 2 < kd then (if kd = 2 then ((fX8_makeDay m (nI l) value M1).bind fun r8 => if r8.1 = 0 then fX8_make_55 r8.2 else fX8_make_51 r8.2) else ((fX8_makeAmount m (nI l) kd value n M1).bind fun r6 => if r6.1 = 0 then fX8_make_55 r6.2 else fX8_make_51 r6.2)) else fX8_make_55 M1) := by
    unfold fX8_make
    rw [e1, Option.bind_some, mk_ck K1, Option.bind_some, rm_isLand hnl h1 _ K1.rm, Option.bind_some]
    dsimp only
    rw [if_pos hil, if_neg (by decide), e_in, Option.bind_some]
    dsimp only
    by_cases hk : ¬ kd < 0 ∧ ¬ 2 < kd
    · rw [if_pos hk, if_neg (by decide), if_pos hk, mk_ck K1, Option.bind_some, Option.bind_some]
    · rw [if_neg hk, if_pos rfl, if_neg hk]
  have e55 : ∀ M2, fX8_make_55 M2 = some (0, M2) := fun M2 => by unfold fX8_make_55 fX8_make_56; rw [nz0]; rfl
  have e51 : ∀ M2, fX8_make_51 M2 = some (1, M2) := fun M2 => by unfold fX8_make_51 fX8_make_56; rw [nz1]; rfl
  rw [start]
  constructor
  · rintro L (⟨rfl, x, y, mo, rfl, hx, hY, hMo, rfl⟩ | ⟨hk, V, k, D, neg, rfl, hk6, rfl, hV, hneg, hr, hD, rfl⟩)
    · obtain ⟨M2, q1, q2⟩ := p_makeDay (by omega) hv hx hY hMo M1 K1
      refine ⟨M2, ?_, q2⟩
      rw [if_pos (by decide), if_pos rfl, q1, Option.bind_some]
      dsimp only
      rw [if_neg (by decide), e51]
    · have hkk : ¬ kd < 0 ∧ ¬ 2 < kd := by rcases hk with rfl | rfl <;> decide
      have hk2 : ¬ kd = 2 := by rcases hk with rfl | rfl <;> decide
      rw [if_pos hkk, if_neg hk2]
      rcases p_makeAmount (kd := kd) (by omega : l < 24) hv hk6 hV neg hneg M1 K1 with ⟨-, D', M2, d1, q1, q2⟩ | ⟨q, -⟩
      · have := d_uniq hD d1
        subst this
        refine ⟨M2, ?_, q2⟩
        rw [q1, Option.bind_some]
        dsimp only
        rw [if_neg (by decide), e51]
      · exact absurd hr q
  · intro hno
    by_cases hk : ¬ kd < 0 ∧ ¬ 2 < kd
    · rw [if_pos hk]
      by_cases k2 : kd = 2
      · rw [if_pos k2]
        refine ⟨M1, ?_, K1.rm⟩
        have ref : fX8_makeDay m (nI l) value M1 = some (0, M1) := by
          unfold fX8_makeDay fX8_makeDay_21
          rw [nz0]
          by_cases h0 : value < 0
          · rw [if_pos ((cmp_lt _ _).mpr h0)]; rfl
          · rw [if_neg (fun q => h0 ((cmp_lt _ _).mp q))]
            obtain ⟨x, hx, rfl⟩ := pk_lOf h0
            have e31 : fX8_dayNumber 31 12 9999 M1 = some (lN (dayN 31 12 9999), M1) := e_dayNumber (d := 31) (m := 12) (y := 9999) (by decide) (by decide) (by decide) (by decide) (by decide) (by decide) M1
            have e32 : dayN 31 12 9999 = 3652058 := by decide
            rw [e31, Option.bind_some]
            dsimp only
            rw [e32, if_neg (fun q => (cmp_le _ _).mp q ((pk_lLT (by decide) hx).mpr ?_))]
            · rfl
            · rcases Nat.lt_or_ge 3652058 x with q2 | q2
              · exact q2
              · exfalso
                obtain ⟨y, hY, -⟩ := e_yearOf q2 M1
                have hmo : ∃ mo, MOk y (x - befN y) mo := by
                  have ex : ∀ d mo, mo + d = 12 → 1 ≤ mo → sumN y (mo - 1) 1 ≤ x - befN y → ∃ mo', MOk y (x - befN y) mo' := by
                    intro d
                    induction d with
                    | zero => exact fun mo h1 h2 h3 => ⟨mo, h2, by omega, h3, Or.inl (by omega)⟩
                    | succ d ih =>
                      intro mo h1 h2 h3
                      rcases Nat.lt_or_ge (x - befN y) (sumN y mo 1) with q | q
                      · exact ⟨mo, h2, by omega, h3, Or.inr q⟩
                      · exact ih (mo + 1) (by omega) (by omega) (by rw [Nat.add_sub_cancel]; exact q)
                  exact ex 11 1 (by omega) (by decide) (by simp [sumN])
                obtain ⟨mo, hmo⟩ := hmo
                exact hno _ (Or.inl ⟨k2, x, y, mo, rfl, q2, hY, hmo, rfl⟩)
        rw [ref, Option.bind_some]
        dsimp only
        rw [if_pos rfl, e55]
      · rw [if_neg k2]
        obtain ⟨hk3, -⟩ := kind3 hk
        have k01 : kd = 0 ∨ kd = 1 := hk3.elim Or.inl (fun q => q.elim Or.inr (fun q => absurd q k2))
        have ref : fX8_makeAmount m (nI l) kd value n M1 = some (0, M1) := by
          by_cases hn : ¬ n < 0 ∧ ¬ 6 < n
          · obtain ⟨k, hk9, rfl⟩ := nI_of hn.1
            have hk6 : k ≤ 6 := by
              rcases Nat.lt_or_ge 6 k with q | q
              · exact absurd (li_gt 6 k 6 rfl q hk9) hn.2
              · exact q
            by_cases ha : ¬ value < -999999999999999 ∧ ¬ (999999999999999 : Int64) < value
            · obtain ⟨V, neg, rfl, hV, hneg⟩ := val_dec ha.1 ha.2
              rcases p_makeAmount (kd := kd) (by omega : l < 24) hv hk6 hV neg hneg M1 K1 with ⟨hr, D', M2, d1, q1, q2⟩ | ⟨-, q⟩
              · exact absurd (Or.inr ⟨k01, V, k, D', neg, rfl, hk6, rfl, hV, hneg, hr, d1, rfl⟩) (hno _)
              · exact q
            · unfold fX8_makeAmount fX8_makeAmount_27
              rw [e_in, Option.bind_some, nz0]
              dsimp only
              rw [if_pos hn, if_neg (by decide)]
              by_cases hb : (999999999999999 : Int64) < value
              · rw [if_pos ((cmp_gt _ _).mpr hb)]; rfl
              · have hc : value < -999999999999999 := Decidable.byContradiction (fun q => ha ⟨q, hb⟩)
                rw [if_neg (fun q => hb ((cmp_gt _ _).mp q)), if_neg (fun q => (cmp_ge _ _).mp q hc)]; rfl
          · unfold fX8_makeAmount fX8_makeAmount_27
            rw [e_in, Option.bind_some, nz0]
            dsimp only
            rw [if_neg hn, if_pos rfl]
            rfl
        refine ⟨M1, ?_, K1.rm⟩
        rw [ref, Option.bind_some]
        dsimp only
        rw [if_pos rfl, e55]
    · rw [if_neg hk]
      exact ⟨M1, e55 M1, K1.rm⟩
/-- the reference keeps what it made -/
theorem p_keep {L : List Int32} (hlen : L.length ≤ 160) {M : Mem} (h : MK m A B N L M) : ∃ M' A', fX8_keep m M = some (nI L.length, M') ∧ RM m A' B N M' ∧ (∀ j, (j ≤ 18 ∨ j = 23) → ¬ j = 17 → ¬ j = 18 → A' j = A j) ∧ A' 17 0 = nI L.length ∧ (∀ k, k < L.length → A' 18 k = lf L k) ∧ (∀ i, 1 ≤ i → A' 17 i = A 17 i) ∧ (∀ i, 160 ≤ i → A' 18 i = A 18 i) := by
  obtain ⟨I, A0, fd, rfl, hC, h26, h22⟩ := h
  have s17 : sI (mm m I A0 B fd N) (m + 17) 0 (nI L.length) = some (mm m I (upA A0 17 (upd (A0 17) 0 (nI L.length))) B fd N) := by
    rw [mm_sI17, if_pos (by decide)]
    rfl
  have loop : ∀ (d k f : Nat), k + d = L.length → d < f → fX8_keep_12 f m (nI k) (mm m I (upA (upA A0 17 (upd (A0 17) 0 (nI L.length))) 18 (ovf (A0 18) (A0 22) k)) B fd N) = some (nI L.length, mm m I (upA (upA A0 17 (upd (A0 17) 0 (nI L.length))) 18 (ovf (A0 18) (A0 22) L.length)) B fd N) := by
    intro d
    induction d with
    | zero =>
      intro k f hk hf
      obtain ⟨f, rfl⟩ : ∃ g, f = g + 1 := ⟨f - 1, by omega⟩
      rw [fX8_keep_12, mm_gI26, Option.bind_some, h26, if_pos (nI_le (by omega) (by omega)), Option.bind_some, show k = L.length by omega]
    | succ d ih =>
      intro k f hk hf
      obtain ⟨f, rfl⟩ : ∃ g, f = g + 1 := ⟨f - 1, by omega⟩
      have a22 : aI (mm m I (upA (upA A0 17 (upd (A0 17) 0 (nI L.length))) 18 (ovf (A0 18) (A0 22) k)) B fd N) (m + 22) (nI k) = some (A0 22 k) := by
        rw [mm_aI22, if_pos (inr_nI (by omega) (by decide)), nI_clamp (by omega)]
        rfl
      have s18 : sI (mm m I (upA (upA A0 17 (upd (A0 17) 0 (nI L.length))) 18 (ovf (A0 18) (A0 22) k)) B fd N) (m + 18) (nI k) (A0 22 k) = some (mm m I (upA (upA A0 17 (upd (A0 17) 0 (nI L.length))) 18 (ovf (A0 18) (A0 22) (k + 1))) B fd N) := by
        rw [mm_sI18, if_pos (inr_nI (by omega) (by decide)), nI_clamp (by omega), upA_upA, upA_at]
        congr 3
        funext i
        unfold ovf
        by_cases he : i = k
        · rw [he, pk_us, if_pos (by omega)]
        · rw [pk_un he]
          by_cases hi : i < k
          · rw [if_pos hi, if_pos (by omega)]
          · rw [if_neg hi, if_neg (by omega)]
      rw [fX8_keep_12, mm_gI26, Option.bind_some, h26, if_neg (nI_ge (by omega) (by omega)), mm_gN18, Option.bind_some, mm_gN25, Option.bind_some, a22, Option.bind_some, s18, Option.bind_some, nI_1, ih (k + 1) f (by omega) (by omega)]
  refine ⟨_, upA (upA A0 17 (upd (A0 17) 0 (nI L.length))) 18 (ovf (A0 18) (A0 22) L.length), ?_, ⟨I, _, fd, rfl, Core.rf _⟩, fun j hj h1 h2 => ?_, ?_, fun k hk => ?_, fun i hi => ?_, fun i hi => ?_⟩
  · unfold fX8_keep
    rw [mm_gN17, Option.bind_some, mm_gI26, Option.bind_some, h26, s17, Option.bind_some]
    have := loop L.length 0 FU (by omega) (by unfold FU; omega)
    rw [show ovf (A0 18) (A0 22) 0 = A0 18 by funext i; unfold ovf; rw [if_neg (by omega)]] at this
    rw [show upA (upA A0 17 (upd (A0 17) 0 (nI L.length))) 18 (A0 18) = upA A0 17 (upd (A0 17) 0 (nI L.length)) from upA_same (upA A0 17 (upd (A0 17) 0 (nI L.length))) 18] at this
    exact this
  · unfold upA
    rw [if_neg h2, if_neg h1]
    exact hC j hj
  · show upd (A0 17) 0 (nI L.length) 0 = _
    exact pk_us
  · show (if k < L.length then A0 22 k else A0 18 k) = _
    rw [if_pos hk]
    exact h22 k hk
  · show upd (A0 17) 0 (nI L.length) i = _
    rw [pk_un (by omega), hC 17 (by decide)]
  · show (if i < L.length then A0 22 i else A0 18 i) = _
    rw [if_neg (by omega), hC 18 (by decide)]
end SHOWR
