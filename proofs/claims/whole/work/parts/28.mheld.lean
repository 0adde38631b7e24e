/-! ===== the reference: held, countsNow ===== -/
/-- one more spelling tried: the first that takes all wins, else the best -/
def hd2 (q r : Bool × Option Nat) : Bool × Option Nat := if q.2.isSome = true then q else (q.1 || r.1, r.2)
def hday (T : Nat → Int32) (o sg : Int32) (n : Nat) : Bool × Option Nat := hd2 (hd2 (hd2 (sd T o sg 1 1 n) (sd T o sg 1 2 n)) (sd T o sg 2 1 n)) (sd T o sg 2 2 n)
/-- how the first n bytes are of a kind by a land: 0 nothing, 1 a beginning, 2 wholly; the value -/
def hld (A : Nat → Nat → Int32) (l : Nat) (kd : Int32) (T : Nat → Int32) (n : Nat) : Int32 × Option Int64 := if (2 : Int32) ≤ kd then (if (hday T (A 8 l) (A 9 l) n).2.isSome = true then 2 else bI (hday T (A 8 l) (A 9 l) n).1, (hday T (A 8 l) (A 9 l) n).2.map lN) else (if (amt A l kd T n).2.isSome = true then 2 else (amt A l kd T n).1, (amt A l kd T n).2)
section HELD
variable {m : Nat} {I : Nat → Int32} {A : Nat → Nat → Int32} {B : Nat → Nat → Int64} {fd : Int64} {N : Mem}
theorem bI_le (b c : Bool) : (if bI b ≤ bI c then bI c else bI b) = bI (c || b) := by
  cases b <;> cases c <;> decide
theorem bI_2 (b : Bool) : ¬ bI b = 2 := by cases b <;> decide
theorem e_held28 {l a n : Nat} (hl : l < 24) (ha : a = 1 ∨ a = 2) (hn : n ≤ 200) (k19 : Nat → Int32 → Int32 → Int32 → Int32 → Mem → Option (Int32 × Mem)) (bs : Bool) (q : Bool × Option Nat) (hq : q = hd2 (hd2 (bs, none) (sd (A 19) (A 8 l) (A 9 l) a 1 n)) (sd (A 19) (A 8 l) (A 9 l) a 2 n)) :
    fX8_held_28 k19 FU m (nI l) (nI n) (bI bs) (nI a) 1 (mm m I A B fd N) = if q.2.isSome = true then some (2, mm m I A B ((q.2.map lN).getD fd) N) else k19 m (nI l) (nI n) (bI q.1) (nI a + 1) (mm m I A B fd N) := by
  obtain ⟨f, hf⟩ : ∃ f, FU = f + 1 + 1 + 1 := ⟨99997, rfl⟩
  have s1 := e_someDay (m := m) (I := I) (A := A) (B := B) (fd := fd) (N := N) hl ha (b := 1) (Or.inl rfl) hn
  have s2 := e_someDay (m := m) (I := I) (A := A) (B := B) (fd := fd) (N := N) hl ha (b := 2) (Or.inr rfl) hn
  rw [show nI 1 = 1 from rfl] at s1
  rw [show nI 2 = 2 from rfl] at s2
  rw [hf, fX8_held_28, if_neg (by decide), mm_ck, Option.bind_some, s1, Option.bind_some]
  generalize sd (A 19) (A 8 l) (A 9 l) a 1 n = q1 at *
  generalize sd (A 19) (A 8 l) (A 9 l) a 2 n = q2 at *
  obtain ⟨b1, o1⟩ := q1
  obtain ⟨b2, o2⟩ := q2
  subst hq
  cases o1 with
  | some v => simp [hd2]
  | none =>
    simp only [hd2, Option.isSome_none, Bool.false_eq_true, if_false, Option.map_none, Option.getD_none]
    rw [if_neg (bI_2 b1)]
    have hstep : (if bI b1 ≤ bI bs then fX8_held_68 k19 (fX8_held_28 k19 (f + 1 + 1)) m (nI l) (nI n) (nI a) 1 (bI bs) (mm m I A B fd N) else fX8_held_68 k19 (fX8_held_28 k19 (f + 1 + 1)) m (nI l) (nI n) (nI a) 1 (bI b1) (mm m I A B fd N)) = fX8_held_28 k19 (f + 1 + 1) m (nI l) (nI n) (bI (bs || b1)) (nI a) 2 (mm m I A B fd N) := by
      rw [← bI_le b1 bs]
      unfold fX8_held_68
      split <;> rfl
    rw [hstep, fX8_held_28, if_neg (by decide), mm_ck, Option.bind_some, s2, Option.bind_some]
    cases o2 with
    | some v => simp
    | none =>
      simp only [Option.isSome_none, Bool.false_eq_true, if_false, Option.map_none, Option.getD_none]
      rw [if_neg (bI_2 b2)]
      have hstep2 : (if bI b2 ≤ bI (bs || b1) then fX8_held_68 k19 (fX8_held_28 k19 (f + 1)) m (nI l) (nI n) (nI a) 2 (bI (bs || b1)) (mm m I A B fd N) else fX8_held_68 k19 (fX8_held_28 k19 (f + 1)) m (nI l) (nI n) (nI a) 2 (bI b2) (mm m I A B fd N)) = fX8_held_28 k19 (f + 1) m (nI l) (nI n) (bI (bs || b1 || b2)) (nI a) 3 (mm m I A B fd N) := by
        rw [← bI_le b2 (bs || b1)]
        unfold fX8_held_68
        split <;> rfl
      rw [hstep2, fX8_held_28, if_pos (by decide)]
theorem e_held {l n : Nat} (hl : l < 24) (hn : n ≤ 200) (kd c : Int32) (a b : Nat → Int32) : ∃ (c' : Int32) (a' b' : Nat → Int32),
    fX8_held m (nI l) kd (nI n) (sm m I A B fd N c a b) = some ((hld A l kd (A 19) n).1, sm m I A B ((hld A l kd (A 19) n).2.getD fd) N c' a' b') := by
  unfold fX8_held hld
  by_cases hk : (2 : Int32) ≤ kd
  · refine ⟨c, a, b, ?_⟩
    rw [if_pos hk, if_pos hk]
    unfold sm
    generalize hI : upI I 23 c = I2
    generalize hA : upA (upA A 20 a) 21 b = A2
    have h19 : A2 19 = A 19 := by rw [← hA]; rfl
    have h8 : A2 8 = A 8 := by rw [← hA]; rfl
    have h9 : A2 9 = A 9 := by rw [← hA]; rfl
    obtain ⟨f, hf⟩ : ∃ f, FU = f + 1 + 1 + 1 := ⟨99997, rfl⟩
    have r1 := e_held28 (m := m) (I := I2) (A := A2) (B := B) (fd := fd) (N := N) hl (a := 1) (Or.inl rfl) hn (fX8_held_19 (f + 1 + 1)) false _ rfl
    have r2 := fun bs => e_held28 (m := m) (I := I2) (A := A2) (B := B) (fd := fd) (N := N) hl (a := 2) (Or.inr rfl) hn (fX8_held_19 (f + 1)) bs _ rfl
    rw [h19, h8, h9] at r1 r2
    rw [show nI 1 = 1 from rfl, show bI false = 0 from rfl] at r1
    rw [show nI 2 = 2 from rfl] at r2
    rw [show fX8_held_19 FU = fX8_held_19 (f + 1 + 1 + 1) by rw [hf], fX8_held_19, if_neg (by decide), r1]
    unfold hday
    generalize sd (A 19) (A 8 l) (A 9 l) 1 1 n = q1 at *
    generalize sd (A 19) (A 8 l) (A 9 l) 1 2 n = q2 at *
    generalize sd (A 19) (A 8 l) (A 9 l) 2 1 n = q3 at *
    generalize sd (A 19) (A 8 l) (A 9 l) 2 2 n = q4 at *
    obtain ⟨b1, o1⟩ := q1
    obtain ⟨b2, o2⟩ := q2
    obtain ⟨b3, o3⟩ := q3
    obtain ⟨b4, o4⟩ := q4
    cases o1 with
    | some v => simp [hd2]
    | none =>
      cases o2 with
      | some v => simp [hd2]
      | none =>
        have e1 : (1 : Int32) + 1 = 2 := by decide
        simp only [hd2, Option.isSome_none, Bool.false_eq_true, if_false, Bool.false_or, e1]
        rw [fX8_held_19, if_neg (by decide), r2]
        cases o3 with
        | some v => simp [hd2]
        | none =>
          cases o4 with
          | some v => simp [hd2]
          | none =>
            have e2 : (2 : Int32) + 1 = 3 := by decide
            simp only [hd2, Option.isSome_none, Bool.false_eq_true, if_false, e2]
            rw [fX8_held_19, if_pos (by decide)]
            simp
  · rw [if_neg hk, if_neg hk]
    obtain ⟨c', a', b', h⟩ := e_amount (m := m) (I := I) (A := A) (B := B) (fd := fd) (N := N) hl hn kd c a b
    refine ⟨c', a', b', ?_⟩
    have hck : ck (sm m I A B fd N c a b) 5 m = some () := mm_ck
    rw [hck, Option.bind_some, h, Option.bind_some]
end HELD
