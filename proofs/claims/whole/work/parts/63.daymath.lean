/-! ===== days: what the typed bytes allow ===== -/
def un (T : Nat → Int32) (k : Nat) : Nat → Nat
  | 0 => 0
  | c + 1 => un T k c * 10 + ((T (k + c)).toNatClampNeg - 48)
section DAYMATH
variable {T : Nat → Int32} {n : Nat}
theorem dv_last : ∀ (c k : Nat) (v : Int64), dv T (c + 1) k v = dv T c k v * 10 + (T (k + c) - 48).toInt64 := by
  intro c
  induction c with
  | zero => intro k v; rfl
  | succ c ih =>
    intro k v
    rw [dv, ih, dv, show k + 1 + c = k + (c + 1) by omega]
theorem dig_val {c : Int32} (h : digB c = true) : c.toNatClampNeg - 48 ≤ 9 ∧ c = nI (48 + (c.toNatClampNeg - 48)) ∧ (c - 48).toInt64 = lN (c.toNatClampNeg - 48) := by
  obtain ⟨d, h1, h2, h3⟩ := dig_n h
  have e : c.toNatClampNeg = 48 + d := by rw [h2]; exact nI_clamp (by omega)
  rw [e, show 48 + d - 48 = d by omega]
  exact ⟨h1, h2, h3⟩
theorem un_lt {k c : Nat} (h : ∀ j, j < c → digB (T (k + j)) = true) : un T k c < 10 ^ c := by
  induction c with
  | zero => exact (by decide : 0 < 1)
  | succ c ih =>
    have := ih (fun j hj => h j (by omega))
    have h2 := (dig_val (h c (by omega))).1
    rw [un, Nat.pow_succ]
    omega
theorem dv_un {k c : Nat} (h : ∀ j, j < c → digB (T (k + j)) = true) : dv T c k 0 = lN (un T k c) := by
  induction c with
  | zero => rfl
  | succ c ih =>
    rw [dv_last, ih (fun j hj => h j (by omega)), (dig_val (h c (by omega))).2.2, show lN (un T k c) * 10 = lN (un T k c * 10) from lN_mul _ 10, lN_add, un]
theorem bgn_s {x d p : Nat} : bgn T x (d + 1) p n = true ↔ n ≤ p ∨ (T p = nI (48 + x / 10 ^ d % 10) ∧ bgn T x d (p + 1) n = true) := by
  rw [bgn]
  by_cases h : n ≤ p
  · simp [h]
  · by_cases h2 : T p = nI (48 + x / 10 ^ d % 10)
    · simp [h, h2]
    · simp [h, h2]
theorem bgn_end {x d p : Nat} (h : n ≤ p) : bgn T x d p n = true := by
  cases d with
  | zero => rfl
  | succ d => exact bgn_s.mpr (Or.inl h)
theorem bgn_un {x k : Nat} : ∀ (c w : Nat), c ≤ w → k + c ≤ n → (∀ j, j < c → digB (T (k + j)) = true) → (bgn T x w k n = true ↔ x / 10 ^ (w - c) % 10 ^ c = un T k c ∧ bgn T x (w - c) (k + c) n = true) := by
  intro c
  induction c with
  | zero =>
    intro w _ _ _
    simp [un, Nat.mod_one]
  | succ c ih =>
    intro w hw hn hd
    rw [ih w (by omega) (by omega) (fun j hj => hd j (by omega))]
    obtain ⟨d, e⟩ : ∃ d, w - c = d + 1 := ⟨w - c - 1, by omega⟩
    have e2 : w - (c + 1) = d := by omega
    rw [e, e2, bgn_s]
    obtain ⟨v1, v2, -⟩ := dig_val (hd c (by omega))
    have hx : x / 10 ^ d % 10 ^ (c + 1) = (x / 10 ^ (d + 1) % 10 ^ c) * 10 + x / 10 ^ d % 10 := by
      have e3 : x / 10 ^ (d + 1) = x / 10 ^ d / 10 := by rw [Nat.pow_succ, Nat.div_div_eq_div_mul]
      rw [e3, Nat.pow_succ, Nat.mul_comm (10 ^ c) 10, Nat.mod_mul, Nat.add_comm, Nat.mul_comm 10]
    have hm : x / 10 ^ d % 10 < 10 := Nat.mod_lt _ (by decide)
    rw [hx, un]
    have hT : T (k + c) = nI (48 + x / 10 ^ d % 10) ↔ (T (k + c)).toNatClampNeg - 48 = x / 10 ^ d % 10 := by
      constructor
      · intro h
        rw [h, nI_clamp (by omega)]
        omega
      · intro h
        rw [← h]
        exact v2
    rw [hT, show k + c + 1 = k + (c + 1) by omega]
    constructor
    · rintro ⟨h1, h2 | ⟨h2, h3⟩⟩
      · omega
      · exact ⟨by omega, h3⟩
    · rintro ⟨h1, h2⟩
      exact ⟨by omega, Or.inr ⟨by omega, h2⟩⟩
/-- one part of a day: what its digits allow -/
theorem part_step (mx k : Nat) (hk : k ≤ n) : ∃ c, c ≤ mx ∧ digsQ T n mx 0 (k, 0, 0) = (c, (k + c, 0, lN (un T k c))) ∧ k + c ≤ n ∧ un T k c < 10 ^ c ∧ (∀ w x, w ≤ mx → x < 10 ^ w → ((bgn T x w k n = true ∧ (n ≤ k + w ∨ digB (T (k + w)) = false)) ↔ ((k + c = n ∧ c ≤ w ∧ x / 10 ^ (w - c) = un T k c) ∨ (k + c < n ∧ w = c ∧ x = un T k c ∧ digB (T (k + c)) = false)))) := by
  obtain ⟨c, c1, c2, c3, c4, c5⟩ := digs_spec (T := T) (n := n) mx 0 k 0 hk
  rw [Nat.zero_add, dv_un c4] at c2
  refine ⟨c, c1, c2, c3, un_lt c4, fun w x hw hx => ?_⟩
  have hlt : c ≤ w → x / 10 ^ (w - c) % 10 ^ c = x / 10 ^ (w - c) := by
    intro h
    apply Nat.mod_eq_of_lt
    apply Nat.div_lt_of_lt_mul
    rw [← Nat.pow_add, show w - c + c = w by omega]
    exact hx
  constructor
  · rintro ⟨hb, hs⟩
    have hcw : c ≤ w := by
      rcases Nat.lt_or_ge w c with q | q
      · exfalso
        rcases hs with hs | hs
        · omega
        · rw [c4 w q] at hs
          cases hs
      · exact q
    have hu := (bgn_un c w hcw c3 c4).mp hb
    rw [hlt hcw] at hu
    rcases Nat.lt_or_ge (k + c) n with q | q
    · right
      have hwc : w = c := by
        rcases Nat.lt_or_ge c w with q2 | q2
        · exfalso
          have hd : digB (T (k + c)) = false := by
            rcases c5 with c5 | c5 | c5
            · omega
            · omega
            · exact c5
          obtain ⟨d, e⟩ : ∃ d, w - c = d + 1 := ⟨w - c - 1, by omega⟩
          rw [e] at hu
          rcases bgn_s.mp hu.2 with h | ⟨h, -⟩
          · omega
          · have hm : x / 10 ^ d % 10 < 10 := Nat.mod_lt _ (by decide)
            have : ∀ j, j < 10 → digB (nI (48 + j)) = true := by decide
            rw [h, this _ hm] at hd
            cases hd
        · omega
      subst hwc
      refine ⟨q, rfl, ?_, ?_⟩
      · have := hu.1
        rw [Nat.sub_self, Nat.pow_zero, Nat.div_one] at this
        exact this
      · rcases hs with hs | hs
        · omega
        · exact hs
    · exact Or.inl ⟨by omega, hcw, hu.1⟩
  · rintro (⟨h1, h2, h3⟩ | ⟨h1, rfl, h3, h4⟩)
    · refine ⟨(bgn_un c w h2 c3 c4).mpr ⟨by rw [hlt h2]; exact h3, bgn_end (by omega)⟩, Or.inl (by omega)⟩
    · refine ⟨(bgn_un w w (Nat.le_refl _) c3 c4).mpr ⟨?_, by rw [Nat.sub_self]; rfl⟩, Or.inr h4⟩
      rw [hlt (Nat.le_refl _), Nat.sub_self, Nat.pow_zero, Nat.div_one]
      exact h3
end DAYMATH
def mxN (p : Nat) : Nat := if p = 2 then 4 else 2
def mnN (p : Nat) : Nat := if p = 2 then 4 else 1
def okD (w x : Nat → Nat) : Prop := ∀ p, p < 3 → mnN p ≤ w p ∧ w p ≤ mxN p ∧ x p < 10 ^ w p
def CD (T : Nat → Int32) (n : Nat) (sg : Int32) (p1 p2 p3 : Nat) (w x : Nat → Nat) : Prop := n ≤ w p1 + w p2 + w p3 + 2 ∧ bgn T (x p1) (w p1) 0 n = true ∧ (n ≤ w p1 ∨ T (w p1) = sg) ∧ bgn T (x p2) (w p2) (w p1 + 1) n = true ∧ (n ≤ w p1 + w p2 + 1 ∨ T (w p1 + w p2 + 1) = sg) ∧ bgn T (x p3) (w p3) (w p1 + w p2 + 2) n = true
def cmpD (c u : Nat → Nat) (g : Nat) (w x : Nat → Nat) (p : Nat) : Prop := if p = g ∨ c p = 0 then (c p ≤ w p ∧ x p / 10 ^ (w p - c p) = u p) else (w p = c p ∧ x p = u p)
def updN (f : Nat → Nat) (p v : Nat) : Nat → Nat := fun q => if q = p then v else f q
def Rp (s : Ds) (c u : Nat → Nat) : Prop := ∀ p, p < 3 → s.2.1 p = nI (u p) ∧ s.2.2.1 p = nI (c p)
section DAYPARSE
variable {T : Nat → Int32} {n : Nat}
theorem partS_go {s : Ds} {c u : Nat → Nat} {p k cc : Nat} (hs : s.2.2.2 = (k, 0, (s.2.2.2.2.2))) (hR : Rp s c u) (hc : digsQ T n (mxN p) 0 (k, 0, 0) = (cc, (k + cc, 0, lN (un T k cc)))) : Rp (partS T n p s) (updN c p cc) (updN u p (un T k cc)) ∧ (partS T n p s).1 = (if k + cc < n then s.1 else nI p) ∧ (partS T n p s).2.2.2 = (if cc < mnN p then lackQ n (k + cc, 0, lN (un T k cc)) else (k + cc, 0, lN (un T k cc))) := by
  have h1 : s.2.2.2.1 = k := by rw [hs]
  have h2 : s.2.2.2.2.1 = 0 := by rw [hs]
  have e : partS T n p s = (if k + cc < n then s.1 else nI p, upd s.2.1 p (nI (un T k cc)), upd s.2.2.1 p (nI cc), if cc < mnN p then lackQ n (k + cc, 0, lN (un T k cc)) else (k + cc, 0, lN (un T k cc))) := by
    unfold partS
    rw [if_pos h2, h1, h2]
    have hc' : digsQ T n (if p = 2 then 4 else 2) 0 (k, 0, 0) = (cc, (k + cc, 0, lN (un T k cc))) := hc
    rw [hc']
    dsimp only
    rw [lN_i]
    rfl
  rw [e]
  refine ⟨fun q hq => ?_, rfl, rfl⟩
  unfold updN
  dsimp only
  by_cases h : q = p
  · subst h
    rw [if_pos rfl, if_pos rfl]
    exact ⟨pk_us, pk_us⟩
  · rw [if_neg h, if_neg h, pk_un h, pk_un h]
    exact hR q hq
theorem partS_st {s : Ds} {p : Nat} (h : ¬ s.2.2.2.2.1 = 0) : partS T n p s = s := by
  unfold partS
  rw [if_neg h]
theorem needS_st {s : Ds} {sg : Int32} (h : ¬ s.2.2.2.2.1 = 0) : needS T n sg s = s := by
  unfold needS
  rw [stuck_need h]
theorem closeS_st {s : Ds} (h : ¬ s.2.2.2.2.1 = 0) : closeS n s = s := by
  unfold closeS closeQ
  split
  · rw [stuck_lack h]
  · rfl
/-- from a state where something was found amiss on -/
theorem tail_st {s : Ds} {sg : Int32} {p : Nat} (h : ¬ s.2.2.2.2.1 = 0) : closeS n (partS T n p (needS T n sg s)) = s := by
  rw [needS_st h, partS_st h, closeS_st h]
theorem day_parse {sg : Int32} (hsg : digB sg = false) {p1 p2 p3 : Nat} (hp1 : p1 < 3) (hp2 : p2 < 3) (hp3 : p3 < 3) (h12 : p1 ≠ p2) (h13 : p1 ≠ p3) (h23 : p2 ≠ p3) (s0 : Ds) (hs0 : s0.2.2.2 = (0, 0, 0)) (hR0 : Rp s0 (fun _ => 0) (fun _ => 0)) (S : Ds) (hS : S = closeS n (partS T n p3 (needS T n sg (partS T n p2 (needS T n sg (partS T n p1 s0)))))) :
    ∃ c u : Nat → Nat, Rp S c u ∧ (∀ p, p < 3 → c p ≤ mxN p ∧ u p < 10 ^ c p) ∧
      ((S.2.2.2.2.1 = 2 ∧ ∀ w x, okD w x → ¬ CD T n sg p1 p2 p3 w x) ∨
       (∃ g, g < 3 ∧ S.1 = nI g ∧ (∀ w x, okD w x → (CD T n sg p1 p2 p3 w x ↔ ∀ p, p < 3 → cmpD c u g w x p)) ∧ (∀ p, p < 3 → p = g ∨ c p = 0 ∨ mnN p ≤ c p) ∧
         ((S.2.2.2.2.1 = 0 ∧ n = c p1 + c p2 + c p3 + 2 ∧ (∀ p, p < 3 → mnN p ≤ c p) ∧ g = p3) ∨
          (S.2.2.2.2.1 = 1 ∧ ∀ w x, okD w x → CD T n sg p1 p2 p3 w x → n < w p1 + w p2 + w p3 + 2)))) := by
  have all3 : ∀ p, p < 3 → p = p1 ∨ p = p2 ∨ p = p3 := fun p hp => by omega
  have mn1 : ∀ p, 1 ≤ mnN p := fun p => by unfold mnN; split <;> omega
  have notsg : ∀ k, T k = sg → digB (T k) = false := fun k h => by rw [h]; exact hsg
  -- part one
  obtain ⟨c1, a1, a2, a3, a4, a5⟩ := part_step (T := T) (n := n) (mxN p1) 0 (Nat.zero_le n)
  simp only [Nat.zero_add] at a2 a3 a5
  have a2' : digsQ T n (mxN p1) 0 (0, 0, 0) = (c1, (0 + c1, 0, lN (un T 0 c1))) := by rw [a2, Nat.zero_add]
  obtain ⟨r1, r2, r3⟩ := partS_go (p := p1) (by rw [hs0]) hR0 a2'
  rw [Nat.zero_add] at r2 r3
  generalize hs1 : partS T n p1 s0 = s1 at hS r1 r2 r3
  have first : ∀ w x, okD w x → CD T n sg p1 p2 p3 w x → (c1 = n ∧ c1 ≤ w p1 ∧ x p1 / 10 ^ (w p1 - c1) = un T 0 c1) ∨ (c1 < n ∧ w p1 = c1 ∧ x p1 = un T 0 c1 ∧ digB (T c1) = false) := by
    intro w x hok hC
    obtain ⟨o1, o2, o3⟩ := hok p1 hp1
    refine (a5 (w p1) (x p1) o2 o3).mp ⟨hC.2.1, ?_⟩
    rcases hC.2.2.1 with q | q
    · exact Or.inl q
    · exact Or.inr (notsg _ q)
  have cu1 : ∀ p, p < 3 → updN (fun _ => 0) p1 c1 p ≤ mxN p ∧ updN (fun _ => 0) p1 (un T 0 c1) p < 10 ^ updN (fun _ => 0) p1 c1 p := by
    intro p hp
    unfold updN
    by_cases h : p = p1
    · subst h; rw [if_pos rfl, if_pos rfl]; exact ⟨a1, a4⟩
    · rw [if_neg h, if_neg h]; exact ⟨Nat.zero_le _, (by decide : 0 < 1)⟩
  by_cases hn1 : c1 < n
  · by_cases hm1 : c1 < mnN p1
    · -- too few digits, and something else behind them
      have hst : s1.2.2.2.2.1 = 2 := by
        rw [r3, if_pos hm1, lack_st, if_pos hn1]
      have hne : ¬ s1.2.2.2.2.1 = 0 := by rw [hst]; decide
      have eS : S = s1 := by rw [hS, needS_st hne, partS_st hne, tail_st hne]
      refine ⟨_, _, by rw [eS]; exact r1, cu1, Or.inl ⟨by rw [eS]; exact hst, fun w x hok hC => ?_⟩⟩
      rcases first w x hok hC with q | q
      · omega
      · have := (hok p1 hp1).1; omega
    · rw [if_neg hm1] at r3
      by_cases hT1 : T c1 = sg
      · -- the sign stands: part two
        have en : needS T n sg s1 = (s1.1, s1.2.1, s1.2.2.1, (c1 + 1, 0, lN (un T 0 c1))) := by
          unfold needS needQ
          rw [r3]
          rw [if_pos (by simp only [passB, decide_eq_true_eq]; exact ⟨trivial, hn1, hT1⟩)]
        rw [en] at hS
        obtain ⟨c2, b1, b2, b3, b4, b5⟩ := part_step (T := T) (n := n) (mxN p2) (c1 + 1) (by omega)
        have hR1 : Rp (s1.1, s1.2.1, s1.2.2.1, (c1 + 1, 0, lN (un T 0 c1))) (updN (fun _ => 0) p1 c1) (updN (fun _ => 0) p1 (un T 0 c1)) := r1
        obtain ⟨t1, t2, t3⟩ := partS_go (p := p2) rfl hR1 b2
        generalize hs2 : partS T n p2 (s1.1, s1.2.1, s1.2.2.1, (c1 + 1, 0, lN (un T 0 c1))) = s2 at hS t1 t2 t3
        have second : ∀ w x, okD w x → CD T n sg p1 p2 p3 w x → (w p1 = c1 ∧ x p1 = un T 0 c1) ∧ ((c1 + 1 + c2 = n ∧ c2 ≤ w p2 ∧ x p2 / 10 ^ (w p2 - c2) = un T (c1 + 1) c2) ∨ (c1 + 1 + c2 < n ∧ w p2 = c2 ∧ x p2 = un T (c1 + 1) c2 ∧ digB (T (c1 + 1 + c2)) = false)) := by
          intro w x hok hC
          rcases first w x hok hC with q | q
          · omega
          · refine ⟨⟨q.2.1, q.2.2.1⟩, ?_⟩
            obtain ⟨o1, o2, o3⟩ := hok p2 hp2
            have hC4 := hC.2.2.2.1
            have hC5 := hC.2.2.2.2.1
            rw [q.2.1] at hC4 hC5
            refine (b5 (w p2) (x p2) o2 o3).mp ⟨hC4, ?_⟩
            rw [show c1 + 1 + w p2 = c1 + w p2 + 1 by omega]
            rcases hC5 with q | q
            · exact Or.inl q
            · exact Or.inr (notsg _ q)
        have cu2 : ∀ p, p < 3 → updN (updN (fun _ => 0) p1 c1) p2 c2 p ≤ mxN p ∧ updN (updN (fun _ => 0) p1 (un T 0 c1)) p2 (un T (c1 + 1) c2) p < 10 ^ updN (updN (fun _ => 0) p1 c1) p2 c2 p := by
          intro p hp
          have := cu1 p hp
          by_cases h : p = p2
          · subst h
            rw [show updN (updN (fun _ => 0) p1 c1) p c2 p = c2 from if_pos rfl, show updN (updN (fun _ => 0) p1 (un T 0 c1)) p (un T (c1 + 1) c2) p = un T (c1 + 1) c2 from if_pos rfl]
            exact ⟨b1, b4⟩
          · rw [show updN (updN (fun _ => 0) p1 c1) p2 c2 p = updN (fun _ => 0) p1 c1 p from if_neg h, show updN (updN (fun _ => 0) p1 (un T 0 c1)) p2 (un T (c1 + 1) c2) p = updN (fun _ => 0) p1 (un T 0 c1) p from if_neg h]
            exact this
        have v1c : updN (updN (fun _ => 0) p1 c1) p2 c2 p1 = c1 := by unfold updN; rw [if_neg h12, if_pos rfl]
        have v1u : updN (updN (fun _ => 0) p1 (un T 0 c1)) p2 (un T (c1 + 1) c2) p1 = un T 0 c1 := by unfold updN; rw [if_neg h12, if_pos rfl]
        have v2c : updN (updN (fun _ => 0) p1 c1) p2 c2 p2 = c2 := if_pos rfl
        have v2u : updN (updN (fun _ => 0) p1 (un T 0 c1)) p2 (un T (c1 + 1) c2) p2 = un T (c1 + 1) c2 := if_pos rfl
        have v3c : updN (updN (fun _ => 0) p1 c1) p2 c2 p3 = 0 := by unfold updN; rw [if_neg h23.symm, if_neg h13.symm]
        have v3u : updN (updN (fun _ => 0) p1 (un T 0 c1)) p2 (un T (c1 + 1) c2) p3 = 0 := by unfold updN; rw [if_neg h23.symm, if_neg h13.symm]
        have hm1' : ¬ c1 = 0 := by have := mn1 p1; omega
        by_cases hn2 : c1 + 1 + c2 < n
        · by_cases hm2 : c2 < mnN p2
          · have hst : s2.2.2.2.2.1 = 2 := by
              rw [t3, if_pos hm2, lack_st, if_pos hn2]
            have hne : ¬ s2.2.2.2.2.1 = 0 := by rw [hst]; decide
            have eS : S = s2 := by rw [hS, tail_st hne]
            refine ⟨_, _, by rw [eS]; exact t1, cu2, Or.inl ⟨by rw [eS]; exact hst, fun w x hok hC => ?_⟩⟩
            rcases (second w x hok hC).2 with q | q
            · omega
            · have := (hok p2 hp2).1; omega
          · rw [if_neg hm2] at t3
            by_cases hT2 : T (c1 + 1 + c2) = sg
            · -- part three
              have en2 : needS T n sg s2 = (s2.1, s2.2.1, s2.2.2.1, (c1 + 1 + c2 + 1, 0, lN (un T (c1 + 1) c2))) := by
                unfold needS needQ
                rw [t3]
                rw [if_pos (by simp only [passB, decide_eq_true_eq]; exact ⟨trivial, hn2, hT2⟩)]
              rw [en2] at hS
              obtain ⟨c3, d1, d2, d3, d4, d5⟩ := part_step (T := T) (n := n) (mxN p3) (c1 + 1 + c2 + 1) (by omega)
              have hR2 : Rp (s2.1, s2.2.1, s2.2.2.1, (c1 + 1 + c2 + 1, 0, lN (un T (c1 + 1) c2))) (updN (updN (fun _ => 0) p1 c1) p2 c2) (updN (updN (fun _ => 0) p1 (un T 0 c1)) p2 (un T (c1 + 1) c2)) := t1
              obtain ⟨z1, z2, z3'⟩ := partS_go (p := p3) rfl hR2 d2
              generalize hs3 : partS T n p3 (s2.1, s2.2.1, s2.2.2.1, (c1 + 1 + c2 + 1, 0, lN (un T (c1 + 1) c2))) = s3 at hS z1 z2 z3'
              have cu3 : ∀ p, p < 3 → updN (updN (updN (fun _ => 0) p1 c1) p2 c2) p3 c3 p ≤ mxN p ∧ updN (updN (updN (fun _ => 0) p1 (un T 0 c1)) p2 (un T (c1 + 1) c2)) p3 (un T (c1 + 1 + c2 + 1) c3) p < 10 ^ updN (updN (updN (fun _ => 0) p1 c1) p2 c2) p3 c3 p := by
                intro p hp
                have := cu2 p hp
                by_cases h : p = p3
                · subst h
                  rw [show updN (updN (updN (fun _ => 0) p1 c1) p2 c2) p c3 p = c3 from if_pos rfl, show updN (updN (updN (fun _ => 0) p1 (un T 0 c1)) p2 (un T (c1 + 1) c2)) p (un T (c1 + 1 + c2 + 1) c3) p = un T (c1 + 1 + c2 + 1) c3 from if_pos rfl]
                  exact ⟨d1, d4⟩
                · rw [show updN (updN (updN (fun _ => 0) p1 c1) p2 c2) p3 c3 p = updN (updN (fun _ => 0) p1 c1) p2 c2 p from if_neg h, show updN (updN (updN (fun _ => 0) p1 (un T 0 c1)) p2 (un T (c1 + 1) c2)) p3 (un T (c1 + 1 + c2 + 1) c3) p = updN (updN (fun _ => 0) p1 (un T 0 c1)) p2 (un T (c1 + 1) c2) p from if_neg h]
                  exact this
              have third : ∀ w x, okD w x → CD T n sg p1 p2 p3 w x → (w p1 = c1 ∧ x p1 = un T 0 c1) ∧ (w p2 = c2 ∧ x p2 = un T (c1 + 1) c2) ∧ (c1 + 1 + c2 + 1 + c3 = n ∧ c3 ≤ w p3 ∧ x p3 / 10 ^ (w p3 - c3) = un T (c1 + 1 + c2 + 1) c3) := by
                intro w x hok hC
                obtain ⟨q1, q2⟩ := second w x hok hC
                rcases q2 with q2 | q2
                · omega
                · refine ⟨q1, ⟨q2.2.1, q2.2.2.1⟩, ?_⟩
                  obtain ⟨o1, o2, o3⟩ := hok p3 hp3
                  have hC1 := hC.1
                  have hC6 := hC.2.2.2.2.2
                  rw [q1.1, q2.2.1] at hC1 hC6
                  have := (d5 (w p3) (x p3) o2 o3).mp ⟨by rw [show c1 + 1 + c2 + 1 = c1 + c2 + 2 by omega]; exact hC6, Or.inl (by omega)⟩
                  rcases this with q | q
                  · exact q
                  · omega
              by_cases hn3 : c1 + 1 + c2 + 1 + c3 < n
              · have hdead : S.2.2.2.2.1 = 2 ∧ Rp S (updN (updN (updN (fun _ => 0) p1 c1) p2 c2) p3 c3) (updN (updN (updN (fun _ => 0) p1 (un T 0 c1)) p2 (un T (c1 + 1) c2)) p3 (un T (c1 + 1 + c2 + 1) c3)) := by
                  by_cases hm3 : c3 < mnN p3
                  · rw [if_pos hm3, lack_st, if_pos hn3] at z3'
                    have hne : ¬ s3.2.2.2.2.1 = 0 := by rw [z3']; exact (by decide : ¬ (2 : Int32) = 0)
                    rw [hS, closeS_st hne]
                    exact ⟨by rw [z3'], z1⟩
                  · rw [if_neg hm3] at z3'
                    rw [hS]
                    refine ⟨?_, z1⟩
                    unfold closeS closeQ
                    rw [z3']
                    dsimp only
                    rw [if_pos hn3, lack_st, if_pos hn3]
                refine ⟨_, _, hdead.2, cu3, Or.inl ⟨hdead.1, fun w x hok hC => ?_⟩⟩
                have := (third w x hok hC).2.2.1
                omega
              · have hn3' : c1 + 1 + c2 + 1 + c3 = n := by omega
                have w1c : updN (updN (updN (fun _ => 0) p1 c1) p2 c2) p3 c3 p1 = c1 := Eq.trans (if_neg h13) v1c
                have w1u : updN (updN (updN (fun _ => 0) p1 (un T 0 c1)) p2 (un T (c1 + 1) c2)) p3 (un T (c1 + 1 + c2 + 1) c3) p1 = un T 0 c1 := Eq.trans (if_neg h13) v1u
                have w2c : updN (updN (updN (fun _ => 0) p1 c1) p2 c2) p3 c3 p2 = c2 := Eq.trans (if_neg h23) v2c
                have w2u : updN (updN (updN (fun _ => 0) p1 (un T 0 c1)) p2 (un T (c1 + 1) c2)) p3 (un T (c1 + 1 + c2 + 1) c3) p2 = un T (c1 + 1) c2 := Eq.trans (if_neg h23) v2u
                have w3c : updN (updN (updN (fun _ => 0) p1 c1) p2 c2) p3 c3 p3 = c3 := if_pos rfl
                have w3u : updN (updN (updN (fun _ => 0) p1 (un T 0 c1)) p2 (un T (c1 + 1) c2)) p3 (un T (c1 + 1 + c2 + 1) c3) p3 = un T (c1 + 1 + c2 + 1) c3 := if_pos rfl
                have hm2' : ¬ c2 = 0 := by have := mn1 p2; omega
                generalize hcc : updN (updN (updN (fun _ => 0) p1 c1) p2 c2) p3 c3 = c at z1 cu3 w1c w2c w3c
                generalize huu : updN (updN (updN (fun _ => 0) p1 (un T 0 c1)) p2 (un T (c1 + 1) c2)) p3 (un T (c1 + 1 + c2 + 1) c3) = u at z1 cu3 w1u w2u w3u
                have eS : S = s3 := by
                  rw [hS]
                  unfold closeS closeQ
                  by_cases hm3 : c3 < mnN p3
                  · rw [z3', if_pos hm3, lack_st]
                    dsimp only
                    rw [if_neg hn3, if_neg hn3]
                    rw [if_pos hm3, lack_st, if_neg hn3] at z3'
                    rw [← z3']
                  · rw [z3', if_neg hm3]
                    dsimp only
                    rw [if_neg hn3]
                    rw [if_neg hm3] at z3'
                    rw [← z3']
                refine ⟨c, u, by rw [eS]; exact z1, cu3, Or.inr ⟨p3, hp3, by rw [eS, z2, if_neg hn3], fun w x hok => ⟨fun hC => ?_, fun hX => ?_⟩, fun p hp => ?_, ?_⟩⟩
                · obtain ⟨q1, q2, q3⟩ := third w x hok hC
                  intro p hp
                  unfold cmpD
                  rcases all3 p hp with rfl | rfl | rfl
                  · rw [w1c, w1u, if_neg (fun q => q.elim h13 hm1')]; exact q1
                  · rw [w2c, w2u, if_neg (fun q => q.elim h23 hm2')]; exact q2
                  · rw [w3c, w3u, if_pos (Or.inl rfl)]; exact q3.2
                · have x1 := hX p1 hp1
                  have x2 := hX p2 hp2
                  have x3 := hX p3 hp3
                  unfold cmpD at x1 x2 x3
                  rw [w1c, w1u, if_neg (fun q => q.elim h13 hm1')] at x1
                  rw [w2c, w2u, if_neg (fun q => q.elim h23 hm2')] at x2
                  rw [w3c, w3u, if_pos (Or.inl rfl)] at x3
                  obtain ⟨o1, o2, o3⟩ := hok p1 hp1
                  obtain ⟨o1', o2', o3'⟩ := hok p2 hp2
                  obtain ⟨o1'', o2'', o3''⟩ := hok p3 hp3
                  have f1 := (a5 (w p1) (x p1) o2 o3).mpr (Or.inr ⟨hn1, x1.1, x1.2, notsg _ hT1⟩)
                  have f2 := (b5 (w p2) (x p2) o2' o3').mpr (Or.inr ⟨hn2, x2.1, x2.2, notsg _ hT2⟩)
                  have f3 := (d5 (w p3) (x p3) o2'' o3'').mpr (Or.inl ⟨hn3', x3⟩)
                  refine ⟨by omega, f1.1, Or.inr (by rw [x1.1]; exact hT1), by rw [x1.1]; exact f2.1, Or.inr ?_, ?_⟩
                  · rw [x1.1, x2.1, show c1 + c2 + 1 = c1 + 1 + c2 by omega]; exact hT2
                  · rw [x1.1, x2.1, show c1 + c2 + 2 = c1 + 1 + c2 + 1 by omega]; exact f3.1
                · rcases all3 p hp with rfl | rfl | rfl
                  · rw [w1c]; exact Or.inr (Or.inr (by omega))
                  · rw [w2c]; exact Or.inr (Or.inr (by omega))
                  · exact Or.inl rfl
                · by_cases hm3 : c3 < mnN p3
                  · right
                    refine ⟨by rw [eS, z3', if_pos hm3, lack_st, if_neg hn3], fun w x hok hC => ?_⟩
                    obtain ⟨q1, q2, q3⟩ := third w x hok hC
                    have := (hok p3 hp3).1
                    omega
                  · left
                    refine ⟨by rw [eS, z3', if_neg hm3], by omega, fun p hp => ?_, rfl⟩
                    rcases all3 p hp with rfl | rfl | rfl
                    · rw [w1c]; omega
                    · rw [w2c]; omega
                    · rw [w3c]; omega
            · have hnq : (needS T n sg s2).2.2.2.2.1 = 2 := by
                unfold needS needQ
                rw [t3]
                rw [if_neg (by simp only [passB, decide_eq_true_eq]; exact fun q => hT2 q.2.2), lack_st, if_pos hn2]
              have hne : ¬ (needS T n sg s2).2.2.2.2.1 = 0 := by rw [hnq]; decide
              have eS : S = needS T n sg s2 := by rw [hS, partS_st hne, closeS_st hne]
              refine ⟨_, _, by rw [eS]; exact t1, cu2, Or.inl ⟨by rw [eS]; exact hnq, fun w x hok hC => ?_⟩⟩
              obtain ⟨q1, q2⟩ := second w x hok hC
              rcases q2 with q2 | q2
              · omega
              · have hC5 := hC.2.2.2.2.1
                rw [q1.1, q2.2.1, show c1 + c2 + 1 = c1 + 1 + c2 by omega] at hC5
                rcases hC5 with q | q
                · omega
                · exact hT2 q
        · have hn2' : c1 + 1 + c2 = n := by omega
          have hq1 : (needS T n sg s2).2.2.2.2.1 = 1 ∧ (needS T n sg s2).1 = s2.1 := by
            refine ⟨?_, rfl⟩
            unfold needS needQ
            rw [t3]
            by_cases hm2 : c2 < mnN p2
            · rw [if_pos hm2, lack_st, if_neg hn2]
              rw [if_neg (by simp only [passB, decide_eq_true_eq]; exact fun q => absurd q.1 (by decide))]
              rfl
            · rw [if_neg hm2]
              rw [if_neg (by simp only [passB, decide_eq_true_eq]; exact fun q => hn2 q.2.1), lack_st, if_neg hn2]
          have hne : ¬ (needS T n sg s2).2.2.2.2.1 = 0 := by rw [hq1.1]; decide
          have eS : S = needS T n sg s2 := by rw [hS, partS_st hne, closeS_st hne]
          generalize hcc : updN (updN (fun _ => 0) p1 c1) p2 c2 = c at t1 cu2 v1c v2c v3c
          generalize huu : updN (updN (fun _ => 0) p1 (un T 0 c1)) p2 (un T (c1 + 1) c2) = u at t1 cu2 v1u v2u v3u
          refine ⟨c, u, by rw [eS]; exact t1, cu2, Or.inr ⟨p2, hp2, by rw [eS, hq1.2, t2, if_neg hn2], fun w x hok => ⟨fun hC => ?_, fun hX => ?_⟩, fun p hp => (all3 p hp).elim (fun q => Or.inr (Or.inr (by rw [q, v1c]; omega))) (fun q => q.elim Or.inl (fun q => Or.inr (Or.inl (by rw [q, v3c])))), Or.inr ⟨by rw [eS]; exact hq1.1, fun w x hok hC => ?_⟩⟩⟩
          · obtain ⟨q1, q2⟩ := second w x hok hC
            have q2 := q2.resolve_right (fun q => by omega)
            intro p hp
            unfold cmpD
            rcases all3 p hp with rfl | rfl | rfl
            · rw [v1c, v1u, if_neg (fun q => q.elim h12 hm1')]; exact q1
            · rw [v2c, v2u, if_pos (Or.inl rfl)]; exact q2.2
            · rw [v3c, v3u, if_pos (Or.inr rfl)]
              exact ⟨Nat.zero_le _, Nat.div_eq_of_lt (hok p hp).2.2⟩
          · have x1 := hX p1 hp1
            have x2 := hX p2 hp2
            unfold cmpD at x1 x2
            rw [v1c, v1u, if_neg (fun q => q.elim h12 hm1')] at x1
            rw [v2c, v2u, if_pos (Or.inl rfl)] at x2
            obtain ⟨o1, o2, o3⟩ := hok p1 hp1
            obtain ⟨o1', o2', o3'⟩ := hok p2 hp2
            have f1 := (a5 (w p1) (x p1) o2 o3).mpr (Or.inr ⟨hn1, x1.1, x1.2, notsg _ hT1⟩)
            have f2 := (b5 (w p2) (x p2) o2' o3').mpr (Or.inl ⟨hn2', x2⟩)
            refine ⟨by omega, f1.1, Or.inr (by rw [x1.1]; exact hT1), by rw [x1.1]; exact f2.1, Or.inl (by omega), bgn_end (by omega)⟩
          · obtain ⟨q1, q2⟩ := second w x hok hC
            have q2 := q2.resolve_right (fun q => by omega)
            omega
      · have hnq : (needS T n sg s1).2.2.2.2.1 = 2 := by
          unfold needS needQ
          rw [r3]
          rw [if_neg (by simp only [passB, decide_eq_true_eq]; exact fun q => hT1 q.2.2), lack_st, if_pos hn1]
        have hne : ¬ (needS T n sg s1).2.2.2.2.1 = 0 := by rw [hnq]; decide
        have eS : S = needS T n sg s1 := by rw [hS, partS_st hne, tail_st hne]
        refine ⟨_, _, by rw [eS]; exact r1, cu1, Or.inl ⟨by rw [eS]; exact hnq, fun w x hok hC => ?_⟩⟩
        rcases first w x hok hC with q | q
        · omega
        · have hC3 := hC.2.2.1
          rw [q.2.1] at hC3
          rcases hC3 with r | r
          · omega
          · exact hT1 r
  · have hn1' : c1 = n := by omega
    have hq1 : (needS T n sg s1).2.2.2.2.1 = 1 ∧ (needS T n sg s1).1 = s1.1 := by
      refine ⟨?_, rfl⟩
      unfold needS needQ
      rw [r3]
      by_cases hm1 : c1 < mnN p1
      · rw [if_pos hm1, lack_st, if_neg hn1]
        rw [if_neg (by simp only [passB, decide_eq_true_eq]; exact fun q => absurd q.1 (by decide))]
        rfl
      · rw [if_neg hm1]
        rw [if_neg (by simp only [passB, decide_eq_true_eq]; exact fun q => hn1 q.2.1), lack_st, if_neg hn1]
    have hne : ¬ (needS T n sg s1).2.2.2.2.1 = 0 := by rw [hq1.1]; decide
    have eS : S = needS T n sg s1 := by rw [hS, partS_st hne, tail_st hne]
    have v1c : updN (fun _ => 0) p1 c1 p1 = c1 := if_pos rfl
    have v1u : updN (fun _ => 0) p1 (un T 0 c1) p1 = un T 0 c1 := if_pos rfl
    have v0c : ∀ p, ¬ p = p1 → updN (fun _ => 0) p1 c1 p = 0 := fun p h => if_neg h
    have v0u : ∀ p, ¬ p = p1 → updN (fun _ => 0) p1 (un T 0 c1) p = 0 := fun p h => if_neg h
    generalize hcc : updN (fun _ => 0) p1 c1 = c at r1 cu1 v1c v0c
    generalize huu : updN (fun _ => 0) p1 (un T 0 c1) = u at r1 cu1 v1u v0u
    refine ⟨c, u, by rw [eS]; exact r1, cu1, Or.inr ⟨p1, hp1, by rw [eS, hq1.2, r2, if_neg hn1], fun w x hok => ⟨fun hC => ?_, fun hX => ?_⟩, fun p hp => (Decidable.em (p = p1)).elim Or.inl (fun q => Or.inr (Or.inl (v0c p q))), Or.inr ⟨by rw [eS]; exact hq1.1, fun w x hok hC => ?_⟩⟩⟩
    · have q := (first w x hok hC).resolve_right (fun q => by omega)
      intro p hp
      unfold cmpD
      by_cases h : p = p1
      · subst h; rw [v1c, v1u, if_pos (Or.inl rfl)]; exact q.2
      · rw [v0c p h, v0u p h, if_pos (Or.inr rfl)]
        exact ⟨Nat.zero_le _, Nat.div_eq_of_lt (hok p hp).2.2⟩
    · have x1 := hX p1 hp1
      unfold cmpD at x1
      rw [v1c, v1u, if_pos (Or.inl rfl)] at x1
      obtain ⟨o1, o2, o3⟩ := hok p1 hp1
      have f1 := (a5 (w p1) (x p1) o2 o3).mpr (Or.inl ⟨hn1', x1⟩)
      exact ⟨by omega, f1.1, Or.inl (by omega), bgn_end (by omega), Or.inl (by omega), bgn_end (by omega)⟩
    · have q := (first w x hok hC).resolve_right (fun q => by omega)
      omega
end DAYPARSE
