/-! ===== amounts: the class's parser finds what the search finds ===== -/
def mkOk (mk : Int32) : Prop := ¬ mk < 0 ∧ ltr ((mk >>> ((16 : Int32) &&& 31)) &&& (255 : Int32)) ∧ ltr ((mk >>> ((8 : Int32) &&& 31)) &&& (255 : Int32)) ∧ ltr (mk &&& (255 : Int32))
theorem mbyte_eq {mk : Int32} (h : ¬ mk < 0) : mbyte mk 0 = (mk >>> ((16 : Int32) &&& 31)) &&& (255 : Int32) ∧ mbyte mk 1 = (mk >>> ((8 : Int32) &&& 31)) &&& (255 : Int32) ∧ mbyte mk 2 = mk &&& (255 : Int32) := by
  obtain ⟨j, hj, rfl⟩ := nI_of h
  unfold mbyte
  refine ⟨?_, ?_, ?_⟩
  · rw [pk_ushrN (by omega) _ 16 (by decide), pk_shrN hj _ 16 (by decide)]
  · rw [pk_ushrN (by omega) _ 8 (by decide), pk_shrN hj _ 8 (by decide)]
  · rw [pk_ushrN (by omega) _ 0 (by decide)]
    rw [show j / 2 ^ 0 = j by omega]
theorem mk_ltr {mk : Int32} (h : mkOk mk) : ∀ i, i < 3 → ltr (mbyte mk i) := by
  intro i hi
  obtain ⟨e0, e1, e2⟩ := mbyte_eq h.1
  rcases (show i = 0 ∨ i = 1 ∨ i = 2 by omega) with rfl | rfl | rfl
  · rw [e0]; exact h.2.1
  · rw [e1]; exact h.2.2.1
  · rw [e2]; exact h.2.2.2
theorem kmk_iff {mk : Int32} (h : ¬ mk < 0) {K : Pat → Bool → Prop} {Q : Pat} {b : Bool} : Kmk mk K Q b ↔ ∃ Q', Q = mkPat mk ++ Q' ∧ K Q' b := by
  obtain ⟨e0, e1, e2⟩ := mbyte_eq h
  unfold Kmk mkPat
  rw [e0, e1, e2]
  rfl
section AMTLINK
variable {pt g x mk bh kd mo mn : Int32}
theorem ka_iff (hk : ¬ mk < 0) (hmo : ¬ mo = 0 ↔ kd = 1) (hmn : mn = 0 ∨ mn = 1 ∨ mn = 2) {P : Pat} {b : Bool} : KA pt g x mk bh mo mn P b ↔ CA pt g x mn mk bh kd P b := by
  -- what stands behind the number
  have hbeh : ∀ (K : Pat → Bool → Prop) Q b, Kbeh mk bh mo K Q b ↔ ∃ blank : Bool, ∃ Q', Q = (if kd = 1 ∧ ¬ bh = 0 then (if blank = true then [(32, 0)] else []) ++ mkPat mk else []) ++ Q' ∧ K Q' b := by
    intro K Q b
    unfold Kbeh
    by_cases hc : kd = 1 ∧ ¬ bh = 0
    · rw [if_pos ⟨hmo.mpr hc.1, hc.2⟩]
      simp only [if_pos hc]
      unfold Kbl
      constructor
      · rintro (⟨Q', rfl, hQ⟩ | hQ)
        · obtain ⟨Q2, rfl, hQ2⟩ := (kmk_iff hk).mp hQ
          exact ⟨true, Q2, rfl, hQ2⟩
        · obtain ⟨Q2, rfl, hQ2⟩ := (kmk_iff hk).mp hQ
          exact ⟨false, Q2, rfl, hQ2⟩
      · rintro ⟨blank, Q2, rfl, hQ⟩
        cases blank with
        | true => exact Or.inl ⟨mkPat mk ++ Q2, rfl, (kmk_iff hk).mpr ⟨Q2, rfl, hQ⟩⟩
        | false => exact Or.inr ((kmk_iff hk).mpr ⟨Q2, rfl, hQ⟩)
    · rw [if_neg (fun q => hc ⟨hmo.mp q.1, q.2⟩)]
      simp only [if_neg hc]
      exact ⟨fun h => ⟨false, Q, rfl, h⟩, fun ⟨_, Q', e, h⟩ => by rw [e]; exact h⟩
  have hnum : ∀ below Q b, KN pt g x mk bh mo mn below Q b ↔ ∃ w, 1 ≤ w ∧ w ≤ 9 ∧ ∃ p, p ≤ 6 ∧ ∃ gr : Bool, (gr = true → 4 ≤ w ∧ ¬ g = 0) ∧ ∃ blank : Bool, (mn = 1 ∨ b = below) ∧ Q = nPat pt g x w p gr ++ ((if kd = 1 ∧ ¬ bh = 0 then (if blank = true then [(32, 0)] else []) ++ mkPat mk else []) ++ (if b = true ∧ ¬ mn = 0 then [(if mn = 1 then 45 else 41, 0)] else [])) := by
    intro below Q b
    unfold KN
    rw [kw_iff]
    unfold nPat
    constructor
    · rintro ⟨w, w1, w2, gr, hgr, Q1, rfl, p, p1, Q2, rfl, hQ⟩
      obtain ⟨blank, Q3, rfl, hE, rfl⟩ := (hbeh _ _ _).mp hQ
      exact ⟨w, w1, w2, p, p1, gr, hgr, blank, hE, by simp only [List.append_assoc]⟩
    · rintro ⟨w, w1, w2, p, p1, gr, hgr, blank, hE, rfl⟩
      refine ⟨w, w1, w2, gr, hgr, _, List.append_assoc _ _ _, p, p1, _, rfl, ?_⟩
      exact (hbeh _ _ _).mpr ⟨blank, _, rfl, hE, rfl⟩
  have hah : ∀ below Q b, KH pt g x mk bh mo mn below Q b ↔ ∃ w, 1 ≤ w ∧ w ≤ 9 ∧ ∃ p, p ≤ 6 ∧ ∃ gr : Bool, (gr = true → 4 ≤ w ∧ ¬ g = 0) ∧ ∃ blank : Bool, (mn = 1 ∨ b = below) ∧ Q = (if kd = 1 ∧ bh = 0 then mkPat mk ++ (if blank = true then [(32, 0)] else []) else []) ++ (nPat pt g x w p gr ++ ((if kd = 1 ∧ ¬ bh = 0 then (if blank = true then [(32, 0)] else []) ++ mkPat mk else []) ++ (if b = true ∧ ¬ mn = 0 then [(if mn = 1 then 45 else 41, 0)] else []))) := by
    intro below Q b
    unfold KH
    by_cases hc : kd = 1 ∧ bh = 0
    · rw [if_pos ⟨hmo.mpr hc.1, hc.2⟩, kmk_iff hk]
      simp only [if_pos hc]
      have hn : ¬ (kd = 1 ∧ ¬ bh = 0) := fun q => q.2 hc.2
      constructor
      · rintro ⟨Q1, rfl, ⟨Q2, rfl, hQ⟩ | hQ⟩
        · obtain ⟨w, w1, w2, p, p1, gr, hgr, blank, hE, rfl⟩ := (hnum _ _ _).mp hQ
          refine ⟨w, w1, w2, p, p1, gr, hgr, true, hE, ?_⟩
          simp only [if_neg hn, if_true, List.append_assoc, List.cons_append, List.nil_append]
        · obtain ⟨w, w1, w2, p, p1, gr, hgr, blank, hE, rfl⟩ := (hnum _ _ _).mp hQ
          refine ⟨w, w1, w2, p, p1, gr, hgr, false, hE, ?_⟩
          simp only [if_neg hn, Bool.false_eq_true, if_false, List.append_assoc, List.nil_append]
      · rintro ⟨w, w1, w2, p, p1, gr, hgr, blank, hE, rfl⟩
        refine ⟨_, by rw [List.append_assoc], ?_⟩
        have hN := (hnum below _ b).mpr ⟨w, w1, w2, p, p1, gr, hgr, blank, hE, rfl⟩
        cases blank with
        | true => exact Or.inl ⟨_, rfl, hN⟩
        | false => exact Or.inr hN
    · rw [if_neg (fun q => hc ⟨hmo.mp q.1, q.2⟩)]
      simp only [if_neg hc, List.nil_append]
      exact hnum below Q b
  unfold KA CA aPat
  by_cases h1 : mn = 1
  · rw [if_pos h1, hah]
    have e : ∀ c : Bool, ¬ (c = true ∧ ¬ mn = 1) := fun c q => q.2 h1
    simp only [if_neg (e _), List.nil_append]
    constructor
    · rintro ⟨w, w1, w2, p, p1, gr, hgr, blank, -, hP⟩
      exact ⟨w, w1, w2, p, p1, gr, hgr, blank, hP⟩
    · rintro ⟨w, w1, w2, p, p1, gr, hgr, blank, hP⟩
      exact ⟨w, w1, w2, p, p1, gr, hgr, blank, Or.inl h1, hP⟩
  · rw [if_neg h1]
    have e : (if mn = 2 then (40 : Int32) else 45) = if mn = 0 then 45 else 40 := by
      rcases hmn with rfl | rfl | rfl
      · rfl
      · exact absurd rfl h1
      · rfl
    rw [e]
    constructor
    · rintro (⟨Q1, rfl, hQ⟩ | hQ)
      · obtain ⟨w, w1, w2, p, p1, gr, hgr, blank, hE, rfl⟩ := (hah _ _ _).mp hQ
        have hb : b = true := hE.resolve_left h1
        subst hb
        refine ⟨w, w1, w2, p, p1, gr, hgr, blank, ?_⟩
        rw [if_pos (show true = true ∧ ¬ mn = 1 from ⟨rfl, h1⟩)]
        rfl
      · obtain ⟨w, w1, w2, p, p1, gr, hgr, blank, hE, rfl⟩ := (hah _ _ _).mp hQ
        have hb : b = false := hE.resolve_left h1
        subst hb
        refine ⟨w, w1, w2, p, p1, gr, hgr, blank, ?_⟩
        rw [if_neg (fun q : false = true ∧ ¬ mn = 1 => by cases q.1)]
        rfl
    · rintro ⟨w, w1, w2, p, p1, gr, hgr, blank, rfl⟩
      cases b with
      | true =>
        left
        rw [if_pos (show true = true ∧ ¬ mn = 1 from ⟨rfl, h1⟩)]
        exact ⟨_, rfl, (hah _ _ _).mpr ⟨w, w1, w2, p, p1, gr, hgr, blank, Or.inr rfl, rfl⟩⟩
      | false =>
        right
        rw [if_neg (fun q : false = true ∧ ¬ mn = 1 => by cases q.1)]
        exact (hah _ _ _).mpr ⟨w, w1, w2, p, p1, gr, hgr, blank, Or.inr rfl, rfl⟩
end AMTLINK
/-! the value -/
def c01 (P : Pat) : Prop := ∀ c ∈ P, c.2 = 0 ∨ c.2 = 1
def c02 (P : Pat) : Prop := ∀ c ∈ P, c.2 = 0 ∨ c.2 = 2
section FVAL
variable {T : Nat → Int32}
theorem fv1_a {A : Pat} (h : c01 A) (L : List Int32) (k : Nat) (v : Int64) : fv1 T (A.map Prod.snd ++ L) k v = fv1 T L (k + A.length) (cls T A k v) := by
  induction A generalizing k v with
  | nil => rfl
  | cons c r ih =>
    have hc := h c List.mem_cons_self
    simp only [List.map_cons, List.cons_append, fv1, cls, List.length_cons]
    rw [ih (fun d hd => h d (List.mem_cons_of_mem _ hd)), show k + 1 + r.length = k + (r.length + 1) by omega]
    congr 2
    rcases hc with hc | hc
    · rw [hc]; rfl
    · rw [hc, if_pos rfl, if_neg (by decide), Int64.mul_comm]
theorem fv1_b {A : Pat} (h : c02 A) (k : Nat) (v : Int64) : fv1 T (A.map Prod.snd) k v = v := by
  induction A generalizing k v with
  | nil => rfl
  | cons c r ih =>
    have hc := h c List.mem_cons_self
    simp only [List.map_cons, fv1]
    rw [ih (fun d hd => h d (List.mem_cons_of_mem _ hd))]
    rcases hc with hc | hc
    · rw [hc]; rfl
    · rw [hc]; rfl
theorem fv2_a {A : Pat} (h : c01 A) (L : List Int32) (k : Nat) (v u : Int64) : fv2 T (A.map Prod.snd ++ L) k v u = fv2 T L (k + A.length) v u := by
  induction A generalizing k with
  | nil => rfl
  | cons c r ih =>
    have hc := h c List.mem_cons_self
    simp only [List.map_cons, List.cons_append, fv2, List.length_cons]
    have h2 : ¬ c.2 = 2 := by rcases hc with hc | hc <;> rw [hc] <;> decide
    rw [if_neg h2, ih (fun d hd => h d (List.mem_cons_of_mem _ hd)), show k + 1 + r.length = k + (r.length + 1) by omega]
theorem p10_div : ∀ j, j < 6 → p10 (j + 1) / 10 = p10 j := by decide
theorem fv2_b {A : Pat} (h : c02 A) : ∀ (j k : Nat) (a : Int64), tw A ≤ j → j ≤ 6 → fv2 T (A.map Prod.snd) k (a * p10 j) (p10 j) = cls T A k a * p10 (j - tw A) := by
  induction A with
  | nil => exact fun j k a _ _ => rfl
  | cons c r ih =>
    intro j k a ht hj
    have ih := ih (fun d hd => h d (List.mem_cons_of_mem _ hd))
    simp only [List.map_cons, fv2, cls, tw] at ht ⊢
    rcases h c List.mem_cons_self with hc | hc
    · simp only [hc] at ht ⊢
      rw [if_neg (by decide), if_pos trivial, if_neg (by decide), Nat.zero_add]
      exact ih j (k + 1) a (by simpa using ht) hj
    · simp only [hc] at ht ⊢
      rw [if_pos trivial, if_neg (by decide), if_pos trivial]
      rw [if_pos trivial] at ht
      obtain ⟨j, rfl⟩ : ∃ i, j = i + 1 := ⟨j - 1, by omega⟩
      rw [p10_div j (by omega)]
      have e : a * p10 (j + 1) + p10 j * (T k - 48).toInt64 = (a * 10 + (T k - 48).toInt64) * p10 j := by
        simp only [p10]
        grind
      rw [e, ih j (k + 1) _ (by omega) (by omega)]
      congr 2
      omega
theorem fval_vq {A B : Pat} (hA : c01 A) (hB : c02 B) (ht : tw B ≤ 6) : fval (A ++ B) T = vq T 0 0 (A ++ B) := by
  have tA : tw A = 0 := by
    clear hB ht
    induction A with
    | nil => rfl
    | cons c r ih =>
      have hc := hA c List.mem_cons_self
      have h2 : ¬ c.2 = 2 := by rcases hc with hc | hc <;> rw [hc] <;> decide
      simp only [tw, if_neg h2, ih (fun d hd => hA d (List.mem_cons_of_mem _ hd))]
  unfold fval vq
  rw [List.map_append, fv1_a hA, fv1_b hB, fv2_a hA, cls_app, tw_app, tA, Nat.zero_add, Nat.zero_add]
  exact fv2_b hB 6 _ _ ht (by decide)
theorem c01_d (gp g : Int32) (gr : Bool) (w d k : Nat) : c01 (dPat gp g gr w d k) := by
  induction d generalizing k with
  | zero => intro c hc; cases hc
  | succ d ih =>
    intro c hc
    simp only [dPat, List.mem_cons, List.mem_append] at hc
    rcases hc with rfl | hc | hc
    · exact Or.inr rfl
    · split at hc
      · simp only [List.mem_singleton] at hc
        rw [hc]; exact Or.inl rfl
      · cases hc
    · exact ih (k + 1) c hc
theorem fval_c {pt g gp mn mk bh kd : Int32} {P : Pat} {b : Bool} (h : CA pt g gp mn mk bh kd P b) : fval P T = vq T 0 0 P := by
  obtain ⟨w, w1, w2, p, p1, gr, hgr, blank, rfl⟩ := h
  have z1 : ∀ c ∈ (if b = true ∧ ¬ mn = 1 then [(if mn = 0 then (45 : Int32) else 40, (0 : Int32))] else []), c.2 = 0 := by
    intro c hc
    split at hc
    · simp only [List.mem_singleton] at hc; rw [hc]
    · cases hc
  have z2 : ∀ c ∈ (if kd = 1 ∧ bh = 0 then mkPat mk ++ (if blank = true then [((32 : Int32), (0 : Int32))] else []) else []), c.2 = 0 := by
    intro c hc
    split at hc
    · cases blank <;> simp [mkPat] at hc <;> rcases hc with rfl | rfl | rfl | rfl <;> rfl
    · cases hc
  have z3 : ∀ c ∈ (if kd = 1 ∧ ¬ bh = 0 then (if blank = true then [((32 : Int32), (0 : Int32))] else []) ++ mkPat mk else []), c.2 = 0 := by
    intro c hc
    split at hc
    · cases blank <;> simp [mkPat] at hc <;> rcases hc with rfl | rfl | rfl | rfl <;> rfl
    · cases hc
  have z4 : ∀ c ∈ (if b = true ∧ ¬ mn = 0 then [(if mn = 1 then (45 : Int32) else 41, (0 : Int32))] else []), c.2 = 0 := by
    intro c hc
    split at hc
    · simp only [List.mem_singleton] at hc; rw [hc]
    · cases hc
  have tz : ∀ L : Pat, (∀ c ∈ L, c.2 = 0) → tw L = 0 := fun L hL => (z0_cls (T := T) hL 0 0).2
  have e : aPat pt g gp mn mk bh kd w p gr b blank = ((if b = true ∧ ¬ mn = 1 then [(if mn = 0 then (45 : Int32) else 40, (0 : Int32))] else []) ++ ((if kd = 1 ∧ bh = 0 then mkPat mk ++ (if blank = true then [((32 : Int32), (0 : Int32))] else []) else []) ++ dPat gp g gr w w 0)) ++ (pPat pt p ++ ((if kd = 1 ∧ ¬ bh = 0 then (if blank = true then [((32 : Int32), (0 : Int32))] else []) ++ mkPat mk else []) ++ (if b = true ∧ ¬ mn = 0 then [(if mn = 1 then (45 : Int32) else 41, (0 : Int32))] else []))) := by
    unfold aPat nPat
    simp only [List.append_assoc]
  rw [e]
  have hp : c02 (pPat pt p) ∧ tw (pPat pt p) ≤ 6 := by
    cases p with
    | zero => exact ⟨(fun c hc => by cases hc), (show 0 ≤ 6 by decide)⟩
    | succ p =>
      rw [pPat_s]
      constructor
      · intro c hc
        rcases List.mem_cons.mp hc with rfl | hc
        · exact Or.inl rfl
        · rw [List.eq_of_mem_replicate hc]; exact Or.inr rfl
      · show 0 + tw (List.replicate (p + 1) (-1, 2)) ≤ 6
        rw [tw_rep2]; omega
  refine fval_vq ?_ ?_ ?_
  · intro c hc
    simp only [List.mem_append] at hc
    rcases hc with hc | hc | hc
    · exact Or.inl (z1 c hc)
    · exact Or.inl (z2 c (by simpa using hc))
    · exact c01_d _ _ _ _ _ _ c hc
  · intro c hc
    rcases List.mem_append.mp hc with hc | hc
    · exact hp.1 c hc
    · rcases List.mem_append.mp hc with hc | hc
      · exact Or.inl (z3 c hc)
      · exact Or.inl (z4 c hc)
  · rw [tw_app, tw_app, tz _ z3, tz _ z4]
    omega
end FVAL
theorem scan_2 {T : Nat → Int32} {n : Nat} : ∀ (L : List (Pat × Bool)) (best : Int32), (∃ P b, (P, b) ∈ L ∧ mres P T n = 2) → ∃ P b, (P, b) ∈ L ∧ mres P T n = 2 ∧ scan T n L best = (2, some (if b = true then - fval P T else fval P T)) := by
  intro L
  induction L with
  | nil => rintro best ⟨P, b, h, -⟩; cases h
  | cons q r ih =>
    obtain ⟨P, b⟩ := q
    rintro best ⟨P', b', h, h2⟩
    by_cases hm : mres P T n = 2
    · exact ⟨P, b, List.mem_cons_self, hm, by rw [scan, if_pos hm]⟩
    · have : (P', b') ∈ r := by
        rcases List.mem_cons.mp h with q | q
        · cases q; exact absurd h2 hm
        · exact q
      obtain ⟨P2, b2, h3, h4, h5⟩ := ih (if mres P T n ≤ best then best else mres P T n) ⟨P', b', this, h2⟩
      exact ⟨P2, b2, List.mem_cons_of_mem _ h3, h4, by rw [scan, if_neg hm]; exact h5⟩
theorem scan_01 {T : Nat → Int32} {n : Nat} : ∀ (L : List (Pat × Bool)) (best : Int32), (best = 0 ∨ best = 1) → (∀ P b, (P, b) ∈ L → ¬ mres P T n = 2) → ((best = 1 ∨ ∃ P b, (P, b) ∈ L ∧ mres P T n = 1) → scan T n L best = (1, none)) ∧ ((best = 0 ∧ ∀ P b, (P, b) ∈ L → mres P T n = 0) → scan T n L best = (0, none)) := by
  intro L
  induction L with
  | nil =>
    intro best hb hn
    refine ⟨fun h => ?_, fun h => ?_⟩
    · rcases h with h | ⟨P, b, h, -⟩
      · rw [scan, h]
      · cases h
    · rw [scan, h.1]
  | cons q r ih =>
    obtain ⟨P, b⟩ := q
    intro best hb hn
    have hm : ¬ mres P T n = 2 := hn P b List.mem_cons_self
    have hr : ∀ P b, (P, b) ∈ r → ¬ mres P T n = 2 := fun P b h => hn P b (List.mem_cons_of_mem _ h)
    rw [scan, if_neg hm]
    rcases mres_012 (T := T) (n := n) P with h0 | h1 | h2
    · have e : (if mres P T n ≤ best then best else mres P T n) = best := by
        rw [h0, if_pos (by rcases hb with rfl | rfl <;> decide)]
      rw [e]
      have ih := ih best hb hr
      refine ⟨fun h => ih.1 ?_, fun h => ih.2 ⟨h.1, fun P b hh => h.2 P b (List.mem_cons_of_mem _ hh)⟩⟩
      rcases h with h | ⟨P', b', h, h1⟩
      · exact Or.inl h
      · rcases List.mem_cons.mp h with q | q
        · cases q; rw [h0] at h1; exact absurd h1 (by decide)
        · exact Or.inr ⟨P', b', q, h1⟩
    · have e : (if mres P T n ≤ best then best else mres P T n) = 1 := by
        rw [h1]
        rcases hb with rfl | rfl <;> decide
      rw [e]
      have ih := ih 1 (Or.inr rfl) hr
      refine ⟨fun _ => ih.1 (Or.inl rfl), fun h => ?_⟩
      have := h.2 P b List.mem_cons_self
      rw [h1] at this
      exact absurd this (by decide)
    · exact absurd h2 hm
/-- the class's parser and the search agree -/
theorem amt_same {T : Nat → Int32} {n : Nat} {pt g x mn mk bh kd mo : Int32} (hg : gOk pt g) (hmn : mn = 0 ∨ mn = 1 ∨ mn = 2) (hk : mkOk mk) (hmo : ¬ mo = 0 ↔ kd = 1) (hT : ∀ k, k < n → ¬ T k < 0) (w : Bool × Qs) (hw : w = amtQ T n pt g x mn mk bh mo) :
    (w.2.2.1 = 0 ∧ scan T n (cands pt g x mn mk bh kd (if kd = 1 then 4 else 2)) 0 = (2, some (if w.1 = true then - w.2.2.2 else w.2.2.2))) ∨
    (w.2.2.1 = 1 ∧ scan T n (cands pt g x mn mk bh kd (if kd = 1 then 4 else 2)) 0 = (1, none)) ∨
    (w.2.2.1 = 2 ∧ scan T n (cands pt g x mn mk bh kd (if kd = 1 then 4 else 2)) 0 = (0, none)) := by
  have hI : Is T n (CA pt g x mn mk bh kd) (vq T 0 0) 0 w := by
    rw [hw]
    exact Is.congr (is_amt hg hmn (mk_ltr hk) hT) (fun Q b => ka_iff hk.1 hmo hmn) (fun _ _ _ => rfl)
  obtain ⟨h1, h2, h3, h4⟩ := hI
  have full : ∀ P b, CA pt g x mn mk bh kd P b → mres P T n = 2 → w.2.2.1 = 0 ∧ w.1 = b ∧ w.2.2.2 = vq T 0 0 P := by
    intro P b hC hm
    obtain ⟨e1, e2⟩ := mres_2.mp hm
    exact (h1 P b hC e2 (by omega)).2 (by omega)
  rcases h4 with h | h | h
  · left
    refine ⟨h, ?_⟩
    obtain ⟨P, b, q1, q2, q3⟩ := h2 h
    obtain ⟨P', b', r1, r2, r3⟩ := scan_2 (T := T) (n := n) _ 0 ⟨P, b, mem_cands.mpr q1, mres_2.mpr ⟨by omega, q2⟩⟩
    have hC := mem_cands.mp r1
    obtain ⟨f1, f2, f3⟩ := full P' b' hC r2
    rw [r3, f2, f3, fval_c hC]
  · right; left
    refine ⟨h, ?_⟩
    obtain ⟨P, b, q1, q2, q3⟩ := h3 h
    have hn : ∀ P b, (P, b) ∈ cands pt g x mn mk bh kd (if kd = 1 then 4 else 2) → ¬ mres P T n = 2 := by
      intro P b hP hm
      have := (full P b (mem_cands.mp hP) hm).1
      rw [h] at this
      exact absurd this (by decide)
    refine (scan_01 _ 0 (Or.inl rfl) hn).1 (Or.inr ⟨P, b, mem_cands.mpr q1, ?_⟩)
    refine mres_1.mpr ⟨?_, q2⟩
    rcases Nat.lt_or_ge n P.length with q | q
    · exact q
    · exact absurd (mres_2.mpr ⟨by omega, q2⟩) (hn P b (mem_cands.mpr q1))
  · right; right
    refine ⟨h, ?_⟩
    have hz : ∀ P b, (P, b) ∈ cands pt g x mn mk bh kd (if kd = 1 then 4 else 2) → mres P T n = 0 := by
      intro P b hP
      have hC := mem_cands.mp hP
      rcases mres_012 (T := T) (n := n) P with q | q | q
      · exact q
      · obtain ⟨e1, e2⟩ := mres_1.mp q
        exact absurd h (h1 P b hC e2 (by omega)).1
      · have := (full P b hC q).1
        rw [h] at this
        exact absurd this (by decide)
    exact (scan_01 _ 0 (Or.inl rfl) (fun P b hP => by rw [hz P b hP]; decide)).2 ⟨rfl, hz⟩
