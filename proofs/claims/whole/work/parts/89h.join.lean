/-! ===== names one blank apart ===== -/
def fl : List Nat → List Int32
  | [] => []
  | t :: ts => 32 :: (nmB t ++ fl ts)
def jn : List Nat → List Int32
  | [] => []
  | t :: ts => nmB t ++ fl ts
theorem jw_fl {ts : List Nat} (h : ∀ t ∈ ts, t < 31) : ∀ L, ¬ L = [] → jw L ts = L ++ fl ts := by
  induction ts with
  | nil => intro L hL; show L = L ++ []; rw [List.append_nil]
  | cons t ts ih =>
    intro L hL
    show jw (adW L t) ts = _
    rw [ih (fun u hu => h u (List.mem_cons_of_mem _ hu)) _ (adW_ne (h t List.mem_cons_self))]
    unfold adW
    rw [if_neg hL]
    simp [fl]
theorem jw_jn {ts : List Nat} (h : ∀ t ∈ ts, t < 31) : jw [] ts = jn ts := by
  cases ts with
  | nil => rfl
  | cons t ts =>
    show jw (adW [] t) ts = _
    rw [jw_fl (fun u hu => h u (List.mem_cons_of_mem _ hu)) _ (adW_ne (h t List.mem_cons_self))]
    unfold adW
    rw [if_pos rfl]
    rfl
theorem fl_app (a b : List Nat) : fl (a ++ b) = fl a ++ fl b := by
  induction a with
  | nil => rfl
  | cons t ts ih => simp [fl, ih]
theorem jn_app {a : List Nat} (b : List Nat) (ha : ¬ a = []) : jn (a ++ b) = jn a ++ fl b := by
  cases a with
  | nil => exact absurd rfl ha
  | cons t ts => simp [jn, fl_app]
theorem fl_jn {a : List Nat} (ha : ¬ a = []) : fl a = 32 :: jn a := by
  cases a with
  | nil => exact absurd rfl ha
  | cons t ts => rfl
theorem jn_ne {a : List Nat} (ha : ¬ a = []) (h : ∀ t ∈ a, t < 31) : ¬ jn a = [] := by
  cases a with
  | nil => exact absurd rfl ha
  | cons t ts =>
    intro q
    exact nm_ne t (h t List.mem_cons_self) (List.append_eq_nil_iff.mp q).1
def HdB (u : List Int32) : Prop := u = [] ∨ ∃ r, u = 32 :: r
theorem hd_fl (ts : List Nat) : HdB (fl ts) := by
  cases ts with
  | nil => exact Or.inl rfl
  | cons t ts => exact Or.inr ⟨_, rfl⟩
theorem spl : ∀ (x y u v : List Int32), (∀ c ∈ x, ¬ c = 32) → (∀ c ∈ y, ¬ c = 32) → HdB u → HdB v → x ++ u = y ++ v → x = y ∧ u = v := by
  intro x
  induction x with
  | nil =>
    intro y u v hx hy hu hv e
    cases y with
    | nil => exact ⟨rfl, e⟩
    | cons c y =>
      exfalso
      have e' : u = c :: (y ++ v) := e
      rcases hu with q | ⟨r, q⟩
      · rw [q] at e'; cases e'
      · rw [q] at e'
        injection e' with e1 e2
        exact hy c List.mem_cons_self e1.symm
  | cons d x ih =>
    intro y u v hx hy hu hv e
    cases y with
    | nil =>
      exfalso
      have e' : d :: (x ++ u) = v := e
      rcases hv with q | ⟨r, q⟩
      · rw [q] at e'; cases e'
      · rw [q] at e'
        injection e' with e1 e2
        exact hx d List.mem_cons_self e1
    | cons c y =>
      have e' : d :: (x ++ u) = c :: (y ++ v) := e
      injection e' with e1 e2
      obtain ⟨r1, r2⟩ := ih y u v (fun c hc => hx c (List.mem_cons_of_mem _ hc)) (fun c hc => hy c (List.mem_cons_of_mem _ hc)) hu hv e2
      exact ⟨by rw [e1, r1], r2⟩
theorem pre_list : ∀ (a b : List Nat) (r : List Int32), ¬ a = [] → (∀ t ∈ a, t < 31) → (∀ t ∈ b, t < 31) → HdB r → jn a ++ r = jn b → ∃ c, b = a ++ c := by
  intro a
  induction a with
  | nil => intro b r h; exact absurd rfl h
  | cons t ts ih =>
    intro b r _ ha hb hr e
    cases b with
    | nil =>
      exfalso
      exact jn_ne (a := t :: ts) (by simp) ha (List.append_eq_nil_iff.mp e).1
    | cons u us =>
      have ht := ha t List.mem_cons_self
      have hu := hb u List.mem_cons_self
      have e' : nmB t ++ (fl ts ++ r) = nmB u ++ fl us := by
        rw [← List.append_assoc]
        exact e
      have hh : HdB (fl ts ++ r) := by
        cases ts with
        | nil => exact hr
        | cons t' ts' => exact Or.inr ⟨_, rfl⟩
      obtain ⟨e1, e2⟩ := spl _ _ _ _ (fun c hc => (nm_chr t ht c hc).2.2) (fun c hc => (nm_chr u hu c hc).2.2) hh (hd_fl us) e'
      have etu := nm_inj t ht u hu e1
      subst etu
      by_cases hts : ts = []
      · subst hts
        exact ⟨us, rfl⟩
      · by_cases hus : us = []
        · subst hus
          rw [fl_jn hts] at e2
          cases e2
        · rw [fl_jn hts, fl_jn hus] at e2
          injection e2 with e3 e4
          obtain ⟨c, hc⟩ := ih us r hts (fun t ht => ha t (List.mem_cons_of_mem _ ht)) (fun t ht => hb t (List.mem_cons_of_mem _ ht)) hr e4
          exact ⟨c, by rw [hc]; rfl⟩
theorem lf_l {X Y : List Int32} {k : Nat} (h : k < X.length) : lf (X ++ Y) k = lf X k := by
  unfold lf
  rw [List.getD_eq_getElem?_getD, List.getD_eq_getElem?_getD, List.getElem?_append_left h]
theorem lf_r (X Y : List Int32) (k : Nat) : lf (X ++ Y) (X.length + k) = lf Y k := by
  unfold lf
  rw [List.getD_eq_getElem?_getD, List.getD_eq_getElem?_getD, List.getElem?_append_right (by omega), Nat.add_sub_cancel_left]
theorem lf_s (c : Int32) (Y : List Int32) (k : Nat) : lf (c :: Y) (k + 1) = lf Y k := rfl
theorem lf_ext {X Y : List Int32} (hl : X.length = Y.length) (h : ∀ k, k < X.length → lf X k = lf Y k) : X = Y := by
  apply List.ext_getElem hl
  intro k h1 h2
  have := h k h1
  unfold lf at this
  rw [List.getD_eq_getElem?_getD, List.getD_eq_getElem?_getD, List.getElem?_eq_getElem h1, List.getElem?_eq_getElem h2] at this
  exact this
/-- from p on, a line of n bytes is these names -/
def Suf (T : Nat → Int32) (n p : Nat) (ts : List Nat) : Prop := n = p + (jn ts).length ∧ ∀ k, k < (jn ts).length → T (p + k) = lf (jn ts) k
/-- these letters stand at p, and end there -/
abbrev At (T : Nat → Int32) (n p : Nat) (L : List Int32) : Prop := p + L.length ≤ n ∧ (∀ k, k < L.length → T (p + k) = lf L k) ∧ (p + L.length = n ∨ T (p + L.length) = 32)
theorem at_pre {T : Nat → Int32} {n p : Nat} {a b : List Nat} (hs : Suf T n p b) (h : At T n p (jn a)) (ha : ¬ a = []) (va : ∀ t ∈ a, t < 31) (vb : ∀ t ∈ b, t < 31) : ∃ c, b = a ++ c := by
  obtain ⟨s1, s2⟩ := hs
  obtain ⟨h1, h2, h3⟩ := h
  have hle : (jn a).length ≤ (jn b).length := by omega
  have e : jn b = jn a ++ (jn b).drop (jn a).length := by
    have e1 : (jn b).take (jn a).length = jn a := by
      apply lf_ext
      · rw [List.length_take]; omega
      · intro k hk
        rw [List.length_take] at hk
        have hk' : k < (jn a).length := by omega
        rw [← h2 k hk', s2 k (by omega)]
        unfold lf
        rw [List.getD_eq_getElem?_getD, List.getD_eq_getElem?_getD, List.getElem?_take_of_lt hk']
    calc jn b = (jn b).take (jn a).length ++ (jn b).drop (jn a).length := (List.take_append_drop _ _).symm
      _ = _ := by rw [e1]
  refine pre_list a b _ ha va vb ?_ e.symm
  rcases Nat.lt_or_ge (jn a).length (jn b).length with q | q
  · right
    have h32 : T (p + (jn a).length) = 32 := h3.resolve_left (by omega)
    rw [s2 _ q] at h32
    cases hd : (jn b).drop (jn a).length with
    | nil =>
      have := congrArg List.length hd
      rw [List.length_drop] at this
      simp at this
      omega
    | cons c r =>
      refine ⟨r, ?_⟩
      rw [e, hd] at h32
      have h33 := lf_r (jn a) (c :: r) 0
      rw [Nat.add_zero] at h33
      rw [h33] at h32
      have h34 : c = 32 := h32
      rw [h34]
  · left
    exact List.drop_eq_nil_of_le q
theorem pre_at {T : Nat → Int32} {n p : Nat} {a c : List Nat} (hs : Suf T n p (a ++ c)) (ha : ¬ a = []) : At T n p (jn a) := by
  obtain ⟨s1, s2⟩ := hs
  rw [jn_app c ha] at s1 s2
  rw [List.length_append] at s1 s2
  refine ⟨by omega, fun k hk => ?_, ?_⟩
  · rw [s2 k (by omega), lf_l hk]
  · by_cases hc : c = []
    · subst hc
      left
      rw [s1]
      rfl
    · right
      rw [fl_jn hc] at s2
      rw [s2 _ (by simp)]
      have := lf_r (jn a) (32 :: jn c) 0
      rw [Nat.add_zero] at this
      rw [this]
      rfl
theorem suf_step {T : Nat → Int32} {n p : Nat} {a c : List Nat} (hs : Suf T n p (a ++ c)) (ha : ¬ a = []) (hc : ¬ c = []) : Suf T n (p + (jn a).length + 1) c := by
  obtain ⟨s1, s2⟩ := hs
  rw [jn_app c ha, fl_jn hc] at s1 s2
  rw [List.length_append, List.length_cons] at s1 s2
  refine ⟨by omega, fun k hk => ?_⟩
  have h := s2 ((jn a).length + (k + 1)) (by omega)
  rw [lf_r, lf_s] at h
  rw [← h]
  congr 1
  omega
