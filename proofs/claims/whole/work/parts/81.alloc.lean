/-! ===== memory with new cells one after the other ===== -/
def al (M : Mem) (L : List ME) : Mem := (M.1 + L.length, fun a => if M.1 ≤ a ∧ a < M.1 + L.length then L[a - M.1]? else M.2.1 a, M.2.2)
theorem al_nil (M : Mem) : al M [] = M := by
  refine Prod.ext rfl (Prod.ext (funext fun a => ?_) rfl)
  show (if M.1 ≤ a ∧ a < M.1 + 0 then _ else M.2.1 a) = _
  rw [if_neg (by omega)]
theorem al_at (M : Mem) {L : List ME} {i : Nat} (h : i < L.length) : (al M L).2.1 (M.1 + i) = L[i]? := by
  show (if M.1 ≤ M.1 + i ∧ M.1 + i < M.1 + L.length then L[M.1 + i - M.1]? else _) = _
  rw [if_pos (by omega), Nat.add_sub_cancel_left]
theorem al_old (M : Mem) (L : List ME) {a : Nat} (h : a < M.1) : (al M L).2.1 a = M.2.1 a := by
  show (if M.1 ≤ a ∧ a < M.1 + L.length then _ else M.2.1 a) = _
  rw [if_neg (by omega)]
theorem al_nw (M : Mem) (L : List ME) (e : ME) : mnw (al M L) e = al M (L ++ [e]) := by
  refine Prod.ext ?_ (Prod.ext (funext fun a => ?_) rfl)
  · show M.1 + L.length + 1 = M.1 + (L ++ [e]).length
    rw [List.length_append]
    rfl
  · show (if a = M.1 + L.length then some e else if M.1 ≤ a ∧ a < M.1 + L.length then L[a - M.1]? else M.2.1 a) = if M.1 ≤ a ∧ a < M.1 + (L ++ [e]).length then (L ++ [e])[a - M.1]? else M.2.1 a
    rw [List.length_append, List.length_singleton]
    by_cases h : a = M.1 + L.length
    · rw [if_pos h, if_pos (by omega), List.getElem?_append_right (by omega), show a - M.1 - L.length = 0 by omega]
      rfl
    · rw [if_neg h]
      by_cases h2 : M.1 ≤ a ∧ a < M.1 + L.length
      · rw [if_pos h2, if_pos (by omega), List.getElem?_append_left (by omega)]
      · rw [if_neg h2, if_neg (by omega)]
theorem al_set (M : Mem) {L : List ME} {i : Nat} (hi : i < L.length) (e : ME) : mst (al M L) (M.1 + i) e = al M (L.set i e) := by
  refine Prod.ext ?_ (Prod.ext (funext fun a => ?_) rfl)
  · show M.1 + L.length = M.1 + (L.set i e).length
    rw [List.length_set]
  · show (if a = M.1 + i then some e else if M.1 ≤ a ∧ a < M.1 + L.length then L[a - M.1]? else M.2.1 a) = if M.1 ≤ a ∧ a < M.1 + (L.set i e).length then (L.set i e)[a - M.1]? else M.2.1 a
    rw [List.length_set]
    by_cases h : a = M.1 + i
    · rw [if_pos h, if_pos (by omega), show a - M.1 = i by omega, List.getElem?_set_self hi]
    · rw [if_neg h]
      by_cases h2 : M.1 ≤ a ∧ a < M.1 + L.length
      · rw [if_pos h2, if_pos h2, List.getElem?_set_ne (by omega)]
      · rw [if_neg h2, if_neg h2]
theorem al_al (M : Mem) (L L2 : List ME) : al (al M L) L2 = al M (L ++ L2) := by
  refine Prod.ext ?_ (Prod.ext (funext fun a => ?_) rfl)
  · show M.1 + L.length + L2.length = M.1 + (L ++ L2).length
    rw [List.length_append]; omega
  · show (if M.1 + L.length ≤ a ∧ a < M.1 + L.length + L2.length then L2[a - (M.1 + L.length)]? else if M.1 ≤ a ∧ a < M.1 + L.length then L[a - M.1]? else M.2.1 a) = if M.1 ≤ a ∧ a < M.1 + (L ++ L2).length then (L ++ L2)[a - M.1]? else M.2.1 a
    rw [List.length_append]
    by_cases h : M.1 + L.length ≤ a ∧ a < M.1 + L.length + L2.length
    · rw [if_pos h, if_pos (by omega), List.getElem?_append_right (by omega), show a - M.1 - L.length = a - (M.1 + L.length) by omega]
    · rw [if_neg h]
      by_cases h2 : M.1 ≤ a ∧ a < M.1 + L.length
      · rw [if_pos h2, if_pos (by omega), List.getElem?_append_left (by omega)]
      · rw [if_neg h2, if_neg (by omega)]
theorem al_pF (M : Mem) {L : List ME} {a i ci k : Nat} {fs : List Value} (ha : a = M.1 + i) (h : L[i]? = some (.inr (ci, fs))) (hk : k < fs.length) (v : Value) : pF (al M L) ci a k v = some (al M (L.set i (.inr (ci, fs.set k v)))) := by
  have hi : i < L.length := (List.getElem?_eq_some_iff.mp h).1
  subst ha
  unfold pF
  rw [al_at M hi, h]
  dsimp only
  rw [if_pos ⟨rfl, hk⟩, al_set M hi]
theorem al_nO (M : Mem) (L : List ME) (ci : Nat) (fs : List Value) : nO (al M L) ci fs = al M (L ++ [.inr (ci, fs)]) := al_nw M L _
theorem al_nA (M : Mem) (L : List ME) {ty : FieldType} {n : Int32} {cap : Nat} (h : ¬ n < 0 ∧ n.toNatClampNeg ≤ cap) : nA (al M L) ty n cap = some (al M (L ++ [.inl (ty, dfA ty n.toNatClampNeg)])) := by
  unfold nA
  rw [if_pos h, al_nw]
theorem al_gN (M : Mem) {L : List ME} {a i ci k b : Nat} {fs : List Value} (ha : a = M.1 + i) (h : L[i]? = some (.inr (ci, fs))) (hk : fs[k]? = some (.ref b)) : gN (al M L) ci a k = some b := by
  have hi : i < L.length := (List.getElem?_eq_some_iff.mp h).1
  subst ha
  unfold gN gF
  rw [al_at M hi, h]
  dsimp only
  rw [if_pos rfl, hk]
  rfl
theorem al_sL (M : Mem) {L : List ME} {a i k cap : Nat} {f : Nat → Int64} (ha : a = M.1 + i) (h : L[i]? = some (.inl (.long, cap, .inr (.inl f)))) (hk : k < cap) (hc : cap < 2 ^ 31) (x : Int64) : sL (al M L) a (nI k) x = some (al M (L.set i (.inl (.long, cap, .inr (.inl (vp_updL f k x)))))) := by
  have hi : i < L.length := (List.getElem?_eq_some_iff.mp h).1
  subst ha
  unfold sL
  rw [al_at M hi, h]
  dsimp only
  rw [if_pos (inr_nI hk hc), nI_clamp (by omega), al_set M hi]
/-- a new text -/
theorem new_text (M : Mem) (L : List ME) {cap : Nat} (hc : cap ≤ 100) : fX4_init (al M L).1 (nI cap) (nO (al M L) 3 [.null, .int 0]) = some (al M (L ++ [.inr (3, [.ref ((al M L).1 + 1), .int 0]), .inl (.int, cap, .inl (fun _ => 0))])) := by
  unfold fX4_init
  rw [al_nO, max_0 (nI_pos (by omega)), Option.bind_some]
  dsimp only
  have hcl : (nI cap).toNatClampNeg = cap := nI_clamp (by omega)
  rw [al_nA M _ ⟨nI_pos (by omega), by rw [hcl]; omega⟩, Option.bind_some, hcl]
  have h1 : (L ++ [Sum.inr (3, [Value.null, Value.int 0])] ++ [Sum.inl (FieldType.int, dfA FieldType.int cap)])[L.length]? = some (.inr (3, [.null, .int 0])) := by
    rw [List.append_assoc, List.getElem?_append_right (Nat.le_refl _), Nat.sub_self]
    rfl
  rw [al_pF M (a := (al M L).1) (i := L.length) rfl h1 (by simp), Option.bind_some]
  have e : (al M (L ++ [Sum.inr (3, [Value.null, Value.int 0])])).1 = (al M L).1 + 1 := by
    show M.1 + (L ++ [Sum.inr (3, [Value.null, Value.int 0])]).length = M.1 + L.length + 1
    rw [List.length_append]
    rfl
  rw [e]
  congr 2
  rw [List.append_assoc, List.set_append_right _ _ (Nat.le_refl _), Nat.sub_self]
  rfl
def lo0 : Nat → Int64 := vp_updL (vp_updL (vp_updL (fun _ => 0) 0 (-9223372036854775808)) 1 (-9223372036854775808)) 2 (-9223372036854775808)
def hi0 : Nat → Int64 := vp_updL (vp_updL (vp_updL (fun _ => 0) 0 9223372036854775807) 1 9223372036854775807) 2 9223372036854775807
/-- the ten cells of a new sheet at s -/
def shQ (s : Nat) (F G : Nat → Int64) : List ME := [shc s 0 0, .inr (3, [.ref (s + 1 + 1), .int 0]), .inl (.int, 60, .inl (fun _ => 0)), .inr (3, [.ref (s + 3 + 1), .int 0]), .inl (.int, 100, .inl (fun _ => 0)), .inl (.object RX1, 6, .inr (.inr (.inr (.inr (fun _ => none))))), .inl (.int, 1800, .inl (fun _ => 0)), .inl (.int, 30, .inl (fun _ => 0)), .inl (.long, 3, .inr (.inl F)), .inl (.long, 3, .inr (.inl G))]
def shL (s : Nat) : List ME := shQ s lo0 hi0
theorem new_sheet (M : Mem) : fX3_init M.1 (nO M 2 [.null, .null, .null, .int 0, .null, .null, .int 0, .null, .null]) = some (al M (shL M.1)) := by
  have e0 : nO M 2 [.null, .null, .null, .int 0, .null, .null, .int 0, .null, .null] = al M [.inr (2, [.null, .null, .null, .int 0, .null, .null, .int 0, .null, .null])] := by
    have := al_nO M [] 2 [.null, .null, .null, .int 0, .null, .null, .int 0, .null, .null]
    rw [al_nil] at this
    exact this
  rw [e0]
  unfold fX3_init
  have t1 := new_text M [.inr (2, [.null, .null, .null, .int 0, .null, .null, .int 0, .null, .null])] (cap := 60) (by decide)
  have t1' : fX4_init (al M [.inr (2, [.null, .null, .null, .int 0, .null, .null, .int 0, .null, .null])]).1 60 (nO (al M [.inr (2, [.null, .null, .null, .int 0, .null, .null, .int 0, .null, .null])]) 3 [.null, .int 0]) = _ := t1
  rw [t1', Option.bind_some, al_pF M (a := M.1) (i := 0) rfl rfl (by simp), Option.bind_some]
  simp only [List.cons_append, List.nil_append, List.set_cons_zero]
  have t2 := fun L => new_text M L (cap := 100) (by decide)
  have t2' : ∀ L, fX4_init (al M L).1 100 (nO (al M L) 3 [.null, .int 0]) = _ := t2
  rw [t2', Option.bind_some, al_pF M (a := M.1) (i := 0) rfl rfl (by simp), Option.bind_some, al_nA M _ (by decide), Option.bind_some, al_pF M (a := M.1) (i := 0) rfl rfl (by simp), Option.bind_some, al_nA M _ (by decide), Option.bind_some, al_pF M (a := M.1) (i := 0) rfl rfl (by simp), Option.bind_some, al_nA M _ (by decide), Option.bind_some, al_pF M (a := M.1) (i := 0) rfl rfl (by simp), Option.bind_some, al_nA M _ (by decide), Option.bind_some, al_pF M (a := M.1) (i := 0) rfl rfl (by simp), Option.bind_some, al_nA M _ (by decide), Option.bind_some, al_pF M (a := M.1) (i := 0) rfl rfl (by simp), Option.bind_some]
  have st : ∀ (f k : Nat) (F G : Nat → Int64), k < 3 → fX3_init_72 (f + 1) M.1 (nI k) (al M (shQ M.1 F G)) = fX3_init_72 f M.1 (nI (k + 1)) (al M (shQ M.1 (vp_updL F k (-9223372036854775808)) (vp_updL G k 9223372036854775807))) := by
    intro f k F G hk
    rw [fX3_init_72, if_neg (li_nge 3 k 3 rfl hk (by decide)), al_gN M (a := M.1) (i := 0) (b := M.1 + 8) rfl rfl rfl, Option.bind_some, al_sL M (a := M.1 + 8) (i := 8) rfl rfl hk (by decide), Option.bind_some, al_gN M (a := M.1) (i := 0) (b := M.1 + 9) rfl rfl rfl, Option.bind_some, al_sL M (a := M.1 + 9) (i := 9) rfl rfl hk (by decide), Option.bind_some, nI_1]
    rfl
  show fX3_init_72 FU M.1 (nI 0) (al M (shQ M.1 (fun _ => 0) (fun _ => 0))) = _
  have e1 : fX3_init_72 FU M.1 (nI 0) (al M (shQ M.1 (fun _ => 0) (fun _ => 0))) = _ := st 99999 0 _ _ (by decide)
  rw [e1]
  refine (st 99998 1 _ _ (by decide)).trans ((st 99997 2 _ _ (by decide)).trans ?_)
  rw [fX3_init_72, if_pos (by decide)]
  rfl
/-- what a new sheet holds -/
def sg0 : Sg := ((0, fun _ => (0, 0, 0, 0, 0, 0, 0, 0)), (0, fun _ => 0), (0, fun _ => 0), (0, fun _ => 0, fun _ => 0), lo0, hi0)
theorem sg0_ok : SgOk sg0 := ⟨Nat.zero_le _, fun l hl => absurd hl (Nat.not_lt_zero l), Nat.zero_le _, fun l hl => absurd hl (Nat.not_lt_zero l), Nat.zero_le _, fun l hl => absurd hl (Nat.not_lt_zero l), Nat.zero_le _, fun l hl => absurd hl (Nat.not_lt_zero l)⟩
/-- ten cells in a row are a new sheet -/
theorem sheet_at {M : Mem} {s : Nat} (hb : Nat) (h : ∀ i, i < 10 → M.2.1 (s + i) = (shL s)[i]?) : CSh hb s sg0 M := by
  refine ⟨h 0 (by decide), ⟨Nat.zero_le _, h 1 (by decide), _, h 2 (by decide), fun k hk => absurd hk (Nat.not_lt_zero k)⟩, ⟨Nat.zero_le _, h 3 (by decide), _, h 4 (by decide), fun k hk => absurd hk (Nat.not_lt_zero k)⟩, ⟨_, h 5 (by decide), fun k hk => absurd hk (Nat.not_lt_zero k), fun l _ b hb2 => by cases hb2⟩, ⟨_, h 6 (by decide), fun k hk => absurd hk (Nat.not_lt_zero k)⟩, ⟨_, h 7 (by decide), fun k hk => absurd hk (Nat.not_lt_zero k)⟩, ⟨_, h 8 (by decide), fun k _ => rfl⟩, ⟨_, h 9 (by decide), fun k _ => rfl⟩⟩
