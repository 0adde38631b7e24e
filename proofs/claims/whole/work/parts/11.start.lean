def R_law : String := "TypedAmountsLaw"
def lw_P (b : Addr) (xs : List Int32) (args : Array Value) (s : State) : Prop := args = #[.ref b] ∧ s.IntsAt b xs ∧ xs.length ≤ 4608 ∧ (Jvm.Cond.and given_1 narrow_1).before args s = true
def lw_Q (_ : Array Value) (s : State) (o : Outcome) (t : State) : Prop := o = .returned (some (.int 1)) ∧ Framed s o t [] 600000 7302250
def lw_Z (below : List Frame) (a : Array Value) (s : State) : State → Prop := fun t => ∃ o, t.status = .running ∧ Ended t below o ∧ lw_Q a s o t
/-- the law's own end, with 1 on the stack, nothing written that was there before, its room as the claim has it -/
theorem lw_ret {p : Program} {l : Launch} {e : Env} {s : State} {m : MethodId} {below : List Frame} {meth : Method} {c : Code} {b : Nat} (hx : p.tables.exec = Jvm.exec) (hb : c.code = code) (hr : meth.sig.returnType = ret) (hlocks : meth.locks = false) {pc : Nat} {H : Heap} {ls : Array Slot} (hdg : decode code pc = .ok (.ireturn, 1)) : W p l e room_1 s m #[Value.ref b] below meth c H [] 600000 7302250 (lw_Z below #[Value.ref b] s) (F0 m pc ls [.int 1]) := by
  intro T hT X
  obtain ⟨fs, hret, hrun, hended, hW, hframe⟩ := X.leave (v := some (.int 1)) (hlocks := hlocks) (fun h => by rw [hr] at h; cases h)
  have hmeth' : T.vm.method? m = some meth := X.method'
  refine ⟨T.setFrames fs, ?_, .returned (some (.int 1)), hrun, hended, rfl, ⟨_, rfl⟩, hW, hframe⟩
  jvm_step X.here [X.here.top, hx, hb, hdg, hmeth', hr, ret, narrow_b1]
  (try refine ⟨rfl, ?_⟩); (try refine ⟨rfl, ?_⟩)
  first | (intro acts; rw [hret _ acts rfl rfl rfl]) | rw [hret _ _ rfl rfl rfl]
  exact Steps.refl _
/-- what holds at the law's entry: the machine, the code, the tables' words (any of lw_tbl by 'hts w (by decide +kernel)'), the script of L ints xs at the cell b, what the Statement gives of the start (any of its parts by flat_of_before) -/
def lw_At (p : Program) (s : State) (m : MethodId) (meth : Method) (c : Code) (b L : Nat) (xs : Nat → Int32) : Prop :=
  p.tables.exec = Jvm.exec ∧ c.code = code ∧ meth.sig.returnType = ret ∧ c.maxLocals = 4 ∧ s.vm.findClass R_law = some m.cls ∧ (∀ w ∈ lw_tbl, w.before #[Value.ref b] s = true) ∧ va_X b L xs s s.heap ∧ b < s.heap.size ∧ meth.locks = false ∧ (Jvm.Cond.and given_1 narrow_1).before #[Value.ref b] s = true

def strB (tx : String) : List Int32 := tx.toList.map (fun c => Int32.ofNat c.toNat)
def strV (i : Nat) : Term := .field (.string RX5 i) RJ0 "value" "[B"
def strC (q : Nat × String) : List Cond := [Cond.exactly (.string RX5 q.1) RJ0, Cond.eq (.field (.string RX5 q.1) RJ0 "coder" "B") (.int 0), Cond.arrayOf (strV q.1) .byte, Cond.eq (.length (strV q.1)) (.int (Int32.ofNat q.2.length))] ++ (List.range q.2.length).map (fun j => Cond.eq (.elem (strV q.1) (.int (Int32.ofNat j))) (.int ((strB q.2).getD j 0)))
def lenL : List Int32 := [31, 28, 31, 30, 31, 30, 31, 31, 30, 31, 30, 31]
def lenC : List Cond := [Cond.arrayOf (.static RX0 "LENGTHS" "[I") .int, Cond.eq (.length (.static RX0 "LENGTHS" "[I")) (.int (Int32.ofNat 12)), Cond.eq (.static RJ0 "COMPACT_STRINGS" "Z") (.int 1)] ++ (List.range 12).map (fun j => Cond.eq (.elem (.static RX0 "LENGTHS" "[I") (.int (Int32.ofNat j))) (.int (lenL.getD j 0)))
set_option maxRecDepth 100000 in
theorem lenC_in : ∀ w ∈ lenC, w ∈ flatC (Jvm.Cond.and given_1 narrow_1) := by decide +kernel
set_option maxRecDepth 100000 in
theorem strC_eq : strTbl.flatMap strC = ((flatC (Jvm.Cond.and given_1 narrow_1)).drop 24).take 306 := by decide +kernel
theorem strC_in : ∀ q ∈ strTbl, ∀ w ∈ strC q, w ∈ flatC (Jvm.Cond.and given_1 narrow_1) := by
  intro q hq w hw
  have h : w ∈ strTbl.flatMap strC := List.mem_flatMap.mpr ⟨q, hq, hw⟩
  rw [strC_eq] at h
  exact List.mem_of_mem_drop (List.mem_of_mem_take h)
set_option maxRecDepth 100000 in
theorem strR_in : ∀ q ∈ strTbl, Cond.stringRef RX5 q.1 q.2 ∈ lw_tbl := by decide +kernel
theorem strLen_lt : ∀ q ∈ strTbl, q.2.length < 2 ^ 31 := by decide +kernel
def KF (kc : KC) (ty : FieldType) (a N : Nat) (g : Nat → Int32) : Prop := ∃ n f, kc.2.1 a = some (ty, n, f) ∧ N ≤ n ∧ Int32.ofNat n = Int32.ofNat N ∧ ∀ j, j < N → f j = g j
def KcOk (kc : KC) (b L : Nat) (xs : Nat → Int32) : Prop := KF kc .int b L xs ∧ KF kc .int (kc.1 0) 12 (fun j => lenL.getD j 0) ∧ ∀ q ∈ strTbl, ∃ v, kc.2.2 (kc.1 q.1) = some v ∧ KF kc .byte v q.2.length (fun j => (strB q.2).getD j 0)
/-- WHAT IS LEFT: the law's shallow function answers 1 -/
def PureLaw : Prop := ∀ (z b L : Nat) (xs : Nat → Int32) (kc : KC), L ≤ 4608 → KcOk kc b L xs → ∃ M' : Mem, fL_law b (z, fun _ => none, kc) = some (1, M')
theorem va_T.uniq {ty ty' : FieldType} {t N n : Nat} {f g : Nat → Int32} {A : Nat → Prop} {U : State} {H : Heap} (h : va_T ty t N (fun j => .int (f j)) A U H) (h' : va_T ty' t n (fun j => .int (g j)) A U H) (hN : N < 2 ^ 32) : ty' = ty ∧ N ≤ n ∧ Int32.ofNat n = Int32.ofNat N ∧ ∀ j, j < N → g j = f j := by
  obtain ⟨cell, h1, ⟨-, k, hk, comp, hkk⟩, h3, h4, h5, h6, h7⟩ := h
  obtain ⟨cell', h1', ⟨-, k', hk', comp', hkk'⟩, h3', h4', h5', h6', h7'⟩ := h'
  cases h1.symm.trans h1'
  cases hk.symm.trans hk'
  have hty : ty' = ty := by
    have := hkk.symm.trans hkk'
    cases this
    rfl
  have he : Int32.ofNat n = Int32.ofNat N := h5'.symm.trans h5
  have hle : N ≤ n := by
    have h9 : (Int32.ofNat n).toBitVec.toNat = (Int32.ofNat N).toBitVec.toNat := by rw [he]
    have e1 : (Int32.ofNat n).toBitVec.toNat = n % 2 ^ 32 := by simp [Int32.ofNat, Int32.toBitVec]
    have e2 : (Int32.ofNat N).toBitVec.toNat = N % 2 ^ 32 := by simp [Int32.ofNat, Int32.toBitVec]
    rw [e1, e2, Nat.mod_eq_of_lt hN] at h9
    have := Nat.mod_le n (2 ^ 32)
    omega
  refine ⟨hty, hle, he, fun j hj => ?_⟩
  have a1 := h6 j hj
  have a2 := h6' j (by omega)
  exact Value.int.inj (Option.some.inj (a2.symm.trans a1))
def kcA (z : Nat) (s : State) (a : Nat) (q : FieldType × Nat × (Nat → Int32)) : Prop := va_T q.1 a q.2.1 (fun j => .int (q.2.2 j)) (fun q => z ≤ q) s s.heap
def kcS (z : Nat) (s : State) (a v : Nat) : Prop := va_O RJ0 a (fun q => z ≤ q) s s.heap ∧ va_OF RJ0 "coder" "B" (.int 0) a (fun q => z ≤ q) s s.heap ∧ va_OF RJ0 "value" "[B" (.ref v) a (fun q => z ≤ q) s s.heap
theorem chosen {α : Type} (P : Nat → α → Prop) : ∃ f : Nat → Option α, (∀ a v, f a = some v → P a v) ∧ ∀ a v, P a v → ∃ w, f a = some w := by
  have h : ∀ a, ∃ o : Option α, (∀ v, o = some v → P a v) ∧ ∀ v, P a v → ∃ w, o = some w := by
    intro a
    by_cases hv : ∃ v, P a v
    · obtain ⟨v, hv⟩ := hv
      exact ⟨some v, fun w hw => by cases hw; exact hv, fun _ _ => ⟨v, rfl⟩⟩
    · exact ⟨none, fun w hw => (by cases hw), fun v h => absurd ⟨v, h⟩ hv⟩
  obtain ⟨f, hf⟩ := Classical.axiomOfChoice h
  exact ⟨f, fun a => (hf a).1, fun a => (hf a).2⟩
theorem va_OF.uniq {o n d : String} {v w : Value} {t : Nat} {A : Nat → Prop} {U : State} {H : Heap} (h : va_OF o n d v t A U H) (h' : va_OF o n d w t A U H) : v = w := by
  obtain ⟨cf, k, i, f, cell, h1, h2, h3, h4, h5, h6⟩ := h
  obtain ⟨cf', k', i', f', cell', h1', h2', h3', h4', h5', h6'⟩ := h'
  cases h1.symm.trans h1'
  cases h3.symm.trans h3'
  exact Option.some.inj (h5.symm.trans h5')
set_option maxRecDepth 100000 in
theorem siC_in : Cond.isRef (.static RJ3 "SIOOBE_FORMATTER" "Ljava/util/function/BiFunction;") ∈ flatC (Jvm.Cond.and given_1 narrow_1) := by decide +kernel
theorem kc_start {s : State} {args : Array Value} {b L : Nat} {xs : Nat → Int32} (hL : L ≤ 4608) (hX : va_X b L xs s s.heap) (hts : ∀ w ∈ lw_tbl, w.before args s = true) (hgv : (Jvm.Cond.and given_1 narrow_1).before args s = true) : ∃ kc : KC, RepK s.heap.size kc s s.heap ∧ KcOk kc b L xs := by
  have hs := flat_of_before _ hgv
  have hA : ∀ a : Nat, a < s.heap.size → ¬ (fun q => s.heap.size ≤ q) a := fun a h => Nat.not_le.mpr h
  obtain ⟨fA, hA1, hA2⟩ := chosen (kcA s.heap.size s)
  obtain ⟨fS, hS1, hS2⟩ := chosen (kcS s.heap.size s)
  -- the table of lengths
  have harr : (Cond.arrayOf (.static RX0 "LENGTHS" "[I") .int).before args s = true := hs _ (lenC_in _ (by simp [lenC]))
  have hlen : (Cond.eq (.length (.static RX0 "LENGTHS" "[I")) (.int (Int32.ofNat 12))).before args s = true := hs _ (lenC_in _ (by simp [lenC]))
  have hcs : (Cond.eq (.static RJ0 "COMPACT_STRINGS" "Z") (.int 1)).before args s = true := hs _ (lenC_in _ (by simp [lenC]))
  have hel : ∀ j : Nat, j < 12 → (Term.elem (.static RX0 "LENGTHS" "[I") (.int (Int32.ofNat j))).eval args s none [] s = some (.int (lenL.getD j 0)) := fun j hj => va_eqt (hs _ (lenC_in _ (by
    unfold lenC
    exact List.mem_append_right _ (List.mem_map.mpr ⟨j, List.mem_range.mpr hj, rfl⟩))))
  obtain ⟨aL, haL, hTL⟩ := va_Tof (f := fun j => .int (lenL.getD j 0)) (A := fun q => s.heap.size ≤ q) (by decide) harr (va_eqt hlen) hel hA
  -- the texts
  have hstr : ∀ q : Nat × String, q ∈ strTbl → ∃ a v : Nat, (Term.string RX5 q.1).eval args s none [] s = some (.ref a) ∧ kcS s.heap.size s a v ∧ kcA s.heap.size s v (.byte, q.2.length, fun j => (strB q.2).getD j 0) := by
    intro q hq
    have hw := fun w h => hs w (strC_in q hq w h)
    have hex : (Cond.exactly (.string RX5 q.1) RJ0).before args s = true := hw _ (by simp [strC])
    have hco : (Cond.eq (.field (.string RX5 q.1) RJ0 "coder" "B") (.int 0)).before args s = true := hw _ (by simp [strC])
    have har : (Cond.arrayOf (strV q.1) .byte).before args s = true := hw _ (by simp [strC])
    have hle : (Cond.eq (.length (strV q.1)) (.int (Int32.ofNat q.2.length))).before args s = true := hw _ (by simp [strC])
    have hee : ∀ j : Nat, j < q.2.length → (Term.elem (strV q.1) (.int (Int32.ofNat j))).eval args s none [] s = some (.int ((strB q.2).getD j 0)) := fun j hj => va_eqt (hw _ (by
      unfold strC
      exact List.mem_append_right _ (List.mem_map.mpr ⟨j, List.mem_range.mpr hj, rfl⟩)))
    obtain ⟨a, c, cA, kA, q1, q2, q3, q4, q5, q6, -⟩ := Cond.exactly_spec (args := args) (first := s) (o := none) (s := s) (idx := []) (t := .string RX5 q.1) (cls := RJ0) hex
    obtain ⟨t, ht, hT⟩ := va_Tof (f := fun j => .int ((strB q.2).getD j 0)) (A := fun q => s.heap.size ≤ q) (strLen_lt q hq) har (va_eqt hle) hee hA
    exact ⟨a, t, q1, ⟨⟨cA, q3, q5, by rw [q6]; exact q2, hA a (Array.getElem?_eq_some_iff.mp q3).1⟩, vk_OFof q1 (va_eqt hco) hA, vk_OFof q1 ht hA⟩, hT⟩
  have hadr : ∀ i : Nat, ∃ a : Nat, (i = 0 → a = aL) ∧ (∀ tx, i ≠ 0 → (i, tx) ∈ strTbl → (Term.string RX5 i).eval args s none [] s = some (.ref a)) := by
    intro i
    by_cases h0 : i = 0
    · exact ⟨aL, fun _ => rfl, fun tx h => absurd h0 h⟩
    · by_cases ht : ∃ tx, (i, tx) ∈ strTbl
      · obtain ⟨tx, ht⟩ := ht
        obtain ⟨a, v, h1, -⟩ := hstr _ ht
        exact ⟨a, fun h => absurd h h0, fun _ _ _ => h1⟩
      · exact ⟨0, fun h => absurd h h0, fun tx _ h => absurd ⟨tx, h⟩ ht⟩
  obtain ⟨fa, hfa⟩ := Classical.axiomOfChoice hadr
  have hne0 : ∀ q ∈ strTbl, q.1 ≠ 0 := by decide +kernel
  have hst : ∀ q ∈ strTbl, (Term.string RX5 q.1).eval args s none [] s = some (.ref (fa q.1)) := fun q hq => (hfa q.1).2 q.2 (hne0 q hq) hq
  have h0 : fa 0 = aL := (hfa 0).1 rfl
  have key : ∀ (ty : FieldType) (a N : Nat) (g : Nat → Int32), N < 2 ^ 32 → kcA s.heap.size s a (ty, N, g) → KF (fa, fA, fS) ty a N g := by
    intro ty a N g hN h
    obtain ⟨⟨ty', n, f⟩, hw⟩ := hA2 a _ h
    obtain ⟨rfl, h2, h3, h4⟩ := va_T.uniq h (hA1 a _ hw) hN
    exact ⟨n, f, hw, h2, h3, h4⟩
  refine ⟨(fa, fA, fS), ⟨fun a ty n f h => hA1 a _ h, fun a v h => hS1 a v h, ?_, ?_, ?_, ?_, va_AO.of (hts _ (by decide +kernel)), va_AO.of (hts _ (by decide +kernel)), va_Zqof (hts _ (by decide +kernel)) (hts _ (by decide +kernel)) (hs _ siC_in) hA⟩, ?_, ?_, ?_⟩
  · exact va_Zof (hts _ (by decide +kernel)) (hts _ (by decide +kernel)) (by rw [haL]; show _ = some (Value.ref (fa 0)); rw [h0]) hA
  · exact va_Zof (hts _ (by decide +kernel)) (hts _ (by decide +kernel)) (va_eqt hcs) hA
  · intro q hq
    exact vk_R.of (A := args) (hts _ (strR_in q hq)) (hst q hq)
  · intro q hq
    have h : ∀ q ∈ nestTbl, Cond.methodLinkNest q.2.1 q.1 q.2.2 RX7 ∈ lw_tbl := by decide +kernel
    exact va_Nw.of rfl (hts _ (h q hq))
  · refine key _ _ _ _ (by omega) ?_
    obtain ⟨scr, x1, x2, x3, x4, x5⟩ := hX
    exact ⟨scr, x1, x2, x3, Nat.le_of_eq x4.symm, by rw [x4], x5, hA b (Array.getElem?_eq_some_iff.mp x1).1⟩
  · show KF _ _ (fa 0) _ _
    rw [h0]
    exact key _ _ _ _ (by decide) hTL
  · intro q hq
    obtain ⟨a, v, h1, h2, h3⟩ := hstr q hq
    have ha : a = fa q.1 := by
      have := h1.symm.trans (hst q hq)
      cases this
      rfl
    subst ha
    obtain ⟨w, hw⟩ := hS2 _ _ h2
    have hv : Value.ref w = Value.ref v := (hS1 _ _ hw).2.2.uniq h2.2.2
    cases hv
    exact ⟨v, hw, key _ _ _ _ (Nat.lt_of_lt_of_le (strLen_lt q hq) (by decide)) h3⟩
theorem caOf {s : State} {args : Array Value} (hts : ∀ w ∈ lw_tbl, w.before args s = true) : ∃ ca : FieldType → ClassId, ∀ (k : Nat) (q : ClassId × FieldType), (tysOf ca)[k]? = some q → ArrOfT s q.1 q.2 ∧ va_RA s q.1 q.2 := by
  have hp : ∀ ty : FieldType, Cond.arrayClass ty ∈ lw_tbl → (∀ C, ty ≠ .object C) → ∃ c : ClassId, ArrOfT s c ty ∧ va_RA s c ty := by
    intro ty h hne
    obtain ⟨c, k, comp, h1, h2, h3⟩ := Cond.arrayClass_spec (hts _ h)
    refine ⟨c, fun n z => ⟨fun k h => (by cases h), k, h2, comp, h3⟩, ?_⟩
    cases ty <;> first | exact absurd rfl (hne _) | exact h1
  have ho : ∀ C : String, Cond.arrayOver (.object C) ∈ lw_tbl → ∃ c : ClassId, ArrOfT s c (.object C) ∧ va_RA s c (.object C) := by
    intro C h
    obtain ⟨comp, c, k, h1, h2, h3, h4, h5⟩ := Cond.arrayOver_spec (hts _ h)
    exact ⟨c, fun n z => ⟨fun k h => (by cases h), k, h3, comp, h4⟩, k, comp, h3, h4, h1, h5⟩
  obtain ⟨c0, x0⟩ := hp .int (by decide +kernel) (fun C h => by cases h)
  obtain ⟨c1, x1⟩ := hp .long (by decide +kernel) (fun C h => by cases h)
  obtain ⟨c2, x2⟩ := hp .byte (by decide +kernel) (fun C h => by cases h)
  obtain ⟨c3, x3⟩ := hp .boolean (by decide +kernel) (fun C h => by cases h)
  obtain ⟨c4, x4⟩ := ho RX1 (by decide +kernel)
  obtain ⟨c5, x5⟩ := ho RX3 (by decide +kernel)
  refine ⟨fun ty => match ty with | .int => c0 | .long => c1 | .byte => c2 | .boolean => c3 | .object C => if C = RX1 then c4 else c5 | _ => 0, ?_⟩
  intro k q hk
  match k, hk with
  | 0, hk => cases hk; exact x0
  | 1, hk => cases hk; exact x1
  | 2, hk => cases hk; exact x2
  | 3, hk => cases hk; exact x3
  | 4, hk => cases hk; exact x4
  | 5, hk => cases hk; exact x5
  | k + 6, hk => simp [tysOf] at hk
theorem framed_new {s t : State} {o : Outcome} {Lc : List Loc} {k n : Nat} (h : FrameEnd s o t Lc k n) (hn : ∀ q ∈ Lc, s.heap.size ≤ q.base) : Framed s o t [] k n := by
  obtain ⟨h1, h2, h3, h4, h5, h6, h7, h8⟩ := h
  refine ⟨h1, h2, h3, h4, h5, h6, h7, fun a c hc => ?_⟩
  obtain ⟨c', g1, g2, g3, g4⟩ := h8 a c hc
  refine ⟨c', g1, g2, g3, fun i _ => g4 i fun hm => ?_⟩
  have h9 : s.heap.size ≤ a := hn _ hm
  have hlt : a < s.heap.size := (Array.getElem?_eq_some_iff.mp hc).1
  exact absurd hlt (Nat.not_lt.mpr h9)
set_option maxHeartbeats 4000000 in
set_option maxRecDepth 100000 in
theorem start_open (hpure : PureLaw) {p : Program} {e : Env} {s : State} {m : MethodId} {below : List Frame} {meth : Method} {c : Code} (l : Launch) {b L : Nat} {xs : Nat → Int32} (hL : L ≤ 4608) (C0 : lw_At p s m meth c b L xs) (hnm : meth.name = "law") : W p l e room_1 s m #[Value.ref b] below meth c s.heap [] 0 0 (lw_Z below #[Value.ref b] s) (entryFrame m ([Value.ref b] : List Value).toArray 4) := by
  obtain ⟨hx, hb, hr, hml, hown, hts, hX, hbl, hlocks, hgv⟩ := C0
  obtain ⟨kc, hR, hKc⟩ := kc_start hL hX hts hgv
  obtain ⟨ca, hca⟩ := caOf hts
  obtain ⟨M', hM⟩ := hpure s.heap.size b L xs kc hL hKc
  obtain ⟨c0, iS0, hK0⟩ := u_known (C := RX1) (T := TX1) (N := 8) (n := 8) hts inX1 (hts (.instantiable RX1 8) (by decide +kernel))
  obtain ⟨c1, iS1, hK1⟩ := u_known (C := RX2) (T := TX2) (N := 9) (n := 9) hts inX2 (hts (.instantiable RX2 9) (by decide +kernel))
  obtain ⟨c2, iS2, hK2⟩ := u_known (C := RX3) (T := TX3) (N := 9) (n := 9) hts inX3 (hts (.instantiable RX3 9) (by decide +kernel))
  obtain ⟨c3, iS3, hK3⟩ := u_known (C := RX4) (T := TX4) (N := 2) (n := 2) hts inX4 (hts (.instantiable RX4 2) (by decide +kernel))
  obtain ⟨c4, iS4, hK4⟩ := u_known (C := RX7) (T := TX7) (N := 4) (n := 4) hts inX7 (hts (.instantiable RX7 4) (by decide +kernel))
  obtain ⟨c5, iS5, hK5⟩ := u_known (C := RX8) (T := TX8) (N := 29) (n := 29) hts inX8 (hts (.instantiable RX8 29) (by decide +kernel))
  obtain ⟨dC, dI, hKc2⟩ : ∃ (dC : Nat → ClassId) (dI : Nat → Nat → Nat), ∀ (k : Nat) (q : vw_C), vwCl[k]? = some q → u_Kn s q.1 q.2.1 q.2.2 (dC k) (dI k) := by
    refine ⟨fun k => match k with | 0 => c0 | 1 => c1 | 2 => c2 | 3 => c3 | 4 => c4 | _ => c5, fun k => match k with | 0 => iS0 | 1 => iS1 | 2 => iS2 | 3 => iS3 | 4 => iS4 | _ => iS5, ?_⟩
    intro k q hq
    match k, hq with
    | 0, hq => cases hq; exact hK0
    | 1, hq => cases hq; exact hK1
    | 2, hq => cases hq; exact hK2
    | 3, hq => cases hq; exact hK3
    | 4, hq => cases hq; exact hK4
    | 5, hq => cases hq; exact hK5
    | k + 6, hq => simp [vwCl] at hq
  have hK : va_K (dC, dI) vwCl (tysOf ca) s := ⟨hKc2, hca⟩
  have O : OkK (p, l, e, s, m, #[Value.ref b], below, meth, c, s.heap.size, (dC, dI), ca, kc, some (.int 1), M') mL_law := ⟨hx, hb, hml, hown, fun w hw _ => hts w hw, hlocks, hr, hnm, hK, hR, Nat.le_refl _⟩
  have hG := okL_law (p := (1, M')) O rfl hM
  have hl := lv_entry [Value.ref b] (n := 4) (Nat.le_of_ble_eq_true rfl)
  rw [lg_entry_eq]
  have hW := hG s.heap _ [] rfl rfl (fun a e h => by cases h) va_S.rf hl
  intro T hT X
  obtain ⟨t, st1, o, g1, g2, ⟨g3, -, -, -⟩, Lc, g4, g5⟩ := hW T hT X
  refine ⟨t, st1, o, g1, g2, ?_⟩
  subst g3
  exact ⟨rfl, framed_new g4 g5⟩
