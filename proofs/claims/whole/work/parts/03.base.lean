/-! ===== the memory picture: the next address, what each address of ours holds, what stands fixed below ===== -/
abbrev ME : Type := (FieldType × vp_A) ⊕ (Nat × List Value)
abbrev KC : Type := (Nat → Nat) × (Nat → Option (FieldType × Nat × (Nat → Int32))) × (Nat → Option Nat)
abbrev Mem : Type := Nat × (Nat → Option ME) × KC
/-- a method: its bytes, its locals, its owner, its return type, its room, its name -/
abbrev MD : Type := ByteArray × Nat × String × Option FieldType × Room × String
/-- the machine's side of a walk -/
abbrev KT : Type := Program × Launch × Env × State × MethodId × Array Value × List Frame × Method × Code × Nat × va_G × (FieldType → ClassId) × KC × Option Value × Mem
def mst (M : Mem) (a : Nat) (e : ME) : Mem := (M.1, fun b => if b = a then some e else M.2.1 b, M.2.2)
def mnw (M : Mem) (e : ME) : Mem := (M.1 + 1, fun b => if b = M.1 then some e else M.2.1 b, M.2.2)
def tysOf (ca : FieldType → ClassId) : List (ClassId × FieldType) := [(ca .int, .int), (ca .long, .long), (ca .byte, .byte), (ca .boolean, .boolean), (ca (.object RX1), .object RX1), (ca (.object RX3), .object RX3)]
def exM (D : va_G) (ca : FieldType → ClassId) (a : Nat) (e : ME) (H : Heap) : Prop := match e with
  | .inl q => H[a]? = some (vp_cell (ca q.1) q.2) ∧ ∃ i : Nat, (tysOf ca)[i]? = some (ca q.1, q.1)
  | .inr o => ∃ r : vw_C, vwCl[o.1]? = some r ∧ t_OB a (D.1 o.1) r.2.2 (D.2 o.1) H (vp_V o.2)
def RepW (z : Nat) (D : va_G) (ca : FieldType → ClassId) (M : Mem) (H : Heap) : Prop := ∀ (a : Nat) (e : ME), M.2.1 a = some e → z ≤ a ∧ exM D ca a e H
def strTbl : List (Nat × String) := [(56, "zero"), (58, "one"), (60, "two"), (62, "three"), (64, "four"), (66, "five"), (68, "six"), (70, "seven"), (72, "eight"), (74, "nine"), (76, "ten"), (78, "eleven"), (80, "twelve"), (82, "thirteen"), (84, "fourteen"), (86, "fifteen"), (88, "sixteen"), (90, "seventeen"), (92, "eighteen"), (94, "nineteen"), (96, "twenty"), (98, "thirty"), (100, "forty"), (102, "fifty"), (104, "sixty"), (106, "seventy"), (108, "eighty"), (110, "ninety"), (112, "hundred"), (114, "thousand"), (116, "million"), (118, "")]
def nestTbl : List (Nat × String × MethodName) := [(51, RX3, yX7_isKind), (117, RX2, yX7_isDigit), (41, RX1, yX7_byteOf)]
def RepK (z : Nat) (kc : KC) (U : State) (H : Heap) : Prop :=
  (∀ (a : Nat) (ty : FieldType) (n : Nat) (f : Nat → Int32), kc.2.1 a = some (ty, n, f) → va_T ty a n (fun j => .int (f j)) (fun q => z ≤ q) U H) ∧
  (∀ (a v : Nat), kc.2.2 a = some v → va_O RJ0 a (fun q => z ≤ q) U H ∧ va_OF RJ0 "coder" "B" (.int 0) a (fun q => z ≤ q) U H ∧ va_OF RJ0 "value" "[B" (.ref v) a (fun q => z ≤ q) U H) ∧
  va_Z RX0 "LENGTHS" "[I" (.ref (kc.1 0)) (fun q => z ≤ q) U H ∧ va_Z RJ0 "COMPACT_STRINGS" "Z" (.int 1) (fun q => z ≤ q) U H ∧
  (∀ q ∈ strTbl, vk_R RX5 q.1 q.2 (kc.1 q.1) U) ∧ (∀ q ∈ nestTbl, va_Nw (.methodLinkNest q.2.1 q.1 q.2.2 RX7) U) ∧ va_AO RX1 U ∧ va_AO RX3 U ∧ va_Zq RJ3 "SIOOBE_FORMATTER" "Ljava/util/function/BiFunction;" (fun q => z ≤ q) U H
theorem RepK.same {z : Nat} {kc : KC} {u U : State} {H : Heap} (hv : U.vm = u.vm) (h : RepK z kc u H) : RepK z kc U H := by
  obtain ⟨h1, h2, h3, h4, h5, h6, h7, h8, h9⟩ := h
  have al : u.vm.Alike U.vm := by rw [hv]; exact Vm.Alike.refl _
  exact ⟨fun a ty n f e => (h1 a ty n f e).moved al, fun a v e => ⟨(h2 a v e).1.moved al, (h2 a v e).2.1.moved al, (h2 a v e).2.2.moved al⟩, h3.moved al, h4.moved al, fun q hq => vk_R.same hv (h5 q hq), fun q hq => va_Nw.same rfl hv.symm (h6 q hq), h7.moved al, h8.moved al, h9.moved al⟩
theorem RepK.go {z : Nat} {kc : KC} {s U : State} {H : Heap} {locs : List Loc} (hW : s.WarmedH U.vm) (hS : va_S (fun q => z ≤ q) s.heap H locs) (h : RepK z kc s s.heap) : RepK z kc U H := by
  obtain ⟨h1, h2, h3, h4, h5, h6, h7, h8, h9⟩ := h
  have al : s.vm.Alike U.vm := hW.alike
  exact ⟨fun a ty n f e => ((h1 a ty n f e).moved al).kept hS.2.1, fun a v e => ⟨((h2 a v e).1.moved al).kept hS.2.1, ((h2 a v e).2.1.moved al).kept hS.2.1, ((h2 a v e).2.2.moved al).kept hS.2.1⟩, (h3.moved al).kept hS.2.1, (h4.moved al).kept hS.2.1, fun q hq => vk_R.warm hW (h5 q hq), fun q hq => va_Nw.warmM hW (h6 q hq), h7.moved al, h8.moved al, (h9.moved al).kept hS.2.1⟩
/-- the world at a state -/
def Wd (z : Nat) (D : va_G) (ca : FieldType → ClassId) (M : Mem) (U : State) : Prop :=
  z ≤ U.heap.size ∧ M.1 = U.heap.size ∧ RepW z D ca M U.heap ∧ va_K D vwCl (tysOf ca) U ∧ RepK z M.2.2 U U.heap
theorem Wd.blind {z : Nat} {D : va_G} {ca : FieldType → ClassId} {M : Mem} {U : State} {g : JFrame} {mk : MethodId} {a : Array Value} (h : Wd z D ca M U) : Wd z D ca M (U.calling g mk a) :=
  ⟨h.1, h.2.1, h.2.2.1, va_K.moved (u := U) (U := U.calling g mk a) (Vm.Alike.refl U.vm) h.2.2.2.1, RepK.same (u := U) (U := U.calling g mk a) rfl h.2.2.2.2⟩
def QM (z : Nat) (D : va_G) (ca : FieldType → ClassId) (kc : KC) (r : Option Value) (M' : Mem) : Array Value → State → Outcome → State → Prop := fun _ st o t => o = .returned r ∧ M'.2.2 = kc ∧ Wd z D ca M' t ∧ va_F (fun q => z ≤ q) st t
abbrev gT : List Cond := lw_tbl.filter goodWord
/-- a method's contract: from this memory with these arguments it answers r and leaves the memory M' -/
def Cn (l : Launch) (y : MethodName) (μ : MD) (args : List Value) (M : Mem) (r : Option Value) (M' : Mem) : Prop :=
  ∀ (z : Nat) (D : va_G) (ca : FieldType → ClassId), Met l y (.code y μ.1 μ.2.1 μ.2.2.2.1 :: gT) μ.2.2.2.2.1 (va_Pc args (Wd z D ca M)) (QM z D ca M.2.2 r M') μ.2.2.2.2.1.cells μ.2.2.2.2.1.slots (fun q => z ≤ q)
/-- what holds in a walk -/
def OkK : KT → MD → Prop := fun (p, l, e, s, m, args, below, meth, c, z, D, ca, kc, r, M') (cc, nL, own, ret, R, nm) =>
  p.tables.exec = Jvm.exec ∧ c.code = cc ∧ c.maxLocals = nL ∧ s.vm.findClass own = some m.cls ∧ (∀ w ∈ lw_tbl, goodWord w = true → w.before args s = true) ∧ meth.locks = false ∧ meth.sig.returnType = ret ∧ meth.name = nm ∧ va_K D vwCl (tysOf ca) s ∧ RepK z kc s s.heap ∧ z ≤ s.heap.size
def G : KT → MD → Nat → Nat → Nat → List (Nat × Value) → List Value → Mem → Prop := fun (p, l, e, s, m, args, below, meth, c, z, D, ca, kc, r, M') (cc, nL, own, ret, R, nm) cells slots pc lv st M =>
  ∀ (H : Heap) (ls : Array Slot) (locs : List Loc), M.1 = H.size → M.2.2 = kc → RepW z D ca M H → va_S (fun q => z ≤ q) s.heap H locs → lv_has ls nL lv → W p l e R s m args below meth c H locs cells slots (MQ below (QM z D ca kc r M') args s R.cells R.slots (fun q => z ≤ q)) (F0 m pc ls st)
theorem goodIn_gT {y : MethodName} {cc : ByteArray} {nL : Nat} {ret : Option FieldType} {args : Array Value} {s : State} (hc : Cond.code y cc nL ret ∈ lw_tbl) (ht : ∀ w ∈ lw_tbl, goodWord w = true → w.before args s = true) :
    ∀ w ∈ (Cond.code y cc nL ret :: gT), ∀ (a' : Array Value) (U : State), s.WarmedH U.vm → w.before a' U = true := by
  intro w hw a' U hW
  have h : w ∈ lw_tbl ∧ goodWord w = true := by
    rcases List.mem_cons.mp hw with rfl | h
    · exact ⟨hc, rfl⟩
    · exact List.mem_filter.mp h
  exact word_at hW (good_of_word h.2) (ht w h.1 h.2)
theorem Cn.of {l : Launch} {y : MethodName} {μ : MD} {args : List Value} {M : Mem} {r : Option Value} {M' : Mem} (lv : List (Nat × Value)) (hy : plainName y.cls = true) (hown : y.cls = μ.2.2.1) (hnm : y.name = μ.2.2.2.2.2) (hlen : (lg_sl args).length ≤ μ.2.1) (hlv : lv_args 0 args = lv)
    (body : ∀ κ : KT, κ.2.1 = l → κ.2.2.2.2.2.2.2.2.2.2.2.2.2 = (r, M') → OkK κ μ → G κ μ 0 0 0 lv [] M) : Cn l y μ args M r M' := by
  intro z D ca
  obtain ⟨cc, nL, own, ret, R, nm⟩ := μ
  refine Met.ofW (cc := cc) (maxL := nL) (ret := ret) hy rfl ?_
  intro p e s m args' below meth c s₁ B hml hv
  obtain ⟨rfl, hz, hn, hP, hK, hR⟩ := hv
  have hts := atoms_spec (ws := Cond.code y cc nL ret :: gT) B.pre
  have hl := lv_entry args (n := nL) hlen
  rw [hlv] at hl
  rw [lg_entry_eq]
  exact body (p, l, e, s, m, args.toArray, below, meth, c, z, D, ca, M.2.2, r, M') rfl rfl ⟨B.exec, B.bytes, hml, by have h := findClass_of_methodNamed B.named; rw [hown] at h; exact h, fun w hw hg => hts w (List.mem_cons_of_mem _ (List.mem_filter.mpr ⟨hw, hg⟩)), B.notSynchronized, B.returns, (name_of_methodNamed B.named B.method).1.trans hnm, hK, hR, hz⟩ s.heap _ [] hn rfl hP va_S.rf hl

theorem exM.lt {D : va_G} {ca : FieldType → ClassId} {a : Nat} {e : ME} {H : Heap} (h : exM D ca a e H) : a < H.size := by
  obtain q | o := e
  · exact (Array.getElem?_eq_some_iff.mp h.1).1
  · obtain ⟨r, -, cell, h1, -⟩ := h
    exact (Array.getElem?_eq_some_iff.mp h1).1
theorem exM.kept {D : va_G} {ca : FieldType → ClassId} {a : Nat} {e : ME} {H H1 : Heap} (h : exM D ca a e H) (hq : H1[a]? = H[a]?) : exM D ca a e H1 := by
  obtain q | o := e
  · exact ⟨hq.trans h.1, h.2⟩
  · obtain ⟨r, h1, h2⟩ := h
    exact ⟨r, h1, h2.kept hq⟩
theorem RepW.put {z : Nat} {D : va_G} {ca : FieldType → ClassId} {M : Mem} {H H1 : Heap} {a : Nat} {e : ME} (h : RepW z D ca M H) (hz : z ≤ a) (he : exM D ca a e H1) (oq : ∀ q : Nat, q ≠ a → H1[q]? = H[q]?) : RepW z D ca (mst M a e) H1 := by
  intro b e2 hb
  simp only [mst] at hb
  by_cases hba : b = a
  · subst hba
    rw [if_pos rfl] at hb
    cases hb
    exact ⟨hz, he⟩
  · rw [if_neg hba] at hb
    exact ⟨(h b e2 hb).1, (h b e2 hb).2.kept (oq b hba)⟩
theorem RepW.mk {z : Nat} {D : va_G} {ca : FieldType → ClassId} {M : Mem} {H H1 : Heap} {e : ME} (h : RepW z D ca M H) (hn : M.1 = H.size) (hz : z ≤ H.size) (he : exM D ca H.size e H1) (oq : ∀ q : Nat, q < H.size → H1[q]? = H[q]?) : RepW z D ca (mnw M e) H1 := by
  intro b e2 hb
  simp only [mnw] at hb
  rw [hn] at hb
  by_cases hba : b = H.size
  · subst hba
    rw [if_pos rfl] at hb
    cases hb
    exact ⟨hz, he⟩
  · rw [if_neg hba] at hb
    exact ⟨(h b e2 hb).1, (h b e2 hb).2.kept (oq b (h b e2 hb).2.lt)⟩
theorem u_good {C : String} {T : u_T} {N : Nat} : ∀ w ∈ u_ws C T N, goodWord w = true := by
  intro w hw
  obtain ⟨k, -, rfl⟩ := List.mem_map.mp hw
  unfold u_lay
  split <;> rfl
theorem u_gT {C : String} {T : u_T} {N : Nat} (h : ∀ w ∈ u_ws C T N, w ∈ lw_tbl) : ∀ w ∈ u_ws C T N, w ∈ gT := fun w hw => List.mem_filter.mpr ⟨h w hw, u_good w hw⟩
theorem sg_P {D : va_G} {q : Nat × va_E} {H : Heap} (h : va_at D vwCl q H) : va_P D vwCl [q] H := by
  intro k x hk
  have hz : k < 1 := (List.getElem?_eq_some_iff.mp hk).1
  rw [show k = 0 by omega] at hk
  cases hk
  exact h
/-! ===== the words of the shallow functions ===== -/
def gF (M : Mem) (ci a k : Nat) : Option Value := match M.2.1 a with
  | some (.inr (c, fs)) => if c = ci then fs[k]? else none
  | _ => none
def vI : Value → Option Int32
  | .int x => some x
  | _ => none
def vL : Value → Option Int64
  | .long x => some x
  | _ => none
def vN : Value → Option Nat
  | .ref x => some x
  | _ => none
def gI (M : Mem) (ci a k : Nat) : Option Int32 := (gF M ci a k).bind vI
def gL (M : Mem) (ci a k : Nat) : Option Int64 := (gF M ci a k).bind vL
def gN (M : Mem) (ci a k : Nat) : Option Nat := (gF M ci a k).bind vN
def pF (M : Mem) (ci a k : Nat) (v : Value) : Option Mem := match M.2.1 a with
  | some (.inr (c, fs)) => if c = ci ∧ k < fs.length then some (mst M a (.inr (c, fs.set k v))) else none
  | _ => none
def ck (M : Mem) (ci a : Nat) : Option Unit := match M.2.1 a with
  | some (.inr (c, _)) => if c = ci then some () else none
  | _ => none
def ckS (M : Mem) (a : Nat) : Option Unit := match M.2.2.2.2 a with
  | some _ => some ()
  | _ => none
def inr (i : Int32) (n : Nat) : Bool := decide (¬ i < 0) && decide (i.toNatClampNeg < n)
def aI (M : Mem) (a : Nat) (i : Int32) : Option Int32 := match M.2.1 a with
  | some (.inl (.int, n, .inl f)) => if inr i n = true then some (f i.toNatClampNeg) else none
  | _ => none
def aL (M : Mem) (a : Nat) (i : Int32) : Option Int64 := match M.2.1 a with
  | some (.inl (.long, n, .inr (.inl f))) => if inr i n = true then some (f i.toNatClampNeg) else none
  | _ => none
def aB (M : Mem) (a : Nat) (i : Int32) : Option Int32 := match M.2.1 a with
  | some (.inl (.byte, n, .inl f)) => if inr i n = true then some (f i.toNatClampNeg) else none
  | _ => none
def aZ (M : Mem) (a : Nat) (i : Int32) : Option Int32 := match M.2.1 a with
  | some (.inl (.boolean, n, .inl f)) => if inr i n = true then some (f i.toNatClampNeg) else none
  | _ => none
def aQ (M : Mem) (a : Nat) (i : Int32) : Option (Option Nat) := match M.2.1 a with
  | some (.inl (.object _, n, .inr (.inr (.inr (.inr f))))) => if inr i n = true then some (f i.toNatClampNeg) else none
  | _ => none
def sI (M : Mem) (a : Nat) (i : Int32) (x : Int32) : Option Mem := match M.2.1 a with
  | some (.inl (.int, n, .inl f)) => if inr i n = true then some (mst M a (.inl (.int, n, .inl (upd f i.toNatClampNeg x)))) else none
  | _ => none
def sL (M : Mem) (a : Nat) (i : Int32) (x : Int64) : Option Mem := match M.2.1 a with
  | some (.inl (.long, n, .inr (.inl f))) => if inr i n = true then some (mst M a (.inl (.long, n, .inr (.inl (vp_updL f i.toNatClampNeg x))))) else none
  | _ => none
def sB (M : Mem) (a : Nat) (i : Int32) (x : Int32) : Option Mem := match M.2.1 a with
  | some (.inl (.byte, n, .inl f)) => if inr i n = true then some (mst M a (.inl (.byte, n, .inl (upd f i.toNatClampNeg (vp_nar .byte x))))) else none
  | _ => none
def sZ (M : Mem) (a : Nat) (i : Int32) (x : Int32) : Option Mem := match M.2.1 a with
  | some (.inl (.boolean, n, .inl f)) => if inr i n = true then some (mst M a (.inl (.boolean, n, .inl (upd f i.toNatClampNeg (vp_nar .boolean x))))) else none
  | _ => none
/-- a reference into an array of a class's objects; v is null, or an object of that class (number ci) -/
def sQ (M : Mem) (ci a : Nat) (i : Int32) (v : Option Nat) : Option Mem := match M.2.1 a with
  | some (.inl (.object C, n, .inr (.inr (.inr (.inr f))))) => if inr i n = true ∧ (vwCl[ci]?).map (fun q => q.1) = some C ∧ (v.bind (fun b => ck M ci b)).isSome = v.isSome then some (mst M a (.inl (.object C, n, .inr (.inr (.inr (.inr (va_up f i.toNatClampNeg v))))))) else none
  | _ => none
def aN (M : Mem) (a : Nat) : Option Int32 := match M.2.1 a with
  | some (.inl (_, n, _)) => some (Int32.ofNat n)
  | _ => none
def kA (M : Mem) (ty : FieldType) (a : Nat) (i : Int32) : Option Int32 := match M.2.2.2.1 a with
  | some (t, n, f) => if t = ty ∧ inr i n = true then some (f i.toNatClampNeg) else none
  | _ => none
def kN (M : Mem) (a : Nat) : Option Int32 := match M.2.2.2.1 a with
  | some (_, n, _) => some (Int32.ofNat n)
  | _ => none
def kV (M : Mem) (a : Nat) : Option Nat := M.2.2.2.2 a
def cpI (M : Mem) (a0 : Nat) (sp : Int32) (a : Nat) (dp n : Int32) : Option Mem := match M.2.1 a0, M.2.1 a with
  | some (.inl (.int, n0, .inl f)), some (.inl (.int, n1, .inl g)) => if (¬ sp < 0 ∧ ¬ dp < 0 ∧ ¬ n < 0) ∧ sp.toNatClampNeg + n.toNatClampNeg ≤ n0 ∧ dp.toNatClampNeg + n.toNatClampNeg ≤ n1 then some (mst M a (.inl (.int, n1, .inl (va_cpy f g sp.toNatClampNeg dp.toNatClampNeg n.toNatClampNeg)))) else none
  | _, _ => none
def cpL (M : Mem) (a0 : Nat) (sp : Int32) (a : Nat) (dp n : Int32) : Option Mem := match M.2.1 a0, M.2.1 a with
  | some (.inl (.long, n0, .inr (.inl f))), some (.inl (.long, n1, .inr (.inl g))) => if (¬ sp < 0 ∧ ¬ dp < 0 ∧ ¬ n < 0) ∧ sp.toNatClampNeg + n.toNatClampNeg ≤ n0 ∧ dp.toNatClampNeg + n.toNatClampNeg ≤ n1 then some (mst M a (.inl (.long, n1, .inr (.inl (va_cpy f g sp.toNatClampNeg dp.toNatClampNeg n.toNatClampNeg))))) else none
  | _, _ => none
def dfA : FieldType → Nat → vp_A
  | .long, n => (n, .inr (.inl (fun _ => 0)))
  | .object _, n => (n, .inr (.inr (.inr (.inr (fun _ => none)))))
  | _, n => (n, .inl (fun _ => 0))
/-- a new array of at most cap places: its address is the memory's next -/
def nA (M : Mem) (ty : FieldType) (n : Int32) (cap : Nat) : Option Mem := if ¬ n < 0 ∧ n.toNatClampNeg ≤ cap then some (mnw M (.inl (ty, dfA ty n.toNatClampNeg))) else none
def nO (M : Mem) (ci : Nat) (fs : List Value) : Mem := mnw M (.inr (ci, fs))
/-- an int that a field or an answer of a small type keeps as it is -/
def nr (ty : FieldType) (x : Int32) : Option Int32 := if vp_nar ty x = x then some x else none
def FU : Nat := 100000
theorem ob {α β : Type} {o : Option α} {f : α → Option β} {b : β} (h : o.bind f = some b) : ∃ a, o = some a ∧ f a = some b := by
  cases o with
  | none => cases h
  | some a => exact ⟨a, rfl, h⟩
theorem inr_in {i : Int32} {n : Nat} (h : inr i n = true) : vp_in i n := by
  simp only [inr, Bool.and_eq_true, decide_eq_true_eq] at h
  intro q
  rcases q with q | q
  · exact h.1 q
  · omega
theorem gF_spec {M : Mem} {ci a k : Nat} {v : Value} (h : gF M ci a k = some v) : ∃ fs, M.2.1 a = some (.inr (ci, fs)) ∧ fs[k]? = some v := by
  unfold gF at h
  split at h
  · rename_i c fs hM
    by_cases hc : c = ci
    · subst hc
      rw [if_pos rfl] at h
      exact ⟨fs, hM, h⟩
    · rw [if_neg hc] at h
      cases h
  · cases h
theorem gI_F {M : Mem} {ci a k : Nat} {x : Int32} (h : gI M ci a k = some x) : gF M ci a k = some (.int x) := by
  obtain ⟨v, h1, h2⟩ := ob h
  cases v <;> cases h2
  exact h1
theorem gL_F {M : Mem} {ci a k : Nat} {x : Int64} (h : gL M ci a k = some x) : gF M ci a k = some (.long x) := by
  obtain ⟨v, h1, h2⟩ := ob h
  cases v <;> cases h2
  exact h1
theorem gN_F {M : Mem} {ci a k : Nat} {x : Nat} (h : gN M ci a k = some x) : gF M ci a k = some (.ref x) := by
  obtain ⟨v, h1, h2⟩ := ob h
  cases v <;> cases h2
  exact h1
theorem pF_spec {M M2 : Mem} {ci a k : Nat} {v : Value} (h : pF M ci a k v = some M2) : ∃ fs, M.2.1 a = some (.inr (ci, fs)) ∧ k < fs.length ∧ M2 = mst M a (.inr (ci, fs.set k v)) := by
  unfold pF at h
  split at h
  · rename_i c fs hM
    by_cases hc : c = ci ∧ k < fs.length
    · rw [if_pos hc] at h
      obtain ⟨rfl, hk⟩ := hc
      exact ⟨fs, hM, hk, (Option.some.inj h).symm⟩
    · rw [if_neg hc] at h
      cases h
  · cases h
theorem ck_spec {M : Mem} {ci a : Nat} {u : Unit} (h : ck M ci a = some u) : ∃ fs, M.2.1 a = some (.inr (ci, fs)) := by
  unfold ck at h
  split at h
  · rename_i c fs hM
    by_cases hc : c = ci
    · subst hc
      exact ⟨fs, hM⟩
    · rw [if_neg hc] at h
      cases h
  · cases h
theorem aI_spec {M : Mem} {a : Nat} {i x : Int32} (h : aI M a i = some x) : ∃ n f, M.2.1 a = some (.inl (.int, n, .inl f)) ∧ inr i n = true ∧ x = f i.toNatClampNeg := by
  unfold aI at h
  split at h
  · rename_i n f hM
    by_cases hc : inr i n = true
    · rw [if_pos hc] at h
      exact ⟨n, f, hM, hc, (Option.some.inj h).symm⟩
    · rw [if_neg hc] at h
      cases h
  · cases h
theorem aL_spec {M : Mem} {a : Nat} {i : Int32} {x : Int64} (h : aL M a i = some x) : ∃ n f, M.2.1 a = some (.inl (.long, n, .inr (.inl f))) ∧ inr i n = true ∧ x = f i.toNatClampNeg := by
  unfold aL at h
  split at h
  · rename_i n f hM
    by_cases hc : inr i n = true
    · rw [if_pos hc] at h
      exact ⟨n, f, hM, hc, (Option.some.inj h).symm⟩
    · rw [if_neg hc] at h
      cases h
  · cases h
theorem aB_spec {M : Mem} {a : Nat} {i x : Int32} (h : aB M a i = some x) : ∃ n f, M.2.1 a = some (.inl (.byte, n, .inl f)) ∧ inr i n = true ∧ x = f i.toNatClampNeg := by
  unfold aB at h
  split at h
  · rename_i n f hM
    by_cases hc : inr i n = true
    · rw [if_pos hc] at h
      exact ⟨n, f, hM, hc, (Option.some.inj h).symm⟩
    · rw [if_neg hc] at h
      cases h
  · cases h
theorem aZ_spec {M : Mem} {a : Nat} {i x : Int32} (h : aZ M a i = some x) : ∃ n f, M.2.1 a = some (.inl (.boolean, n, .inl f)) ∧ inr i n = true ∧ x = f i.toNatClampNeg := by
  unfold aZ at h
  split at h
  · rename_i n f hM
    by_cases hc : inr i n = true
    · rw [if_pos hc] at h
      exact ⟨n, f, hM, hc, (Option.some.inj h).symm⟩
    · rw [if_neg hc] at h
      cases h
  · cases h
theorem aQ_spec {M : Mem} {a : Nat} {i : Int32} {x : Option Nat} (h : aQ M a i = some x) : ∃ C n f, M.2.1 a = some (.inl (.object C, n, .inr (.inr (.inr (.inr f))))) ∧ inr i n = true ∧ x = f i.toNatClampNeg := by
  unfold aQ at h
  split at h
  · rename_i C n f hM
    by_cases hc : inr i n = true
    · rw [if_pos hc] at h
      exact ⟨C, n, f, hM, hc, (Option.some.inj h).symm⟩
    · rw [if_neg hc] at h
      cases h
  · cases h
theorem sI_spec {M M2 : Mem} {a : Nat} {i x : Int32} (h : sI M a i x = some M2) : ∃ n f, M.2.1 a = some (.inl (.int, n, .inl f)) ∧ inr i n = true ∧ M2 = mst M a (.inl (.int, n, .inl (upd f i.toNatClampNeg x))) := by
  unfold sI at h
  split at h
  · rename_i n f hM
    by_cases hc : inr i n = true
    · rw [if_pos hc] at h
      exact ⟨n, f, hM, hc, (Option.some.inj h).symm⟩
    · rw [if_neg hc] at h
      cases h
  · cases h
theorem sL_spec {M M2 : Mem} {a : Nat} {i : Int32} {x : Int64} (h : sL M a i x = some M2) : ∃ n f, M.2.1 a = some (.inl (.long, n, .inr (.inl f))) ∧ inr i n = true ∧ M2 = mst M a (.inl (.long, n, .inr (.inl (vp_updL f i.toNatClampNeg x)))) := by
  unfold sL at h
  split at h
  · rename_i n f hM
    by_cases hc : inr i n = true
    · rw [if_pos hc] at h
      exact ⟨n, f, hM, hc, (Option.some.inj h).symm⟩
    · rw [if_neg hc] at h
      cases h
  · cases h
theorem sB_spec {M M2 : Mem} {a : Nat} {i x : Int32} (h : sB M a i x = some M2) : ∃ n f, M.2.1 a = some (.inl (.byte, n, .inl f)) ∧ inr i n = true ∧ M2 = mst M a (.inl (.byte, n, .inl (upd f i.toNatClampNeg (vp_nar .byte x)))) := by
  unfold sB at h
  split at h
  · rename_i n f hM
    by_cases hc : inr i n = true
    · rw [if_pos hc] at h
      exact ⟨n, f, hM, hc, (Option.some.inj h).symm⟩
    · rw [if_neg hc] at h
      cases h
  · cases h
theorem sZ_spec {M M2 : Mem} {a : Nat} {i x : Int32} (h : sZ M a i x = some M2) : ∃ n f, M.2.1 a = some (.inl (.boolean, n, .inl f)) ∧ inr i n = true ∧ M2 = mst M a (.inl (.boolean, n, .inl (upd f i.toNatClampNeg (vp_nar .boolean x)))) := by
  unfold sZ at h
  split at h
  · rename_i n f hM
    by_cases hc : inr i n = true
    · rw [if_pos hc] at h
      exact ⟨n, f, hM, hc, (Option.some.inj h).symm⟩
    · rw [if_neg hc] at h
      cases h
  · cases h
theorem sQ_spec {M M2 : Mem} {ci a : Nat} {i : Int32} {v : Option Nat} (h : sQ M ci a i v = some M2) : ∃ C n f, M.2.1 a = some (.inl (.object C, n, .inr (.inr (.inr (.inr f))))) ∧ inr i n = true ∧ (vwCl[ci]?).map (fun q => q.1) = some C ∧ (∀ b, v = some b → ∃ fs, M.2.1 b = some (.inr (ci, fs))) ∧ M2 = mst M a (.inl (.object C, n, .inr (.inr (.inr (.inr (va_up f i.toNatClampNeg v)))))) := by
  unfold sQ at h
  split at h
  · rename_i C n f hM
    by_cases hc : inr i n = true ∧ (vwCl[ci]?).map (fun q => q.1) = some C ∧ (v.bind (fun b => ck M ci b)).isSome = v.isSome
    · rw [if_pos hc] at h
      obtain ⟨h1, h2, h3⟩ := hc
      refine ⟨C, n, f, hM, h1, h2, fun b hb => ?_, (Option.some.inj h).symm⟩
      subst hb
      cases hk : ck M ci b with
      | none => rw [Option.bind_some, hk] at h3; cases h3
      | some u => exact ck_spec hk
    · rw [if_neg hc] at h
      cases h
  · cases h
theorem kA_spec {M : Mem} {ty : FieldType} {a : Nat} {i x : Int32} (h : kA M ty a i = some x) : ∃ n f, M.2.2.2.1 a = some (ty, n, f) ∧ inr i n = true ∧ x = f i.toNatClampNeg := by
  unfold kA at h
  split at h
  · rename_i t n f hM
    by_cases hc : t = ty ∧ inr i n = true
    · rw [if_pos hc] at h
      obtain ⟨rfl, hc⟩ := hc
      exact ⟨n, f, hM, hc, (Option.some.inj h).symm⟩
    · rw [if_neg hc] at h
      cases h
  · cases h
theorem nr_spec {ty : FieldType} {x y : Int32} (h : nr ty x = some y) : vp_nar ty x = x ∧ y = x := by
  unfold nr at h
  by_cases hc : vp_nar ty x = x
  · rw [if_pos hc] at h
    exact ⟨hc, (Option.some.inj h).symm⟩
  · rw [if_neg hc] at h
    cases h
theorem nr_nar {ty : FieldType} {x : Int32} (hty : ty = .boolean ∨ ty = .byte ∨ ty = .char ∨ ty = .short ∨ ty = .int) (h : vp_nar ty x = x) : narrow ty (.int x) = .int x := by
  rcases hty with rfl | rfl | rfl | rfl | rfl <;> exact congrArg Value.int h

def nz (x : Int32) : Option Int32 := if x = 0 ∨ x = 1 then some x else none
theorem nz_spec {x y : Int32} (h : nz x = some y) : (x = 0 ∨ x = 1) ∧ y = x := by
  unfold nz at h
  by_cases hc : x = 0 ∨ x = 1
  · rw [if_pos hc] at h
    exact ⟨hc, (Option.some.inj h).symm⟩
  · rw [if_neg hc] at h
    cases h
theorem nz_nar {x : Int32} (h : x = 0 ∨ x = 1) : narrow .boolean (.int x) = .int x := by
  rcases h with rfl | rfl <;> decide
theorem nz_fit {x : Int32} (h : x = 0 ∨ x = 1) : fits .boolean (.int x) = true := by
  rcases h with rfl | rfl <;> decide
theorem cat_rf (o : Option Nat) : (va_rf o).category = 1 := by cases o <;> rfl
