def rmI (x y : Int32) : Int32 := x - x / y * y
def rmL (x y : Int64) : Int64 := x - x / y * y
section PREL
variable {κ : KT} {μ : MD} {cells slots pc pc' : Nat} {lv lv' : List (Nat × Value)} {st : List Value} {M : Mem}
theorem g_irem2 {x y : Int32} (O : OkK κ μ) (hd : decode μ.1 pc = .ok (.irem, 1)) (hne : ¬ y = 0) (hp : pc + 1 = pc') (k : G κ μ cells slots pc' lv (.int (rmI x y) :: st) M) : G κ μ cells slots pc lv (.int y :: .int x :: st) M := g_irem O hd hne hp k
theorem g_lrem2 {x y : Int64} (O : OkK κ μ) (hd : decode μ.1 pc = .ok (.lrem, 1)) (hne : ¬ y = 0) (hp : pc + 1 = pc') (k : G κ μ cells slots pc' lv (.long (rmL x y) :: st) M) : G κ μ cells slots pc lv (.long y :: .long x :: st) M := g_lrem O hd hne hp k
end PREL
theorem Cn.ofF {l : Launch} {y : MethodName} {μ : MD} {args : List Value} {M : Mem} {r : Option Value} {M' : Mem} (lv : List (Nat × Value)) (hy : plainFor y = true) (hown : y.cls = μ.2.2.1) (hnm : y.name = μ.2.2.2.2.2) (hlen : (lg_sl args).length ≤ μ.2.1) (hlv : lv_args 0 args = lv)
    (body : ∀ κ : KT, κ.2.1 = l → κ.2.2.2.2.2.2.2.2.2.2.2.2.2 = (r, M') → OkK κ μ → G κ μ 0 0 0 lv [] M) : Cn l y μ args M r M' := by
  intro z D ca
  obtain ⟨cc, nL, own, ret, R, nm⟩ := μ
  refine va_MetF (cc := cc) (maxL := nL) (ret := ret) hy rfl ?_
  intro p e s m args' below meth c s₁ B hml hv
  obtain ⟨rfl, hz, hn, hP, hK, hR⟩ := hv
  have hts := atoms_spec (ws := Cond.code y cc nL ret :: gT) B.pre
  have hl := lv_entry args (n := nL) hlen
  rw [hlv] at hl
  rw [lg_entry_eq]
  exact body (p, l, e, s, m, args.toArray, below, meth, c, z, D, ca, M.2.2, r, M') rfl rfl ⟨B.exec, B.bytes, hml, by have h := findClass_of_methodNamed B.named; rw [hown] at h; exact h, fun w hw hg => hts w (List.mem_cons_of_mem _ (List.mem_filter.mpr ⟨hw, hg⟩)), B.notSynchronized, B.returns, (name_of_methodNamed B.named B.method).1.trans hnm, hK, hR, hz⟩ s.heap _ [] hn rfl hP va_S.rf hl
def dzI (y : Int32) : Option Unit := if y = 0 then none else some ()
def dzL (y : Int64) : Option Unit := if y = 0 then none else some ()
theorem dzI_ne {y : Int32} {u : Unit} (h : dzI y = some u) : ¬ y = 0 := by
  intro q
  rw [dzI, if_pos q] at h
  cases h
theorem dzL_ne {y : Int64} {u : Unit} (h : dzL y = some u) : ¬ y = 0 := by
  intro q
  rw [dzL, if_pos q] at h
  cases h
theorem ip {α : Type} {c : Prop} [Decidable c] {a b r : α} (hc : c) (h : (if c then a else b) = r) : a = r := by
  rw [if_pos hc] at h
  exact h
theorem ine {α : Type} {c : Prop} [Decidable c] {a b r : α} (hc : ¬ c) (h : (if c then a else b) = r) : b = r := by
  rw [if_neg hc] at h
  exact h
theorem oe_none {α β : Type} {o : Option α} {A r : β} {f : α → β} (ho : o = none) (h : Option.elim o A f = r) : A = r := by
  subst ho
  exact h
theorem oe_some {α β : Type} {o : Option α} {a : α} {A r : β} {f : α → β} (ho : o = some a) (h : Option.elim o A f = r) : f a = r := by
  subst ho
  exact h
