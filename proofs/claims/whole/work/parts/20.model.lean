/-! ===== the reference's memory: its object at m, its arrays at m + 1 .. m + 23 ===== -/
def mo (m : Nat) (I : Nat → Int32) (fd : Int64) : ME := .inr (5, [.int (I 0), .ref (m + 1), .ref (m + 2), .ref (m + 3), .ref (m + 4), .ref (m + 5), .ref (m + 6), .ref (m + 7), .ref (m + 8), .ref (m + 9), .ref (m + 10), .ref (m + 11), .ref (m + 12), .ref (m + 13), .ref (m + 14), .ref (m + 15), .ref (m + 16), .ref (m + 17), .ref (m + 18), .ref (m + 19), .int (I 20), .ref (m + 20), .ref (m + 21), .int (I 23), .long fd, .ref (m + 22), .int (I 26), .int (I 27), .ref (m + 23)])
def mty (j : Nat) : FieldType := if j = 7 ∨ j = 23 then .boolean else if j = 16 then .byte else .int
def msz (j : Nat) : Nat := [0, 4, 24, 24, 24, 24, 24, 24, 24, 24, 4, 240, 12, 12, 4, 120, 7200, 4, 640, 200, 64, 64, 160, 3].getD j 0
def mcell (A : Nat → Nat → Int32) (B : Nat → Nat → Int64) (j : Nat) : ME := if j = 12 ∨ j = 13 then .inl (.long, msz j, .inr (.inl (B j))) else .inl (mty j, msz j, .inl (A j))
def mm (m : Nat) (I : Nat → Int32) (A : Nat → Nat → Int32) (B : Nat → Nat → Int64) (fd : Int64) (N : Mem) : Mem := (N.1, fun a => if a = m then some (mo m I fd) else if m < a ∧ a ≤ m + 23 then some (mcell A B (a - m)) else N.2.1 a, N.2.2)
def upI (I : Nat → Int32) (k : Nat) (v : Int32) : Nat → Int32 := fun j => if j = k then v else I j
def upA (A : Nat → Nat → Int32) (j : Nat) (f : Nat → Int32) : Nat → Nat → Int32 := fun k => if k = j then f else A k
def upB (B : Nat → Nat → Int64) (j : Nat) (f : Nat → Int64) : Nat → Nat → Int64 := fun k => if k = j then f else B k
theorem mm_at {m : Nat} {I : Nat → Int32} {A : Nat → Nat → Int32} {B : Nat → Nat → Int64} {fd : Int64} {N : Mem} : (mm m I A B fd N).2.1 m = some (mo m I fd) := by simp [mm]
theorem mm_arr {m : Nat} {I : Nat → Int32} {A : Nat → Nat → Int32} {B : Nat → Nat → Int64} {fd : Int64} {N : Mem} {j : Nat} (h1 : 1 ≤ j) (h2 : j ≤ 23) : (mm m I A B fd N).2.1 (m + j) = some (mcell A B j) := by
  show (if m + j = m then _ else if m < m + j ∧ m + j ≤ m + 23 then some (mcell A B (m + j - m)) else _) = _
  rw [if_neg (by omega), if_pos (by omega), Nat.add_sub_cancel_left]
theorem mm_setA {m : Nat} {I : Nat → Int32} {A : Nat → Nat → Int32} {B : Nat → Nat → Int64} {fd : Int64} {N : Mem} {j : Nat} (h1 : 1 ≤ j) (h2 : j ≤ 23) (f : Nat → Int32) : mst (mm m I A B fd N) (m + j) (mcell (upA A j f) B j) = mm m I (upA A j f) B fd N := by
  refine Prod.ext rfl (Prod.ext (funext fun a => ?_) rfl)
  show (if a = m + j then some (mcell (upA A j f) B j) else if a = m then some (mo m I fd) else if m < a ∧ a ≤ m + 23 then some (mcell A B (a - m)) else N.2.1 a) = if a = m then some (mo m I fd) else if m < a ∧ a ≤ m + 23 then some (mcell (upA A j f) B (a - m)) else N.2.1 a
  by_cases ha : a = m + j
  · subst ha
    rw [if_pos rfl, if_neg (by omega), if_pos (by omega), Nat.add_sub_cancel_left]
  · rw [if_neg ha]
    by_cases hm : a = m
    · rw [if_pos hm, if_pos hm]
    · rw [if_neg hm, if_neg hm]
      by_cases hr : m < a ∧ a ≤ m + 23
      · rw [if_pos hr, if_pos hr]
        have : ¬ a - m = j := by omega
        simp only [mcell, upA, if_neg this]
      · rw [if_neg hr, if_neg hr]
theorem mm_setB {m : Nat} {I : Nat → Int32} {A : Nat → Nat → Int32} {B : Nat → Nat → Int64} {fd : Int64} {N : Mem} {j : Nat} (h1 : 1 ≤ j) (h2 : j ≤ 23) (f : Nat → Int64) : mst (mm m I A B fd N) (m + j) (mcell A (upB B j f) j) = mm m I A (upB B j f) fd N := by
  refine Prod.ext rfl (Prod.ext (funext fun a => ?_) rfl)
  show (if a = m + j then some (mcell A (upB B j f) j) else if a = m then some (mo m I fd) else if m < a ∧ a ≤ m + 23 then some (mcell A B (a - m)) else N.2.1 a) = if a = m then some (mo m I fd) else if m < a ∧ a ≤ m + 23 then some (mcell A (upB B j f) (a - m)) else N.2.1 a
  by_cases ha : a = m + j
  · subst ha
    rw [if_pos rfl, if_neg (by omega), if_pos (by omega), Nat.add_sub_cancel_left]
  · rw [if_neg ha]
    by_cases hm : a = m
    · rw [if_pos hm, if_pos hm]
    · rw [if_neg hm, if_neg hm]
      by_cases hr : m < a ∧ a ≤ m + 23
      · rw [if_pos hr, if_pos hr]
        have : ¬ a - m = j := by omega
        simp only [mcell, upB, if_neg this]
      · rw [if_neg hr, if_neg hr]
theorem mm_setI {m : Nat} {I I2 : Nat → Int32} {A : Nat → Nat → Int32} {B : Nat → Nat → Int64} {fd fd2 : Int64} {N : Mem} : mst (mm m I A B fd N) m (mo m I2 fd2) = mm m I2 A B fd2 N := by
  refine Prod.ext rfl (Prod.ext (funext fun a => ?_) rfl)
  show (if a = m then some (mo m I2 fd2) else if a = m then some (mo m I fd) else _) = if a = m then some (mo m I2 fd2) else _
  by_cases hm : a = m
  · rw [if_pos hm, if_pos hm]
  · rw [if_neg hm, if_neg hm, if_neg hm]
section MODEL
variable {m : Nat} {I : Nat → Int32} {A : Nat → Nat → Int32} {B : Nat → Nat → Int64} {fd : Int64} {N : Mem} {i x : Int32} {y : Int64}
theorem mm_ck : ck (mm m I A B fd N) 5 m = some () := by simp [ck, mm_at, mo]
theorem mm_gI0 : gI (mm m I A B fd N) 5 m 0 = some (I 0) := by simp [gI, gF, mm_at, mo, vI]
theorem mm_pI0 : pF (mm m I A B fd N) 5 m 0 (.int x) = some (mm m (upI I 0 x) A B fd N) := by
  rw [← mm_setI (I := I) (fd := fd) (I2 := upI I 0 x) (fd2 := fd)]
  simp [pF, mm_at, mo, upI]
theorem mm_gI20 : gI (mm m I A B fd N) 5 m 20 = some (I 20) := by simp [gI, gF, mm_at, mo, vI]
theorem mm_pI20 : pF (mm m I A B fd N) 5 m 20 (.int x) = some (mm m (upI I 20 x) A B fd N) := by
  rw [← mm_setI (I := I) (fd := fd) (I2 := upI I 20 x) (fd2 := fd)]
  simp [pF, mm_at, mo, upI]
theorem mm_gI23 : gI (mm m I A B fd N) 5 m 23 = some (I 23) := by simp [gI, gF, mm_at, mo, vI]
theorem mm_pI23 : pF (mm m I A B fd N) 5 m 23 (.int x) = some (mm m (upI I 23 x) A B fd N) := by
  rw [← mm_setI (I := I) (fd := fd) (I2 := upI I 23 x) (fd2 := fd)]
  simp [pF, mm_at, mo, upI]
theorem mm_gI26 : gI (mm m I A B fd N) 5 m 26 = some (I 26) := by simp [gI, gF, mm_at, mo, vI]
theorem mm_pI26 : pF (mm m I A B fd N) 5 m 26 (.int x) = some (mm m (upI I 26 x) A B fd N) := by
  rw [← mm_setI (I := I) (fd := fd) (I2 := upI I 26 x) (fd2 := fd)]
  simp [pF, mm_at, mo, upI]
theorem mm_gI27 : gI (mm m I A B fd N) 5 m 27 = some (I 27) := by simp [gI, gF, mm_at, mo, vI]
theorem mm_pI27 : pF (mm m I A B fd N) 5 m 27 (.int x) = some (mm m (upI I 27 x) A B fd N) := by
  rw [← mm_setI (I := I) (fd := fd) (I2 := upI I 27 x) (fd2 := fd)]
  simp [pF, mm_at, mo, upI]
theorem mm_gL24 : gL (mm m I A B fd N) 5 m 24 = some fd := by simp [gL, gF, mm_at, mo, vL]
theorem mm_pL24 : pF (mm m I A B fd N) 5 m 24 (.long y) = some (mm m I A B y N) := by
  rw [← mm_setI (I := I) (fd := fd) (I2 := I) (fd2 := y)]
  simp [pF, mm_at, mo]
theorem mm_gN1 : gN (mm m I A B fd N) 5 m 1 = some (m + 1) := by simp [gN, gF, mm_at, mo, vN]
theorem mm_gN2 : gN (mm m I A B fd N) 5 m 2 = some (m + 2) := by simp [gN, gF, mm_at, mo, vN]
theorem mm_gN3 : gN (mm m I A B fd N) 5 m 3 = some (m + 3) := by simp [gN, gF, mm_at, mo, vN]
theorem mm_gN4 : gN (mm m I A B fd N) 5 m 4 = some (m + 4) := by simp [gN, gF, mm_at, mo, vN]
theorem mm_gN5 : gN (mm m I A B fd N) 5 m 5 = some (m + 5) := by simp [gN, gF, mm_at, mo, vN]
theorem mm_gN6 : gN (mm m I A B fd N) 5 m 6 = some (m + 6) := by simp [gN, gF, mm_at, mo, vN]
theorem mm_gN7 : gN (mm m I A B fd N) 5 m 7 = some (m + 7) := by simp [gN, gF, mm_at, mo, vN]
theorem mm_gN8 : gN (mm m I A B fd N) 5 m 8 = some (m + 8) := by simp [gN, gF, mm_at, mo, vN]
theorem mm_gN9 : gN (mm m I A B fd N) 5 m 9 = some (m + 9) := by simp [gN, gF, mm_at, mo, vN]
theorem mm_gN10 : gN (mm m I A B fd N) 5 m 10 = some (m + 10) := by simp [gN, gF, mm_at, mo, vN]
theorem mm_gN11 : gN (mm m I A B fd N) 5 m 11 = some (m + 11) := by simp [gN, gF, mm_at, mo, vN]
theorem mm_gN12 : gN (mm m I A B fd N) 5 m 12 = some (m + 12) := by simp [gN, gF, mm_at, mo, vN]
theorem mm_gN13 : gN (mm m I A B fd N) 5 m 13 = some (m + 13) := by simp [gN, gF, mm_at, mo, vN]
theorem mm_gN14 : gN (mm m I A B fd N) 5 m 14 = some (m + 14) := by simp [gN, gF, mm_at, mo, vN]
theorem mm_gN15 : gN (mm m I A B fd N) 5 m 15 = some (m + 15) := by simp [gN, gF, mm_at, mo, vN]
theorem mm_gN16 : gN (mm m I A B fd N) 5 m 16 = some (m + 16) := by simp [gN, gF, mm_at, mo, vN]
theorem mm_gN17 : gN (mm m I A B fd N) 5 m 17 = some (m + 17) := by simp [gN, gF, mm_at, mo, vN]
theorem mm_gN18 : gN (mm m I A B fd N) 5 m 18 = some (m + 18) := by simp [gN, gF, mm_at, mo, vN]
theorem mm_gN19 : gN (mm m I A B fd N) 5 m 19 = some (m + 19) := by simp [gN, gF, mm_at, mo, vN]
theorem mm_gN21 : gN (mm m I A B fd N) 5 m 21 = some (m + 20) := by simp [gN, gF, mm_at, mo, vN]
theorem mm_gN22 : gN (mm m I A B fd N) 5 m 22 = some (m + 21) := by simp [gN, gF, mm_at, mo, vN]
theorem mm_gN25 : gN (mm m I A B fd N) 5 m 25 = some (m + 22) := by simp [gN, gF, mm_at, mo, vN]
theorem mm_gN28 : gN (mm m I A B fd N) 5 m 28 = some (m + 23) := by simp [gN, gF, mm_at, mo, vN]
theorem mm_aI1 : aI (mm m I A B fd N) (m + 1) i = if inr i 4 = true then some (A 1 i.toNatClampNeg) else none := by simp [aI, mm_arr, mcell, mty, msz]
theorem mm_sI1 : sI (mm m I A B fd N) (m + 1) i x = if inr i 4 = true then some (mm m I (upA A 1 (upd (A 1) i.toNatClampNeg x)) B fd N) else none := by
  rw [← mm_setA (by decide) (by decide)]
  simp [sI, mm_arr, mcell, mty, msz, upA]
theorem mm_aI2 : aI (mm m I A B fd N) (m + 2) i = if inr i 24 = true then some (A 2 i.toNatClampNeg) else none := by simp [aI, mm_arr, mcell, mty, msz]
theorem mm_sI2 : sI (mm m I A B fd N) (m + 2) i x = if inr i 24 = true then some (mm m I (upA A 2 (upd (A 2) i.toNatClampNeg x)) B fd N) else none := by
  rw [← mm_setA (by decide) (by decide)]
  simp [sI, mm_arr, mcell, mty, msz, upA]
theorem mm_aI3 : aI (mm m I A B fd N) (m + 3) i = if inr i 24 = true then some (A 3 i.toNatClampNeg) else none := by simp [aI, mm_arr, mcell, mty, msz]
theorem mm_sI3 : sI (mm m I A B fd N) (m + 3) i x = if inr i 24 = true then some (mm m I (upA A 3 (upd (A 3) i.toNatClampNeg x)) B fd N) else none := by
  rw [← mm_setA (by decide) (by decide)]
  simp [sI, mm_arr, mcell, mty, msz, upA]
theorem mm_aI4 : aI (mm m I A B fd N) (m + 4) i = if inr i 24 = true then some (A 4 i.toNatClampNeg) else none := by simp [aI, mm_arr, mcell, mty, msz]
theorem mm_sI4 : sI (mm m I A B fd N) (m + 4) i x = if inr i 24 = true then some (mm m I (upA A 4 (upd (A 4) i.toNatClampNeg x)) B fd N) else none := by
  rw [← mm_setA (by decide) (by decide)]
  simp [sI, mm_arr, mcell, mty, msz, upA]
theorem mm_aI5 : aI (mm m I A B fd N) (m + 5) i = if inr i 24 = true then some (A 5 i.toNatClampNeg) else none := by simp [aI, mm_arr, mcell, mty, msz]
theorem mm_sI5 : sI (mm m I A B fd N) (m + 5) i x = if inr i 24 = true then some (mm m I (upA A 5 (upd (A 5) i.toNatClampNeg x)) B fd N) else none := by
  rw [← mm_setA (by decide) (by decide)]
  simp [sI, mm_arr, mcell, mty, msz, upA]
theorem mm_aI6 : aI (mm m I A B fd N) (m + 6) i = if inr i 24 = true then some (A 6 i.toNatClampNeg) else none := by simp [aI, mm_arr, mcell, mty, msz]
theorem mm_sI6 : sI (mm m I A B fd N) (m + 6) i x = if inr i 24 = true then some (mm m I (upA A 6 (upd (A 6) i.toNatClampNeg x)) B fd N) else none := by
  rw [← mm_setA (by decide) (by decide)]
  simp [sI, mm_arr, mcell, mty, msz, upA]
theorem mm_aZ7 : aZ (mm m I A B fd N) (m + 7) i = if inr i 24 = true then some (A 7 i.toNatClampNeg) else none := by simp [aZ, mm_arr, mcell, mty, msz]
theorem mm_sZ7 : sZ (mm m I A B fd N) (m + 7) i x = if inr i 24 = true then some (mm m I (upA A 7 (upd (A 7) i.toNatClampNeg (vp_nar .boolean x))) B fd N) else none := by
  rw [← mm_setA (by decide) (by decide)]
  simp [sZ, mm_arr, mcell, mty, msz, upA]
theorem mm_aI8 : aI (mm m I A B fd N) (m + 8) i = if inr i 24 = true then some (A 8 i.toNatClampNeg) else none := by simp [aI, mm_arr, mcell, mty, msz]
theorem mm_sI8 : sI (mm m I A B fd N) (m + 8) i x = if inr i 24 = true then some (mm m I (upA A 8 (upd (A 8) i.toNatClampNeg x)) B fd N) else none := by
  rw [← mm_setA (by decide) (by decide)]
  simp [sI, mm_arr, mcell, mty, msz, upA]
theorem mm_aI9 : aI (mm m I A B fd N) (m + 9) i = if inr i 24 = true then some (A 9 i.toNatClampNeg) else none := by simp [aI, mm_arr, mcell, mty, msz]
theorem mm_sI9 : sI (mm m I A B fd N) (m + 9) i x = if inr i 24 = true then some (mm m I (upA A 9 (upd (A 9) i.toNatClampNeg x)) B fd N) else none := by
  rw [← mm_setA (by decide) (by decide)]
  simp [sI, mm_arr, mcell, mty, msz, upA]
theorem mm_aI10 : aI (mm m I A B fd N) (m + 10) i = if inr i 4 = true then some (A 10 i.toNatClampNeg) else none := by simp [aI, mm_arr, mcell, mty, msz]
theorem mm_sI10 : sI (mm m I A B fd N) (m + 10) i x = if inr i 4 = true then some (mm m I (upA A 10 (upd (A 10) i.toNatClampNeg x)) B fd N) else none := by
  rw [← mm_setA (by decide) (by decide)]
  simp [sI, mm_arr, mcell, mty, msz, upA]
theorem mm_aI11 : aI (mm m I A B fd N) (m + 11) i = if inr i 240 = true then some (A 11 i.toNatClampNeg) else none := by simp [aI, mm_arr, mcell, mty, msz]
theorem mm_sI11 : sI (mm m I A B fd N) (m + 11) i x = if inr i 240 = true then some (mm m I (upA A 11 (upd (A 11) i.toNatClampNeg x)) B fd N) else none := by
  rw [← mm_setA (by decide) (by decide)]
  simp [sI, mm_arr, mcell, mty, msz, upA]
theorem mm_aL12 : aL (mm m I A B fd N) (m + 12) i = if inr i 12 = true then some (B 12 i.toNatClampNeg) else none := by simp [aL, mm_arr, mcell, msz]
theorem mm_sL12 : sL (mm m I A B fd N) (m + 12) i y = if inr i 12 = true then some (mm m I A (upB B 12 (vp_updL (B 12) i.toNatClampNeg y)) fd N) else none := by
  rw [← mm_setB (by decide) (by decide)]
  simp [sL, mm_arr, mcell, msz, upB]
theorem mm_aL13 : aL (mm m I A B fd N) (m + 13) i = if inr i 12 = true then some (B 13 i.toNatClampNeg) else none := by simp [aL, mm_arr, mcell, msz]
theorem mm_sL13 : sL (mm m I A B fd N) (m + 13) i y = if inr i 12 = true then some (mm m I A (upB B 13 (vp_updL (B 13) i.toNatClampNeg y)) fd N) else none := by
  rw [← mm_setB (by decide) (by decide)]
  simp [sL, mm_arr, mcell, msz, upB]
theorem mm_aI14 : aI (mm m I A B fd N) (m + 14) i = if inr i 4 = true then some (A 14 i.toNatClampNeg) else none := by simp [aI, mm_arr, mcell, mty, msz]
theorem mm_sI14 : sI (mm m I A B fd N) (m + 14) i x = if inr i 4 = true then some (mm m I (upA A 14 (upd (A 14) i.toNatClampNeg x)) B fd N) else none := by
  rw [← mm_setA (by decide) (by decide)]
  simp [sI, mm_arr, mcell, mty, msz, upA]
theorem mm_aI15 : aI (mm m I A B fd N) (m + 15) i = if inr i 120 = true then some (A 15 i.toNatClampNeg) else none := by simp [aI, mm_arr, mcell, mty, msz]
theorem mm_sI15 : sI (mm m I A B fd N) (m + 15) i x = if inr i 120 = true then some (mm m I (upA A 15 (upd (A 15) i.toNatClampNeg x)) B fd N) else none := by
  rw [← mm_setA (by decide) (by decide)]
  simp [sI, mm_arr, mcell, mty, msz, upA]
theorem mm_aB16 : aB (mm m I A B fd N) (m + 16) i = if inr i 7200 = true then some (A 16 i.toNatClampNeg) else none := by simp [aB, mm_arr, mcell, mty, msz]
theorem mm_sB16 : sB (mm m I A B fd N) (m + 16) i x = if inr i 7200 = true then some (mm m I (upA A 16 (upd (A 16) i.toNatClampNeg (vp_nar .byte x))) B fd N) else none := by
  rw [← mm_setA (by decide) (by decide)]
  simp [sB, mm_arr, mcell, mty, msz, upA]
theorem mm_aI17 : aI (mm m I A B fd N) (m + 17) i = if inr i 4 = true then some (A 17 i.toNatClampNeg) else none := by simp [aI, mm_arr, mcell, mty, msz]
theorem mm_sI17 : sI (mm m I A B fd N) (m + 17) i x = if inr i 4 = true then some (mm m I (upA A 17 (upd (A 17) i.toNatClampNeg x)) B fd N) else none := by
  rw [← mm_setA (by decide) (by decide)]
  simp [sI, mm_arr, mcell, mty, msz, upA]
theorem mm_aI18 : aI (mm m I A B fd N) (m + 18) i = if inr i 640 = true then some (A 18 i.toNatClampNeg) else none := by simp [aI, mm_arr, mcell, mty, msz]
theorem mm_sI18 : sI (mm m I A B fd N) (m + 18) i x = if inr i 640 = true then some (mm m I (upA A 18 (upd (A 18) i.toNatClampNeg x)) B fd N) else none := by
  rw [← mm_setA (by decide) (by decide)]
  simp [sI, mm_arr, mcell, mty, msz, upA]
theorem mm_aI19 : aI (mm m I A B fd N) (m + 19) i = if inr i 200 = true then some (A 19 i.toNatClampNeg) else none := by simp [aI, mm_arr, mcell, mty, msz]
theorem mm_sI19 : sI (mm m I A B fd N) (m + 19) i x = if inr i 200 = true then some (mm m I (upA A 19 (upd (A 19) i.toNatClampNeg x)) B fd N) else none := by
  rw [← mm_setA (by decide) (by decide)]
  simp [sI, mm_arr, mcell, mty, msz, upA]
theorem mm_aI20 : aI (mm m I A B fd N) (m + 20) i = if inr i 64 = true then some (A 20 i.toNatClampNeg) else none := by simp [aI, mm_arr, mcell, mty, msz]
theorem mm_sI20 : sI (mm m I A B fd N) (m + 20) i x = if inr i 64 = true then some (mm m I (upA A 20 (upd (A 20) i.toNatClampNeg x)) B fd N) else none := by
  rw [← mm_setA (by decide) (by decide)]
  simp [sI, mm_arr, mcell, mty, msz, upA]
theorem mm_aI21 : aI (mm m I A B fd N) (m + 21) i = if inr i 64 = true then some (A 21 i.toNatClampNeg) else none := by simp [aI, mm_arr, mcell, mty, msz]
theorem mm_sI21 : sI (mm m I A B fd N) (m + 21) i x = if inr i 64 = true then some (mm m I (upA A 21 (upd (A 21) i.toNatClampNeg x)) B fd N) else none := by
  rw [← mm_setA (by decide) (by decide)]
  simp [sI, mm_arr, mcell, mty, msz, upA]
theorem mm_aI22 : aI (mm m I A B fd N) (m + 22) i = if inr i 160 = true then some (A 22 i.toNatClampNeg) else none := by simp [aI, mm_arr, mcell, mty, msz]
theorem mm_sI22 : sI (mm m I A B fd N) (m + 22) i x = if inr i 160 = true then some (mm m I (upA A 22 (upd (A 22) i.toNatClampNeg x)) B fd N) else none := by
  rw [← mm_setA (by decide) (by decide)]
  simp [sI, mm_arr, mcell, mty, msz, upA]
theorem mm_aZ23 : aZ (mm m I A B fd N) (m + 23) i = if inr i 3 = true then some (A 23 i.toNatClampNeg) else none := by simp [aZ, mm_arr, mcell, mty, msz]
theorem mm_sZ23 : sZ (mm m I A B fd N) (m + 23) i x = if inr i 3 = true then some (mm m I (upA A 23 (upd (A 23) i.toNatClampNeg (vp_nar .boolean x))) B fd N) else none := by
  rw [← mm_setA (by decide) (by decide)]
  simp [sZ, mm_arr, mcell, mty, msz, upA]
end MODEL
