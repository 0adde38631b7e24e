/-! ===== the class's parser at the end of the bytes: nothing is dead any more ===== -/
def fine (e : Nat) (q : Qs) : Prop := q.1 = e ∧ (q.2.1 = 0 ∨ q.2.1 = 1)
theorem fine_lack {e : Nat} {q : Qs} (h : fine e q) : fine e (lackQ e q) := by
  unfold lackQ
  split
  · refine ⟨h.1, Or.inr ?_⟩
    show (if q.1 < e then (2 : Int32) else 1) = 1
    rw [if_neg (by rw [h.1]; exact Nat.lt_irrefl _)]
  · exact h
theorem end_pass {t : Nat → Int32} {e : Nat} {sg : Int32} {q : Qs} (h : q.1 = e) : passB t e sg q = false := by
  simp [passB, h]
theorem fine_pass {t : Nat → Int32} {e : Nat} {sg : Int32} {q : Qs} (h : fine e q) : fine e (passQ t e sg q) := by
  unfold passQ
  rw [end_pass h.1, if_neg (by decide)]
  exact h
theorem fine_need {t : Nat → Int32} {e : Nat} {sg : Int32} {q : Qs} (h : fine e q) : fine e (needQ t e sg q) := by
  unfold needQ
  rw [end_pass h.1, if_neg (by decide)]
  exact fine_lack h
theorem end_digs {t : Nat → Int32} {e d c : Nat} {q : Qs} (h : q.1 = e) : digsQ t e d c q = (c, q) := by
  cases d with
  | zero => rfl
  | succ d =>
    rw [digsQ, if_neg]
    intro hh
    rw [h] at hh
    exact Nat.lt_irrefl _ hh.2.1
theorem fine_mul {e d : Nat} {q : Qs} (h : fine e q) : fine e (mulQ d q) := by
  induction d generalizing q with
  | zero => exact h
  | succ d ih => exact ih h
theorem fine_mark {t : Nat → Int32} {e : Nat} {mk : Int32} {q : Qs} (h : fine e q) : fine e (markQ t e mk q) := fine_need (fine_need (fine_need h))
theorem fine_first {t : Nat → Int32} {e : Nat} {q : Qs} (h : fine e q) : fine e (firstQ t e q).2 := by
  unfold firstQ
  rw [end_pass h.1, if_neg (by decide), end_digs h.1, if_pos rfl]
  exact fine_lack h
theorem end_gn {t : Nat → Int32} {e : Nat} {g : Int32} {q : Qs} (h : q.1 = e) : gnB t e g q = false := by
  simp [gnB, h]
theorem fine_grp {t : Nat → Int32} {e : Nat} {g tw : Int32} {d : Nat} {may cm : Bool} {q : Qs} (h : fine e q) : fine e (grpQ t e g tw d may cm q) := by
  have fin : fine e (if cm = true then q else lackQ e q) := by
    split
    · exact h
    · exact fine_lack h
  cases d with
  | zero => exact fin
  | succ d =>
    rw [grpQ, if_neg (fun hh => by rw [end_gn h.1] at hh; exact absurd hh.2 (by decide))]
    exact fin
theorem fine_frac {t : Nat → Int32} {e : Nat} {pt : Int32} {q : Qs} (h : fine e q) : fine e (fracQ t e pt q) := by
  unfold fracQ
  rw [end_pass h.1, if_neg (by decide)]
  exact fine_mul h
theorem fine_groups {t : Nat → Int32} {e : Nat} {g tw : Int32} {first : Nat} {q : Qs} (h : fine e q) : fine e (groupsQ t e g tw first q) := fine_grp h
theorem fine_body {t : Nat → Int32} {e : Nat} {pt g tw : Int32} {q : Qs} (h : fine e q) : fine e (bodyQ t e pt g tw q) := fine_frac (fine_groups (fine_first h))
theorem fine_behind {t : Nat → Int32} {e : Nat} {mk mb mo : Int32} {q : Qs} (h : fine e q) : fine e (behindQ t e mk mb mo q) := by
  unfold behindQ
  split
  · exact fine_mark (fine_pass h)
  · exact h
theorem fine_end {t : Nat → Int32} {e : Nat} {mn : Int32} {below : Bool} {q : Qs} (h : fine e q) : fine e (endQ t e mn below q).2 := by
  unfold endQ
  split
  · exact fine_pass h
  · split
    · exact fine_need h
    · exact h
theorem fine_close {e : Nat} {q : Qs} (h : fine e q) : fine e (closeQ e q) := by
  unfold closeQ
  rw [if_neg (by rw [h.1]; exact Nat.lt_irrefl _)]
  exact h
/-- the status that the parser ends with, where it came to the end of the bytes -/
theorem fine_2 {e : Nat} {q : Qs} (h : fine e q) : ¬ q.2.1 = 2 := by
  rcases h.2 with h | h <;> rw [h] <;> decide
/-- where something was found amiss, it stays so -/
theorem stuck_lack {e : Nat} {q : Qs} (h : ¬ q.2.1 = 0) : lackQ e q = q := by
  unfold lackQ
  rw [if_neg h]
theorem stuck_pass {t : Nat → Int32} {e : Nat} {sg : Int32} {q : Qs} (h : ¬ q.2.1 = 0) : passB t e sg q = false ∧ passQ t e sg q = q := by
  have hb : passB t e sg q = false := by simp [passB, h]
  refine ⟨hb, ?_⟩
  unfold passQ
  rw [hb, if_neg (by decide)]
theorem stuck_need {t : Nat → Int32} {e : Nat} {sg : Int32} {q : Qs} (h : ¬ q.2.1 = 0) : needQ t e sg q = q := by
  unfold needQ
  rw [(stuck_pass h).1, if_neg (by decide), stuck_lack h]
theorem stuck_digs {t : Nat → Int32} {e d c : Nat} {q : Qs} (h : ¬ q.2.1 = 0) : digsQ t e d c q = (c, q) := by
  cases d with
  | zero => rfl
  | succ d => rw [digsQ, if_neg (fun hh => h hh.1)]
