theorem ltopI {n : Nat} (h : n < 2 ^ 31) : (nI n - (1 : Int32)).toInt = (n : Int) - 1 := by
  rw [← Int32.toInt_toInt64]
  exact ltopn h
/-- class and reference after the rules are followed -/
theorem fl_both {Z : Nat} {M : Mem} (hZ : 60 < Z) (hI : Inv M) (h : Has M) : ∃ M1, f_X11_followRules Z M = some ((), M1) ∧ fr [16, 17, 18] M M1 ∧ gI M1 16 1 = nI (pn (gI M 109) 0) ∧ gI M1 16 2 = nI (pn (gI M 109) 1) ∧ MT 17 M1 (fun x y => if x < cN (gI M 112) ∧ y < cN (gI M 112) then lN (Tp (cM (gI M 112)) (cP (gI M 112)) (sW9 (gI M 109)) x y) else 0) ∧ MT 18 M1 (fTab (gI M 112) (gI M 109)) ∧ Inv M1 ∧ Has M1 ∧ gI M1 112 = gI M 112 ∧ gI M1 109 = gI M 109 := by
  obtain ⟨_, M1, e1, q1, q2, q3, q4, q5⟩ := followRules_ok hZ h
  have k1 : kp M M1 := kp.of q1 (by decide)
  exact ⟨M1, e1, q1, q2, q3, q4, q5, hI.kp k1, h.kp k1, q1.I (by decide), q1.I (by decide)⟩
theorem brk_if {c : Nat → Bool} {n : Nat} {X : Prop} [Decidable X] (h : X ↔ c n = false) : (if X then brk c n else brk c n ||| (nI 1 <<< (nI n &&& 31))) = brk c (n + 1) := by
  show _ = if c n then _ else _
  by_cases g : c n = false
  · rw [if_pos (h.mpr g), g]
    rfl
  · rw [if_neg (fun z => g (h.mp z))]
    simp only [Bool.not_eq_false] at g
    rw [g]
    rfl
/-- the states that a run can be in at a time -/
def rSet (P S : Nat → Int32) (t : Nat) (x : Nat) : Bool := decide (¬ fTab P S t x ≤ 0)
theorem rSet_f {P S : Nat → Int32} {t x : Nat} : fTab P S t x ≤ 0 ↔ rSet P S t x = false := by
  unfold rSet
  rw [decide_eq_false_iff_not, Classical.not_not]
