/-! what the latest walk tells -/
def smI : Nat → (Nat → Int32) → Int32
  | 0, _ => 0
  | n + 1, f => smI n f + f n
def WK (P S : Nat → Int32) (n : Nat) : Prop := S 3 = nI n ∧ 1 ≤ n ∧ n ≤ 5 ∧ (∀ t, t ≤ n → S (43 + t) = nI (pn S (43 + t)) ∧ pn S (43 + t) < cN P) ∧ ∀ t, t < n → S (49 + t) = nI (pn S (49 + t)) ∧ pn S (49 + t) < cM P (pn S (43 + t))
theorem VS.wk {P S : Nat → Int32} (h : VS P S) : S 3 = -1 ∨ ∃ n, WK P S n := by
  rcases h.2.2.2.2.2.2.2.2.2 with e | ⟨e1, e2, e3, e4, e5⟩
  · exact Or.inl e
  · exact Or.inr ⟨_, e1, e2, e3, e4, e5⟩
theorem Has.nW0 {M : Mem} (h : Has M) {Z : Nat} (hw : gI M 109 3 = -1) : f_X11_needWalk Z M = some (.error 0, M) := by
  rw [needWalk1 h.c.1 h.N, if_pos (h.RS.1.2.2.2.trans hw)]
theorem Has.nW1 {M : Mem} (h : Has M) {Z n : Nat} (hw : WK (gI M 112) (gI M 109) n) : f_X11_needWalk Z M = some (.ok (), M) := by
  rw [needWalk1 h.c.1 h.N, if_neg (by rw [h.RS.1.2.2.2, hw.1]; exact nI_ne_neg (by have := hw.2.2.1; omega))]
theorem walkRow_eq {Z : Nat} {M : Mem} {P S : Nat → Int32} (hr : RS P M 10 S) {n t : Nat} (hw : WK P S n) (ht : t < n) : f_X7_walkRow Z M 10 (nI t) = some (nI (pn S (43 + t) * 3 + pn S (49 + t)), M) := by
  have hn := hw.2.2.1
  unfold f_X7_walkRow
  rw [rdI_n (by omega) (by decide), rdI_n (by omega) (by decide), hr.2.2.2.2.1 t (by omega), hr.2.2.2.2.2 t (by omega), (hw.2.2.2.1 t (by omega)).1, (hw.2.2.2.2 t ht).1, rowOf_eq, cl_some]
