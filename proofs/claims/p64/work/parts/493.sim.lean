/-! the two parsers side by side -/
def GCR (b : Nat → Nat) (n e : Nat) (Q : Nat → Int32) (Mc Mr : Mem) : Prop := okC b n e Mc ∧ CQ0 Q Mc ∧ CQW Q Mc ∧ okR b n e Q Mr
theorem okC.s {b : Nat → Nat} {n e o k : Nat} {v : Int32} {M : Mem} (h : okC b n e M) (h1 : o ≠ 1) (h2 : o ≠ 2) : okC b n e (sI M o k v) := h.fr (l := [o]) (fr_sI fr.rfl List.mem_cons_self) (by simp [Ne.symm h1]) (by simp [Ne.symm h2])
