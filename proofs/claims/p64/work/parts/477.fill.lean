/-! the sums of all pure sets -/
theorem wPure_lt {c : Nat → Nat} {r : Nat} : wPure c r ≤ 10 := by
  unfold wPure
  split <;> decide
theorem wPure_WOK {P : Nat → Int32} (hV : VP P) {c : Nat → Nat} (h : CHo P c) : WOK P (wPure c) := by
  refine ⟨fun r => wPure_lt, fun x hx => ?_⟩
  have e : ∀ n, sm n (fun a => wPure c (x * 3 + a)) = sm n (fun a => wPure c (x * 3 + a)) := fun _ => rfl
  have key : ∀ n, n ≤ 3 → sm n (fun a => wPure c (x * 3 + a)) = if c x < n then 10 else 0 := fun n hn => by
    induction n with
    | zero => rw [if_neg (by omega)]; rfl
    | succ n ih =>
      show sm n (fun a => wPure c (x * 3 + a)) + wPure c (x * 3 + n) = _
      rw [ih (by omega)]
      unfold wPure
      rw [show (x * 3 + n) % 3 = n by omega, show (x * 3 + n) / 3 = x by omega]
      by_cases d : n = c x
      · rw [if_neg (by omega), if_pos d, if_pos (by omega)]
      · rw [if_neg d]
        by_cases d2 : c x < n
        · rw [if_pos d2, if_pos (by omega)]
        · rw [if_neg d2, if_neg (by omega)]
  rw [key _ (hV.sz.2.1 x), if_pos (h x hx)]
/-- a run that was followed -/
def FLd (P : Nat → Int32) (W : Nat → Nat) (st H w : Nat) (M : Mem) : Prop := RP P M 3 ∧ gI M 16 2 = nI H ∧ MT 18 M (fun t x => if t ≤ H ∧ x < cN P then lN (fNow P W st t x) else 0) ∧ ∀ r, r < 3 * cN P → gI M w r = nI (W r)
theorem FLd.fr {P : Nat → Int32} {W : Nat → Nat} {st H w : Nat} {M M' : Mem} {l : List Nat} (h : FLd P W st H w M) (hf : fr l M M') (hl : ∀ o, 3 ≤ o → o ≤ 9 → o ∉ l) (h16 : 16 ∉ l) (h18 : 18 ∉ l) (hw : w ∉ l) : FLd P W st H w M' := by
  refine ⟨h.1.same (fun o a b => hf.I (hl o a b)), by rw [hf.I h16]; exact h.2.1, fun x hx y hy => ?_, by rw [hf.I hw]; exact h.2.2.2⟩
  rw [hf.L h18]
  exact h.2.2.1 x hx y hy
/-- the table of the sums is right up to k -/
def TAB (P : Nat → Int32) (st H k : Nat) (M : Mem) : Prop := ∀ i, i < k → ∀ c, cho P i = some c → gL M 97 i = gRun P (wPure c) st H ∧ ∀ b, b < cB P → gL M 98 (i * 3 + b) = uRun P (wPure c) b st H
def lF : List Nat := [16, 17, 18, 96, 97, 98, 99, 100]
theorem lF_in {o : Nat} : o ∈ lF ↔ (16 ≤ o ∧ o ≤ 18) ∨ (96 ≤ o ∧ o ≤ 100) := by
  unfold lF
  simp only [List.mem_cons, List.not_mem_nil, or_false]
  omega
