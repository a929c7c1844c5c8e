/-! a word and its number; the head -/
def WN (b : Nat → Nat) (n e t lo : Nat) (hi : Int32) : Prop := isW b n e t = true ∧ tK b n (tE b n e) = 2 ∧ nOK (tV b n (tE b n e)) lo hi
def wc (b : Nat → Nat) (n e t : Nat) : Nat := if isW b n e t then (if tK b n (tE b n e) = 2 then 2 else 1) else 1
def wp (b : Nat → Nat) (n e t : Nat) : Nat := if isW b n e t then tA b n (tE b n e) else tA b n e
/-- the class's chain and settings while a text is read, beside the reference's row: all but the weights -/
def CQ0 (Q : Nat → Int32) (M : Mem) : Prop := RP Q M 22 ∧ (gI M 29 3 = Q 2 ∧ gI M 29 4 = Q 3 ∧ gI M 29 5 = Q 4 ∧ gI M 29 6 = -1) ∧ (∀ b, b < 3 → gI M 32 b = Q (5 + b)) ∧ (∀ x, x < 6 → gI M 31 x = nI 7) ∧ ∃ q, q < 64 ∧ (gI M 21 6 = nI q ∧ gI M 21 2 = 0 ∧ gI M 21 3 = -1) ∧ ∀ x, x < 6 → Q (320 + x) = nI (q / 2 ^ x % 2)
def CQW (Q : Nat → Int32) (M : Mem) : Prop := ∀ x, x < 6 → ∀ a, a < 3 → gI M 30 (x * 3 + a) = if Q (320 + x) = nI 1 then Q (326 + (x * 3 + a)) else if a = 0 then nI 10 else nI 0
def lP : List Nat := [1, 21, 22, 23, 24, 25, 26, 27, 28, 29, 30, 31, 32]
theorem lP_in {o : Nat} : o ∈ lP ↔ o = 1 ∨ (21 ≤ o ∧ o ≤ 32) := by
  unfold lP
  simp only [List.mem_cons, List.not_mem_nil, or_false]
  omega
