def brk (c : Nat → Bool) : Nat → Int32
  | 0 => nI 0
  | n + 1 => if c n then brk c n ||| (nI 1 <<< (nI n &&& 31)) else brk c n
theorem lN_sub0 {a b : Nat} (ha : a < 2 ^ 62) (hb : b < 2 ^ 62) : ((0 : Int64) ≤ lN a - lN b) = (b ≤ a) := by
  have e : (lN a - lN b).toInt = (a : Int) - b := by
    rw [Int64.toInt_sub, lN_toI (by omega), lN_toI (by omega)]
    exact Int.bmod_eq_of_le (by omega) (by omega)
  rw [Int64.le_iff_toInt_le, e]
  have e0 : (0 : Int64).toInt = 0 := by decide
  rw [e0]
  exact propext ⟨fun h => by omega, fun h => by omega⟩
/-- the greatest unit -/
theorem unit_le {H : Nat} (h5 : H ≤ 5) : 10 * 1000 ^ (H - 1) ≤ 10 ^ 13 := by
  have : 1000 ^ (H - 1) ≤ 1000 ^ 4 := Nat.pow_le_pow_right (by decide) (by omega)
  have e : (1000 : Nat) ^ 4 = 10 ^ 12 := by decide
  omega
def brN (P S : Nat → Int32) (W : Nat → Nat) (b : Nat) : Bool := decide (pn S (40 + b) * (10 * 1000 ^ (pn S 1 - 1)) < uN P W b (pn S 0) (pn S 1))
/-- weights that a state's sum keeps to 10 -/
def WOK (P : Nat → Int32) (W : Nat → Nat) : Prop := (∀ r, W r ≤ 10) ∧ ∀ x, x < cN P → sm (cM P x) (fun a => W (x * 3 + a)) = 10
theorem WOK.T {P : Nat → Int32} {W : Nat → Nat} (h : WOK P W) (hV : VP P) : ∀ x, x < cN P → sm (cN P) (Tp (cM P) (cP P) W x) = 1000 := by
  intro x hx
  show sm (cN P) (fun y => sm (cM P x) (fun a => W (x * 3 + a) * cP P (x * 3 + a) y)) = 1000
  rw [sm_swap]
  have h1 : sm (cM P x) (fun j => sm (cN P) (fun i => W (x * 3 + j) * cP P (x * 3 + j) i)) = sm (cM P x) (fun j => 100 * W (x * 3 + j)) := sm_congr (fun a ha => by
    rw [sm_mul, show sm (cN P) (fun i => cP P (x * 3 + a) i) = 100 from (hV.2.2.2.2.2.2.2 x hx a ha).1, Nat.mul_comm])
  rw [h1, sm_mul, h.2 x hx]
theorem VS.W {P S : Nat → Int32} (h : VS P S) : WOK P (sW9 S) := ⟨h.2.2.2.2.1, fun x hx => (h.2.2.2.2.2.1 x hx).1⟩
theorem uN_lt {P : Nat → Int32} {W : Nat → Nat} {b st H : Nat} (hV : VP P) (hW : WOK P W) (h1 : 1 ≤ H) (h5 : H ≤ 5) : uN P W b st H < 2 ^ 62 := by
  have h2 := uN_le (b := b) (st := st) (H := H) hV (fun x hx => Nat.le_of_eq (hW.2 x hx)) (fun x hx => Nat.le_of_eq (hW.T hV x hx)) h1
  have h3 := unit_le h5
  have h4 : 495 * (10 * 1000 ^ (H - 1)) * H ≤ 495 * 10 ^ 13 * 5 := Nat.mul_le_mul (Nat.mul_le_mul_left _ h3) h5
  omega
