theorem i496 : (496 : Int32) = nI 496 := by decide
theorem i2976 : (2976 : Int32) = nI 2976 := by decide
theorem mc496 (a : Nat) : 496 * a = a * 496 := Nat.mul_comm 496 a
/-- a table of longs, 6 by 496 -/
def LT (o : Nat) (M : Mem) (B : Nat → Nat → Nat) : Prop := ∀ y, y < 6 → ∀ s, s < 496 → gL M o (y * 496 + s) = lN (B y s)
theorem LT.congr {o : Nat} {M M' : Mem} {A B : Nat → Nat → Nat} (h : LT o M A) (hM : gL M' o = gL M o) (hB : ∀ x, x < 6 → ∀ y, y < 496 → B x y = A x y) : LT o M' B := fun x hx y hy => by rw [hM, hB x hx y hy]; exact h x hx y hy
theorem LT.set {o x y : Nat} {M : Mem} {A : Nat → Nat → Nat} {v : Nat} (h : LT o M A) (hy : y < 496) : LT o (sL M o (x * 496 + y) (lN v)) (fun a b => if a = x ∧ b = y then v else A a b) := by
  intro a ha b hb
  rw [gL_sL]
  dsimp only
  by_cases c : a = x ∧ b = y
  · rw [if_pos ⟨rfl, by rw [c.1, c.2]⟩, if_pos c]
  · rw [if_neg (fun z => c (by omega)), if_neg c]
    exact h a ha b hb
theorem LT.at {o : Nat} {M : Mem} {A : Nat → Nat → Nat} (h : LT o M A) {x y : Nat} (hx : x < 6) (hy : y < 496) : gL M o (x * 496 + y) = lN (A x y) := h x hx y hy
/-- one step of the mass of B, by state and sum -/
def mst1 (m W u : Nat → Nat) (pc : Nat → Nat → Nat) (B : Nat → Nat → Nat) (x y s : Nat) : Nat := sm (m x) (fun a => if u (x * 3 + a) ≤ s then B x (s - u (x * 3 + a)) * W (x * 3 + a) * pc (x * 3 + a) y else 0)
/-- the mass at a time, as the reference lays it -/
def BT (P : Nat → Int32) (W : Nat → Nat) (b st t x s : Nat) : Nat := if x < cN P then MS (cN P) (cM P) W (fun r => cA P r b) (cP P) st t x s else 0
theorem BT_le {P : Nat → Int32} {W : Nat → Nat} (hV : VP P) (hK : WOK P W) {b st t x s : Nat} (ht : t ≤ 5) : BT P W b st t x s ≤ 10 ^ 15 := by
  unfold BT
  by_cases c : x < cN P
  · rw [if_pos c]
    have h1 := MS_le (N := cN P) (m := cM P) (W := W) (u := fun r => cA P r b) (pc := cP P) (st := st) t x s
    have h2 := Fl_lt (st := st) (fun x hx => Nat.le_of_eq (hK.T hV x hx)) (t := t) c ht
    omega
  · rw [if_neg c]
    exact Nat.zero_le _
theorem BT_step {P : Nat → Int32} {W : Nat → Nat} {b st t y s : Nat} : (if y < cN P then sm (cN P) (fun x => mst1 (cM P) W (fun r => cA P r b) (cP P) (BT P W b st t) x y s) else 0) = BT P W b st (t + 1) y s := by
  unfold BT
  by_cases c : y < cN P
  · rw [if_pos c, if_pos c]
    refine sm_congr (fun x hx => sm_congr (fun a _ => ?_))
    simp only [if_pos hx]
  · rw [if_neg c, if_neg c]
