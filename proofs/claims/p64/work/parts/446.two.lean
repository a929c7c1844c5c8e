theorem bI1 {c : Prop} [Decidable c] (h : c) : bI c = 1 := if_pos h
theorem bIz {c : Prop} [Decidable c] (h : ¬ c) : bI c = 0 := if_neg h
theorem Has.amt {M : Mem} (h : Has M) {Z r b : Nat} (hr : r < 18) (hb : b < 3) : f_X0_amountOf Z M 3 (nI r) (nI b) = some (nI (cA (gI M 112) r b), M) := by
  unfold f_X0_amountOf
  simp (disch := omega) only [bd_eq, jn_eq, cl_some, i0, i1, i2, i3, i4, i5, i6, i8, i10, i14, i36, i86, nI_add, nI_mul, rdI_n, rdL_n, wrI_n, wrL_n, nI_ile, nI_ilt]
  rw [h.amts _ hr b hb]
/-- whether an action is permitted -/
def pmt (S : Nat → Int32) (x a : Nat) : Bool := decide (S (22 + (x * 3 + a)) = nI 1)
def bN (b : Bool) : Int32 := if b = true then 1 else 0
theorem bN0 {b : Bool} : (bN b = 0) = (b = false) := by
  cases b <;> simp [bN]
theorem bit_eq : ∀ q, q < 8 → ∀ a, a < 3 → (((nI q >>> (nI a &&& 31)) &&& (1 : Int32)) = (1 : Int32)) = (q / 2 ^ a % 2 = 1) := by decide
theorem permits_eq {Z : Nat} {M : Mem} {P S : Nat → Int32} {o : Nat} (hr : RS P M o S) (hm : ∀ x, cM P x ≤ 3) (hN : cN P ≤ 6) {x a : Nat} (hx : x < cN P) (ha : a < cM P x) : f_X7_permits Z M o (nI x) (nI a) = some (bN (pmt S x a), M) := by
  obtain ⟨q, hq, e, h2⟩ := hr.2.2.1 x hx
  have hma := hm x
  have h3 := h2 a ha
  unfold f_X7_permits
  rw [rdI_n (by omega) (by decide), e]
  simp only [bit_eq q hq a (by omega)]
  unfold pmt bN
  rw [h3]
  have h4 : q / 2 ^ a % 2 < 2 := Nat.mod_lt _ (by decide)
  by_cases c : q / 2 ^ a % 2 = 1
  · rw [if_pos c, if_pos (by rw [c]; rfl)]
  · rw [if_neg c, show q / 2 ^ a % 2 = 0 by omega]
    rfl
theorem bN_and (b : Bool) : bN b &&& 1 = bN b := by
  cases b <;> rfl
