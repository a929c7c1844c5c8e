/-! flows: class beside reference -/
def sm : Nat → (Nat → Nat) → Nat
  | 0, _ => 0
  | n + 1, f => sm n f + f n
theorem sm_congr {n : Nat} {f g : Nat → Nat} (h : ∀ i, i < n → f i = g i) : sm n f = sm n g := by
  induction n with
  | zero => rfl
  | succ n ih =>
    show sm n f + f n = sm n g + g n
    rw [ih (fun i hi => h i (by omega)), h n (by omega)]
/-- a table of longs, 6 by 6 -/
def MT (o : Nat) (M : Mem) (A : Nat → Nat → Int64) : Prop := ∀ x, x < 6 → ∀ y, y < 6 → gL M o (x * 6 + y) = A x y
def mst (A : Nat → Nat → Int64) (x y : Nat) (v : Int64) : Nat → Nat → Int64 := fun a b => if a = x ∧ b = y then v else A a b
theorem MT.set {o x y : Nat} {M : Mem} {A : Nat → Nat → Int64} {v : Int64} (h : MT o M A) (hy : y < 6) : MT o (sL M o (x * 6 + y) v) (mst A x y v) := by
  intro a ha b hb
  rw [gL_sL]
  unfold mst
  by_cases c : a = x ∧ b = y
  · rw [if_pos ⟨rfl, by rw [c.1, c.2]⟩, if_pos c]
  · rw [if_neg (fun z => c (by omega)), if_neg c]
    exact h a ha b hb
theorem MT.congr {o : Nat} {M M' : Mem} {A B : Nat → Nat → Int64} (h : MT o M A) (hM : gL M' o = gL M o) (hB : ∀ x, x < 6 → ∀ y, y < 6 → B x y = A x y) : MT o M' B := fun x hx y hy => by rw [hM, hB x hx y hy]; exact h x hx y hy
theorem mc6 (a : Nat) : 6 * a = a * 6 := Nat.mul_comm 6 a
theorem mc3 (a : Nat) : 3 * a = a * 3 := Nat.mul_comm 3 a
/-- the chain, in the class and in the reference: states, actions, percents -/
def ChC (M : Mem) (N : Nat) (m : Nat → Nat) (pc : Nat → Nat → Nat) : Prop := gI M 3 0 = nI N ∧ (∀ x, x < 6 → gI M 4 x = nI (m x)) ∧ ∀ r, r < 18 → ∀ y, y < 6 → gI M 7 (r * 6 + y) = nI (pc r y)
def ChR (M : Mem) (N : Nat) (m : Nat → Nat) (pc : Nat → Nat → Nat) : Prop := gI M 112 0 = nI N ∧ (∀ x, x < 6 → gI M 112 (8 + x) = nI (m x)) ∧ ∀ r, r < 18 → ∀ y, y < 6 → gI M 112 (86 + r * 6 + y) = nI (pc r y)
/-- sizes -/
def Sz (N : Nat) (m : Nat → Nat) (pc : Nat → Nat → Nat) : Prop := N ≤ 6 ∧ (∀ x, m x ≤ 3) ∧ ∀ r y, pc r y ≤ 100
theorem ChC.fr {l : List Nat} {M M' : Mem} {N : Nat} {m : Nat → Nat} {pc : Nat → Nat → Nat} (h : ChC M N m pc) (hf : fr l M M') (h3 : 3 ∉ l) (h4 : 4 ∉ l) (h7 : 7 ∉ l) : ChC M' N m pc := by
  unfold ChC
  rw [hf.I h3, hf.I h4, hf.I h7]
  exact h
theorem percentTo_eq {Z : Nat} {M : Mem} {N : Nat} {m : Nat → Nat} {pc : Nat → Nat → Nat} (h : ChC M N m pc) {r y : Nat} (hr : r < 18) (hy : y < 6) : f_X0_percentTo Z M 3 (nI r) (nI y) = some (nI (pc r y), M) := by
  unfold f_X0_percentTo
  simp (disch := omega) only [bd_eq, jn_eq, cl_some, i0, i1, i2, i3, i4, i5, i6, i8, i10, i14, i36, i86, nI_add, nI_mul, rdI_n, rdL_n, wrI_n, wrL_n, nI_ile, nI_ilt]
  rw [h.2.2 r hr y hy]
/-- the parts of a step under weights -/
def Tp (m : Nat → Nat) (pc : Nat → Nat → Nat) (W : Nat → Nat) (x y : Nat) : Nat := sm (m x) (fun a => W (x * 3 + a) * pc (x * 3 + a) y)
theorem rowOf_eq {Z : Nat} {M : Mem} {x a : Nat} : f_X11_rowOf Z M (nI x) (nI a) = some (nI (x * 3 + a), M) := by
  unfold f_X11_rowOf
  simp only [bd_eq, jn_eq, cl_some, i0, i1, i2, i3, i4, i5, i6, i8, i10, i14, i36, i86, nI_add, nI_mul, rdI_n, rdL_n, wrI_n, wrL_n, nI_ile, nI_ilt]
