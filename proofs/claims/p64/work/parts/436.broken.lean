def brk (c : Nat → Bool) : Nat → Int32
  | 0 => nI 0
  | n + 1 => if c n then brk c n ||| (nI 1 <<< (nI n &&& 31)) else brk c n
theorem lN_sub0 {a b : Nat} (ha : a < 2 ^ 62) (hb : b < 2 ^ 62) : ((0 : Int64) ≤ lN a - lN b) = (b ≤ a) := by
  have e : (lN a - lN b).toInt = (a : Int) - b := by
    rw [Int64.toInt_sub, lN_toI (by omega), lN_toI (by omega)]
    exact Int.bmod_eq_of_le (by omega) (by omega)
  rw [Int64.le_iff_toInt_le, e]
  have e0 : (0 : Int64).toInt = 0 := by decide
  rw [e0]
  exact propext ⟨fun h => by omega, fun h => by omega⟩
/-- the greatest unit -/
theorem unit_le {H : Nat} (h5 : H ≤ 5) : 10 * 1000 ^ (H - 1) ≤ 10 ^ 13 := by
  have : 1000 ^ (H - 1) ≤ 1000 ^ 4 := Nat.pow_le_pow_right (by decide) (by omega)
  have e : (1000 : Nat) ^ 4 = 10 ^ 12 := by decide
  omega
def brN (P S : Nat → Int32) (W : Nat → Nat) (b : Nat) : Bool := decide (pn S (40 + b) * (10 * 1000 ^ (pn S 1 - 1)) < uN P W b (pn S 0) (pn S 1))
/-- weights that a state's sum keeps to 10 -/
def WOK (P : Nat → Int32) (W : Nat → Nat) : Prop := (∀ r, W r ≤ 10) ∧ ∀ x, x < cN P → sm (cM P x) (fun a => W (x * 3 + a)) = 10
theorem WOK.T {P : Nat → Int32} {W : Nat → Nat} (h : WOK P W) (hV : VP P) : ∀ x, x < cN P → sm (cN P) (Tp (cM P) (cP P) W x) = 1000 := by
  intro x hx
  show sm (cN P) (fun y => sm (cM P x) (fun a => W (x * 3 + a) * cP P (x * 3 + a) y)) = 1000
  rw [sm_swap]
  have h1 : sm (cM P x) (fun j => sm (cN P) (fun i => W (x * 3 + j) * cP P (x * 3 + j) i)) = sm (cM P x) (fun j => 100 * W (x * 3 + j)) := sm_congr (fun a ha => by
    rw [sm_mul, show sm (cN P) (fun i => cP P (x * 3 + a) i) = 100 from (hV.2.2.2.2.2.2.2 x hx a ha).1, Nat.mul_comm])
  rw [h1, sm_mul, h.2 x hx]
theorem VS.W {P S : Nat → Int32} (h : VS P S) : WOK P (sW9 S) := ⟨h.2.2.2.2.1, fun x hx => (h.2.2.2.2.2.1 x hx).1⟩
theorem uN_lt {P : Nat → Int32} {W : Nat → Nat} {b st H : Nat} (hV : VP P) (hW : WOK P W) (h1 : 1 ≤ H) (h5 : H ≤ 5) : uN P W b st H < 2 ^ 62 := by
  have h2 := uN_le (b := b) (st := st) (H := H) hV (fun x hx => Nat.le_of_eq (hW.2 x hx)) (fun x hx => Nat.le_of_eq (hW.T hV x hx)) h1
  have h3 := unit_le h5
  have h4 : 495 * (10 * 1000 ^ (H - 1)) * H ≤ 495 * 10 ^ 13 * 5 := Nat.mul_le_mul (Nat.mul_le_mul_left _ h3) h5
  omega
theorem brokenWith_ok {Z : Nat} {M : Mem} (hZ : 60 < Z) (h : Has M) {w : Nat} {W : Nat → Nat} (hw : w ≠ 16 ∧ w ≠ 17 ∧ w ≠ 18) (hW : ∀ r, r < 3 * cN (gI M 112) → gI M w r = nI (W r)) (hK : WOK (gI M 112) W) :
    OK (f_X11_brokenWith Z M w) (fun v M' => fr [16, 17, 18] M M' ∧ gI M' 16 2 = nI (pn (gI M 109) 1) ∧ MT 18 M' (fun t x => if t ≤ pn (gI M 109) 1 ∧ x < cN (gI M 112) then lN (fNow (gI M 112) W (pn (gI M 109) 0) t x) else 0) ∧ v = brk (brN (gI M 112) (gI M 109) W) (cB (gI M 112))) := by
  have hz := h.hz
  have hB := h.b.2.2
  unfold f_X11_brokenWith
  obtain ⟨_, M1, e1, q1, q2, q3, q4, q5⟩ := follow_ok (Z := Z) h.c h.z hZ (w := w) (W := W) hw hW hK.1 h.st.2 h.hz.2.2.2 (fun x hx => Nat.le_of_eq (hK.T h.2.1 x hx))
  rw [bd_eq, bd_eq, h.st.1, h.hz.1, e1, cl_some, i0]
  have c1 := h.c.fr q1 (by decide) (by decide) (by decide)
  have b1 : gI M1 3 1 = nI (cB (gI M 112)) := by rw [q1.I (by decide)]; exact h.b.1
  refine lpS (σ := Unit) (fun n i _ => f_X11_brokenWith_L26 Z w n (brk (brN (gI M 112) (gI M 109) W) i) (nI i) M1) (fun r => OK r _) (fun _ _ => True) 0 (cB (gI M 112)) (s := ()) (by omega) (by omega) trivial ?_ ?_
  · intro n b _ _ hb _ K
    have e13 : gI M1 13 b = nI (pn (gI M 109) (40 + b)) := by
      rw [q1.I (by decide), show (13 : Nat) = 10 + 3 from rfl, h.RS.2.2.2.1 b (by omega)]
      exact (h.VS.2.2.2.2.2.2.2.2.1 b (by omega)).1
    have l9 := (h.VS.2.2.2.2.2.2.2.2.1 b (by omega)).2
    have u9 := unit_le hz.2.2.2
    have p9 : pn (gI M 109) (40 + b) * (10 * 1000 ^ (pn (gI M 109) 1 - 1)) ≤ 9999 * 10 ^ 13 := Nat.mul_le_mul l9 u9
    have eu := usedOf_eq (Z := Z) c1 h.z (by omega) (w := w) (W := W) (G := cA (gI M 112)) (show b < 3 by omega) (fun r hr => by rw [q1.I (by simp [hw])]; exact hW r hr) hK.1 (fun r hr b hb => by rw [q1.I (by decide)]; exact h.amts r hr b hb) (fun r b => h.2.1.2.2.2.2.2.1 r b) q5 q3 hz.2.2.1 hz.2.2.2
    have e9 := uRun_eq (P := gI M 112) (W := W) (st := pn (gI M 109) 0) (b := b) hz.2.2.2
    unfold fNow at e9
    rw [e9, uRun_lN] at eu
    have ub := uN_lt (b := b) (st := pn (gI M 109) 0) h.2.1 hK hz.2.2.1 hz.2.2.2
    rw [f_X11_brokenWith_L26, bd_eq, b1]
    simp (disch := omega) only [if_neg (show ¬ cB (gI M 112) ≤ b by omega), eu, e13, q1.I (show 10 ∉ [16, 17, 18] by decide), hz.1, unitOf_eq (Z := Z) (M := M1) (by omega) hz.2.2.1 hz.2.2.2, nI_l, lN_mul, lN_ile, bd_eq, jn_eq, cl_some, i0, i1, i2, i3, i4, i5, i6, i8, i10, i14, i36, i86, nI_add, nI_mul, rdI_n, rdL_n, wrI_n, wrL_n, nI_ile, nI_ilt]
    have K1 := K () trivial
    have e2 : brk (brN (gI M 112) (gI M 109) W) (b + 1) = if brN (gI M 112) (gI M 109) W b then brk (brN (gI M 112) (gI M 109) W) b ||| (nI 1 <<< (nI b &&& 31)) else brk (brN (gI M 112) (gI M 109) W) b := rfl
    rw [e2] at K1
    by_cases c : uN (gI M 112) W b (pn (gI M 109) 0) (pn (gI M 109) 1) ≤ pn (gI M 109) (40 + b) * (10 * 1000 ^ (pn (gI M 109) 1 - 1))
    · rw [if_pos c]
      have c2 : brN (gI M 112) (gI M 109) W b = false := decide_eq_false (by omega)
      rw [c2] at K1
      exact K1
    · rw [if_neg c]
      have c2 : brN (gI M 112) (gI M 109) W b = true := decide_eq_true (by omega)
      rw [c2] at K1
      exact K1
  · intro n _ _
    rw [f_X11_brokenWith_L26, bd_eq, b1]
    simp only [ge_self, if_true]
    exact OK.ret ⟨q1, q3, q5, rfl⟩

