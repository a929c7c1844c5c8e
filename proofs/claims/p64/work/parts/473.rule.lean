/-! setRule -/
theorem brokenWith_gen {Z : Nat} {M : Mem} {P S : Nat → Int32} (hZ : 60 < Z) (hV : VP P) (hS : VS P S) (hR : RP P M 3) (h3 : gI M 10 3 = S 0) (h4 : gI M 10 4 = S 1) (h13 : ∀ b, b < 3 → gI M 13 b = S (40 + b)) {w : Nat} {W : Nat → Nat} (hw : w ≠ 16 ∧ w ≠ 17 ∧ w ≠ 18) (hW : ∀ r, r < 3 * cN P → gI M w r = nI (W r)) (hK : WOK P W) :
    OK (f_X11_brokenWith Z M w) (fun v M' => fr [16, 17, 18] M M' ∧ v = brk (brN P S W) (cB P)) := by
  obtain ⟨eS0, hx⟩ := hS.v0
  obtain ⟨eS1, hH1, hH⟩ := hS.v1
  have hB := hV.2.1.2.2
  have hc := hR.chC hV
  have hz := hV.sz
  have ham : ∀ r, r < 18 → ∀ b, b < 3 → gI M 6 (r * 3 + b) = nI (cA P r b) := fun r hr b hb => by
    rw [show (6 : Nat) = 3 + 3 from rfl, hR.2.2.2.2.1 _ (by omega), ← Nat.add_assoc]
    exact hV.a hr hb
  unfold f_X11_brokenWith
  obtain ⟨_, M1, e1, q1, q2, q3, q4, q5⟩ := follow_ok (Z := Z) hc hz hZ (w := w) (W := W) hw hW hK.1 hx hH (fun x hx => Nat.le_of_eq (hK.T hV x hx))
  rw [bd_eq, bd_eq, h3, h4, eS0, eS1, e1, cl_some, i0]
  have c1 := hc.fr q1 (by decide) (by decide) (by decide)
  have b1 : gI M1 3 1 = nI (cB P) := by rw [q1.I (by decide)]; exact hR.2.1.trans hV.b
  refine lpS (σ := Unit) (fun n i _ => f_X11_brokenWith_L26 Z w n (brk (brN P S W) i) (nI i) M1) (fun r => OK r _) (fun _ _ => True) 0 (cB P) (s := ()) (by omega) (by omega) trivial ?_ ?_
  · intro n b _ _ hb _ K
    have e13 : gI M1 13 b = nI (pn S (40 + b)) := by
      rw [q1.I (by decide), h13 b (by omega)]
      exact (hS.v5 b (by omega)).1
    have l9 := (hS.v5 b (by omega)).2
    have u9 := unit_le hH
    have p9 : pn S (40 + b) * (10 * 1000 ^ (pn S 1 - 1)) ≤ 9999 * 10 ^ 13 := Nat.mul_le_mul l9 u9
    have eu := usedOf_eq (Z := Z) c1 hz (by omega) (w := w) (W := W) (G := cA P) (show b < 3 by omega) (fun r hr => by rw [q1.I (by simp [hw])]; exact hW r hr) hK.1 (fun r hr b hb => by rw [q1.I (by decide)]; exact ham r hr b hb) (fun r b => hV.2.2.2.2.2.1 r b) q5 q3 hH1 hH
    have e9 := uRun_eq (P := P) (W := W) (st := pn S 0) (b := b) hH
    unfold fNow at e9
    rw [e9, uRun_lN] at eu
    have ub := uN_lt (b := b) (st := pn S 0) hV hK hH1 hH
    rw [f_X11_brokenWith_L26, bd_eq, b1]
    simp (disch := omega) only [if_neg (show ¬ cB P ≤ b by omega), eu, e13, q1.I (show 10 ∉ [16, 17, 18] by decide), h4, eS1, unitOf_eq (Z := Z) (M := M1) (by omega) hH1 hH, nI_l, lN_mul, lN_ile, bd_eq, jn_eq, cl_some, i0, i1, i2, i3, i4, i5, i6, i8, i10, i14, i36, i86, nI_add, nI_mul, rdI_n, rdL_n, wrI_n, wrL_n, nI_ile, nI_ilt]
    have K1 := K () trivial
    have e2 : brk (brN P S W) (b + 1) = if brN P S W b then brk (brN P S W) b ||| (nI 1 <<< (nI b &&& 31)) else brk (brN P S W) b := rfl
    rw [e2] at K1
    by_cases c : uN P W b (pn S 0) (pn S 1) ≤ pn S (40 + b) * (10 * 1000 ^ (pn S 1 - 1))
    · rw [if_pos c]
      have c2 : brN P S W b = false := decide_eq_false (by omega)
      rw [c2] at K1
      exact K1
    · rw [if_neg c]
      have c2 : brN P S W b = true := decide_eq_true (by omega)
      rw [c2] at K1
      exact K1
  · intro n _ _
    rw [f_X11_brokenWith_L26, bd_eq, b1]
    simp only [ge_self, if_true]
    exact OK.ret ⟨q1, rfl⟩
theorem jnT {α β : Type} {c : Prop} [Decidable c] {a b : α} {F : α → β} : jn F (fun j => if c then j a else j b) = F (if c then a else b) := by
  unfold jn
  by_cases h : c
  · simp only [if_pos h]
  · simp only [if_neg h]
def top (m k : Nat) : Nat := if m ≤ k then 0 else 10
theorem top_I {m : Nat} (hm : m < 2 ^ 31) {k : Nat} (hk : k < 2 ^ 31) : (if nI m ≤ nI k then (0 : Int32) else (10 : Int32)).toInt = (top m k : Nat) := by
  unfold top
  by_cases h : m ≤ k
  · rw [if_pos h, if_pos (by rw [nI_ile hm hk]; exact h)]
    rfl
  · rw [if_neg h, if_neg (by rw [nI_ile hm hk]; exact h)]
    rfl
abbrev rOK (m : Nat) (p1 p2 p3 : Int32) : Prop := inN p1 0 10 ∧ inN p2 0 (top m 1) ∧ inN p3 0 (top m 2) ∧ p1 + p2 + p3 = 10
theorem setRule_cls {Z : Nat} {M : Mem} (h : Has M) {x : Nat} (hx : x < cN (gI M 112)) {p1 p2 p3 : Int32} : f_X11_setRule Z M (nI x) p1 p2 p3 = if rOK (cM (gI M 112) x) p1 p2 p3 then cl (f_X3_keep Z M) (fun v13 M14 => cl (f_X11_setWeights Z M14 (11) (nI x) p1 p2 p3) (fun v15 M16 => cl (f_X11_brokenWith Z M16 (11)) (fun v17 M18 => some (.ok v17, M18)))) else some (.error 2, M) := by
  have hN := h.N
  have hm := h.z.2.1 x
  have em : gI M 4 x = nI (cM (gI M 112) x) := h.c.2.1 x (by omega)
  unfold f_X11_setRule
  rw [h.nS, if_pos (inR_of hx (by omega)), clT_ok, needRangeN (a := 0) (b := 10) rfl rfl]
  by_cases g1 : inN p1 0 10
  · rw [if_pos g1, clT_ok, rdI_n (by omega) (by decide), em, jnT]
    rw [show (1 : Int32) = nI 1 from rfl, show (2 : Int32) = nI 2 from rfl, needRangeN (a := 0) (b := top (cM (gI M 112) x) 1) rfl (top_I (by omega) (by decide))]
    by_cases g2 : inN p2 0 (top (cM (gI M 112) x) 1)
    · rw [if_pos g2, clT_ok, rdI_n (by omega) (by decide), em, jnT]
      rw [needRangeN (a := 0) (b := top (cM (gI M 112) x) 2) rfl (top_I (by omega) (by decide))]
      by_cases g3 : inN p3 0 (top (cM (gI M 112) x) 2)
      · rw [if_pos g3, clT_ok]
        by_cases g4 : p1 + p2 + p3 = 10
        · rw [if_pos g4, if_pos ⟨g1, g2, g3, g4⟩]
        · rw [if_neg g4, if_neg (fun z => g4 z.2.2.2)]
      · rw [if_neg g3, if_neg (fun z => g3 z.2.2.1)]
        rfl
    · rw [if_neg g2, if_neg (fun z => g2 z.2.1)]
      rfl
  · rw [if_neg g1, if_neg (fun z => g1 z.1)]
    rfl
theorem in00 {p : Int32} : inN p 0 0 = (p = 0) := by
  unfold inN
  refine propext ⟨fun h => Int32.toInt_inj.mp ?_, fun h => by rw [h]; decide⟩
  have e : (0 : Int32).toInt = 0 := by decide
  rw [e]
  omega
/-- three cells in a row -/
theorem gI_3 {M : Mem} {o c : Nat} {a0 a1 a2 : Int32} (i : Nat) : gI (sI (sI (sI M o c a0) o (c + 1) a1) o (c + 2) a2) o i = if i = c + 2 then a2 else if i = c + 1 then a1 else if i = c then a0 else gI M o i := by
  rw [gI_sI, gI_sI, gI_sI]
  simp only [true_and]
def wt (f s t : Nat) (a : Nat) : Nat := if a = 0 then f else if a = 1 then s else t
def wNew (S : Nat → Int32) (x f s t r : Nat) : Nat := if r / 3 = x then wt f s t (r % 3) else sW9 S r
theorem row3 {x f s t r : Nat} {c : Nat} {v : Int32} (hv : ¬ r / 3 = x → True) : (if c + r = c + x * 3 + 2 then nI t else if c + r = c + x * 3 + 1 then nI s else if c + r = c + x * 3 then nI f else v) = if r / 3 = x then nI (wt f s t (r % 3)) else v := by
  have h3 : r = r / 3 * 3 + r % 3 := by omega
  have h4 : r % 3 < 3 := Nat.mod_lt _ (by decide)
  unfold wt
  by_cases c1 : r / 3 = x
  · rw [if_pos c1]
    by_cases c2 : r % 3 = 0
    · rw [if_neg (by omega), if_neg (by omega), if_pos (by omega), if_pos c2]
    · rw [if_neg c2]
      by_cases c3 : r % 3 = 1
      · rw [if_neg (by omega), if_pos (by omega), if_pos c3]
      · rw [if_pos (by omega), if_neg c3]
  · rw [if_neg c1, if_neg (by omega), if_neg (by omega), if_neg (by omega)]
