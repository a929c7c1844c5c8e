/-! setRule -/
theorem jnT {α β : Type} {c : Prop} [Decidable c] {a b : α} {F : α → β} : jn F (fun j => if c then j a else j b) = F (if c then a else b) := by
  unfold jn
  by_cases h : c
  · simp only [if_pos h]
  · simp only [if_neg h]
def top (m k : Nat) : Nat := if m ≤ k then 0 else 10
theorem top_I {m : Nat} (hm : m < 2 ^ 31) {k : Nat} (hk : k < 2 ^ 31) : (if nI m ≤ nI k then (0 : Int32) else (10 : Int32)).toInt = (top m k : Nat) := by
  unfold top
  by_cases h : m ≤ k
  · rw [if_pos h, if_pos (by rw [nI_ile hm hk]; exact h)]
    rfl
  · rw [if_neg h, if_neg (by rw [nI_ile hm hk]; exact h)]
    rfl
abbrev rOK (m : Nat) (p1 p2 p3 : Int32) : Prop := inN p1 0 10 ∧ inN p2 0 (top m 1) ∧ inN p3 0 (top m 2) ∧ p1 + p2 + p3 = 10
theorem setRule_cls {Z : Nat} {M : Mem} (h : Has M) {x : Nat} (hx : x < cN (gI M 112)) {p1 p2 p3 : Int32} : f_X11_setRule Z M (nI x) p1 p2 p3 = if rOK (cM (gI M 112) x) p1 p2 p3 then cl (f_X3_keep Z M) (fun v13 M14 => cl (f_X11_setWeights Z M14 (11) (nI x) p1 p2 p3) (fun v15 M16 => cl (f_X11_brokenWith Z M16 (11)) (fun v17 M18 => some (.ok v17, M18)))) else some (.error 2, M) := by
  have hN := h.N
  have hm := h.z.2.1 x
  have em : gI M 4 x = nI (cM (gI M 112) x) := h.c.2.1 x (by omega)
  unfold f_X11_setRule
  rw [h.nS, if_pos (inR_of hx (by omega)), clT_ok, needRangeN (a := 0) (b := 10) rfl rfl]
  by_cases g1 : inN p1 0 10
  · rw [if_pos g1, clT_ok, rdI_n (by omega) (by decide), em, jnT]
    rw [show (1 : Int32) = nI 1 from rfl, show (2 : Int32) = nI 2 from rfl, needRangeN (a := 0) (b := top (cM (gI M 112) x) 1) rfl (top_I (by omega) (by decide))]
    by_cases g2 : inN p2 0 (top (cM (gI M 112) x) 1)
    · rw [if_pos g2, clT_ok, rdI_n (by omega) (by decide), em, jnT]
      rw [needRangeN (a := 0) (b := top (cM (gI M 112) x) 2) rfl (top_I (by omega) (by decide))]
      by_cases g3 : inN p3 0 (top (cM (gI M 112) x) 2)
      · rw [if_pos g3, clT_ok]
        by_cases g4 : p1 + p2 + p3 = 10
        · rw [if_pos g4, if_pos ⟨g1, g2, g3, g4⟩]
        · rw [if_neg g4, if_neg (fun z => g4 z.2.2.2)]
      · rw [if_neg g3, if_neg (fun z => g3 z.2.2.1)]
        rfl
    · rw [if_neg g2, if_neg (fun z => g2 z.2.1)]
      rfl
  · rw [if_neg g1, if_neg (fun z => g1 z.1)]
    rfl
theorem in00 {p : Int32} : inN p 0 0 = (p = 0) := by
  unfold inN
  refine propext ⟨fun h => Int32.toInt_inj.mp ?_, fun h => by rw [h]; decide⟩
  have e : (0 : Int32).toInt = 0 := by decide
  rw [e]
  omega
/-- three cells in a row -/
theorem gI_3 {M : Mem} {o c : Nat} {a0 a1 a2 : Int32} (i : Nat) : gI (sI (sI (sI M o c a0) o (c + 1) a1) o (c + 2) a2) o i = if i = c + 2 then a2 else if i = c + 1 then a1 else if i = c then a0 else gI M o i := by
  rw [gI_sI, gI_sI, gI_sI]
  simp only [true_and]
def wt (f s t : Nat) (a : Nat) : Nat := if a = 0 then f else if a = 1 then s else t
def wNew (S : Nat → Int32) (x f s t r : Nat) : Nat := if r / 3 = x then wt f s t (r % 3) else sW9 S r
theorem row3 {x f s t r : Nat} {c : Nat} {v : Int32} (hv : ¬ r / 3 = x → True) : (if c + r = c + x * 3 + 2 then nI t else if c + r = c + x * 3 + 1 then nI s else if c + r = c + x * 3 then nI f else v) = if r / 3 = x then nI (wt f s t (r % 3)) else v := by
  have h3 : r = r / 3 * 3 + r % 3 := by omega
  have h4 : r % 3 < 3 := Nat.mod_lt _ (by decide)
  unfold wt
  by_cases c1 : r / 3 = x
  · rw [if_pos c1]
    by_cases c2 : r % 3 = 0
    · rw [if_neg (by omega), if_neg (by omega), if_pos (by omega), if_pos c2]
    · rw [if_neg c2]
      by_cases c3 : r % 3 = 1
      · rw [if_neg (by omega), if_pos (by omega), if_pos c3]
      · rw [if_pos (by omega), if_neg c3]
  · rw [if_neg c1, if_neg (by omega), if_neg (by omega), if_neg (by omega)]
