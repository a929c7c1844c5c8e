/-! load: refused, wrong, right -/
theorem kh.f {M M1 : Mem} (hf : ∀ o, o ∉ scrH → gI M1 o = gI M o ∧ gL M1 o = gL M o ∧ gR M1 o = gR M o) (h1 : gI M1 108 1 = gI M 108 1) (h4 : gI M1 108 4 = gI M 108 4) : kh M M1 := ⟨hf, h1, h4⟩
theorem lP_H : ∀ o, o ∈ lP → o ∈ scrH := by decide
theorem fQ2_H : ∀ o, o ∈ [108, 113, 115] → o ∈ scrH := by decide
/-- the bytes -/
def bytL (M : Mem) (i : Nat) : Nat := pn (gI M 114) i
theorem bytL_ok {M : Mem} (h : IB M) {i : Nat} (hi : i < pn (gI M 108) 9) : bytL M i < 256 ∧ gI M 114 i = nI (bytL M i) ∧ gI M 2 i = bySg (bytL M i) := by
  obtain ⟨v, h1, h2, h3⟩ := h.2.2.2 i hi
  have e : bytL M i = v := pn_n h2 (by omega)
  rw [e]
  exact ⟨h1, h2, h3⟩
theorem loadC_no {Z : Nat} {M : Mem} {q : Nat} {p : Int32} (h1 : gI M 1 1 = nI q) (hq : q ≤ 1200) (hp : ¬ inN p 0 q) : f_X11_load Z M p = some (.error 1, M) := by
  unfold f_X11_load
  by_cases c : p < 0
  · rw [if_pos c]
  · have c2 : ¬ p ≤ nI q := fun z => hp (by
      have z1 := Int32.le_iff_toInt_le.mp z
      rw [nI_toInt (by omega)] at z1
      refine ⟨?_, z1⟩
      by_cases d : p.toInt < 0
      · exact absurd (Int32.lt_iff_toInt_lt.mpr (by rw [Int32.toInt_zero]; exact d)) c
      · omega)
    rw [if_neg c, bd_eq, h1, if_neg c2]
def kCopy (Z : Nat) (M4 : Mem) : Option (Except Nat Int32 × Mem) := cl (f_X0_copyFrom Z M4 (3) (22)) (fun v5 M6 => cl (f_X7_copyFrom Z M6 (10) (29)) (fun v7 M8 => cl (f_X3_forget Z M8) (fun v9 M10 => cl (f_X5_forget Z M10) (fun v11 M12 => cl (f_X0_countActions Z M12 (3)) (fun v13 M14 => some (.ok v13, M14))))))
theorem loadC_in {Z : Nat} {M : Mem} {q n : Nat} (h1 : gI M 1 1 = nI q) (hq : q ≤ 1200) (hn : n ≤ q) : f_X11_load Z M (nI n) = cl (f_X4_parse Z M (nI n)) (fun v2 M3 => bd (sI M3 (1) 1 (0 : Int32)) (fun M4 => (if v2 = 0 then some (.error 2, M4) else kCopy Z M4))) := by
  have un : f_X11_load Z M (nI n) = (if nI n < 0 then some (.error 1, M) else bd (gI M (1) 1) (fun v1 => (if nI n ≤ v1 then cl (f_X4_parse Z M (nI n)) (fun v2 M3 => bd (sI M3 (1) 1 (0 : Int32)) (fun M4 => (if v2 = 0 then some (.error 2, M4) else kCopy Z M4))) else some (.error 1, M)))) := rfl
  rw [un, if_neg (nI_nlt0 (by omega)), bd_eq, h1, if_pos (by rw [nI_ile (by omega) (by omega)]; exact hn)]
/-- what stays of the invariant's parts where only the parsers' objects and the reference's numbers changed -/
theorem Inv.load {M M' : Mem} (hI : Inv M) (hf : ∀ o, o ∉ scrH → gI M' o = gI M o ∧ gL M' o = gL M o ∧ gR M' o = gR M o) (h1 : gI M' 1 1 = nI 0) (h9 : gI M' 108 9 = nI 0) (h2 : gI M' 21 2 = gI M' 108 10 ∧ gI M' 21 3 = gI M' 108 11) (k31 : gI M' 108 31 = gI M 108 31) (u : ∀ o, o = 33 ∨ o = 34 ∨ o = 105 ∨ o = 106 ∨ o = 123 → gI M' o = gI M o) (r92 : gR M' 92 = gR M 92) (h6 : Hasnt M' ∨ Has M') : Inv M' := by
  have p9 : pn (gI M' 108) 9 = 0 := pn_n h9 (by decide)
  exact Inv.mk ⟨h1.trans h9.symm, by rw [p9]; exact h9, by rw [p9]; omega, fun i hi => absurd hi (by rw [p9]; omega)⟩ h2 (hI.it.to (u 105 (by omega)) k31 (u 106 (by omega)) (u 123 (by omega))) (hI.is.to (hf 37 (by decide)).2.2) (hI.ih.to r92 (u 33 (by omega)) (u 34 (by omega))) h6
theorem rot_of {M : Mem} (h : Hasnt M ∨ Has M) : ∃ rot, rot < 7 ∧ ∀ k, k < 7 → gR M 36 k = some (38 + 6 * ((rot + k) % 7)) := by
  rcases h with h | h
  · exact h.2.2.2.2.2.2.2.2.2
  · obtain ⟨_, _, _, _, _, _, ⟨rot, r1, r2, _⟩, _⟩ := h
    exact ⟨rot, r1, r2⟩

