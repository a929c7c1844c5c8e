theorem needSlot_eq {Z : Nat} {M : Mem} {p : Int32} : f_X11_needSlot Z M p = some (if inR p 2 then .ok () else .error 1, M) := by
  unfold f_X11_needSlot
  simp only [jn_eq, lt0, i2, ltn (show 2 < 2 ^ 31 by decide)]
  by_cases c : p.toInt < 0
  · rw [if_pos c, if_neg (by unfold inR; omega)]
  · rw [if_neg c]
    by_cases d : p.toInt < ((2 : Nat) : Int)
    · rw [if_pos d, if_pos (by unfold inR; omega)]
    · rw [if_neg d, if_neg (by unfold inR; omega)]
def sq1 (q z : Nat) : Nat := if q / 2 ^ z % 2 = 1 then q else q + 2 ^ z
theorem sq1_ok : ∀ q, q < 4 → ∀ z, z < 2 → nI q ||| ((1 : Int32) <<< (nI z &&& 31)) = nI (sq1 q z) ∧ sq1 q z < 4 ∧ ∀ y, y < 2 → sq1 q z / 2 ^ y % 2 = if y = z then 1 else q / 2 ^ y % 2 := by decide +kernel
theorem slot_R {M : Mem} (h : IS M) {z : Nat} (hz : z < 2) : gR M 37 z = some (80 + 6 * z) := by
  have : z = 0 ∨ z = 1 := by omega
  rcases this with rfl | rfl
  · exact h.1
  · exact h.2
theorem slot_sh : ∀ z, z < 2 → SH[80 + 6 * z]? = some (13, 9) := by decide
theorem wrZ_n {β : Type} {M : Mem} {o n j : Nat} {v : Int32} {k : Mem → Option β} (h : j < n) (hn : n < 100000) : wrZ M o n (nI j) v k = k (sI M o j (vp_nar .boolean v)) := by
  have e := nI_clamp (n := j) (by omega)
  have : inB (nI j) n = true := by
    simp only [inB, Bool.and_eq_true, decide_eq_true_eq, e]
    exact ⟨nI_pos' (by omega), h⟩
  simp only [wrZ, this, if_true, e]
theorem nz1 : vp_nar .boolean (1 : Int32) = nI 1 := by decide
theorem nz0 : vp_nar .boolean (0 : Int32) = nI 0 := by decide
theorem hasSlots {M : Mem} (h : Has M) : ∃ q, q < 4 ∧ gI M 35 3 = nI q ∧ ∀ z, z < 2 → gI M 111 z = nI (q / 2 ^ z % 2) ∧ (q / 2 ^ z % 2 = 1 → VS (gI M 112) (fun i => gI M 110 (54 * (8 + z) + i)) ∧ RS (gI M 112) M (80 + 6 * z) (fun i => gI M 110 (54 * (8 + z) + i))) := h.2.2.2.2.2.2.2.1
def lV9 (z : Nat) : List Nat := blk (80 + 6 * z) ++ [35, 110, 111, 124]
theorem lV_in {z o : Nat} : o ∈ lV9 z ↔ (80 + 6 * z ≤ o ∧ o < 80 + 6 * z + 6) ∨ o = 35 ∨ o = 110 ∨ o = 111 ∨ o = 124 := by
  unfold lV9
  rw [List.mem_append, blk_in]
  simp only [List.mem_cons, List.not_mem_nil, or_false]
theorem isFull_eq {Z : Nat} {M : Mem} {q : Nat} (e35 : gI M 35 3 = nI q) (hq : q < 4) {z : Nat} (hz : z < 2) : f_X3_isFull Z M (nI z) = some (bN (decide (q / 2 ^ z % 2 = 1)), M) := by
  unfold f_X3_isFull
  rw [bd_eq, e35]
  simp only [bit6 q (by omega) z (by omega)]
  unfold bN
  by_cases c : q / 2 ^ z % 2 = 1
  · rw [if_pos c, if_pos (decide_eq_true c)]
  · rw [if_neg c, if_neg (by simp [c])]
