/-! leastLimit in the reference -/
theorem hd_iff {P : Nat → Int32} {W : Nat → Nat} {st H : Nat} {lim : Nat → Nat} : ∀ n, (hd P W st H lim n = true) = (∀ y, y < n → brG P W st H lim y = false)
  | 0 => propext ⟨fun _ y hy => absurd hy (by omega), fun _ => rfl⟩
  | n + 1 => by
    have e : hd P W st H lim (n + 1) = (hd P W st H lim n && !brG P W st H lim n) := rfl
    rw [e, Bool.and_eq_true, hd_iff n]
    refine propext ⟨fun h y hy => ?_, fun h => ⟨fun y hy => h y (by omega), by rw [h n (by omega)]; rfl⟩⟩
    by_cases c : y = n
    · rw [c]
      simpa using h.2
    · exact h.1 y (by omega)
theorem shl1 : ∀ b, b < 3 → (1 : Int32) <<< (nI b &&& 31) = nI (2 ^ b) := by decide
theorem bit1 : ∀ b, b < 3 → ∀ y, y < 3 → (2 ^ b / 2 ^ y % 2 = 1) = (y = b) := by decide
theorem brG_c {P : Nat → Int32} {W : Nat → Nat} {st H y : Nat} {lim lim' : Nat → Nat} (h : lim y = lim' y) : brG P W st H lim y = brG P W st H lim' y := by
  unfold brG
  rw [h]
theorem notB {P : Nat → Int32} {W : Nat → Nat} {st H : Nat} {lim : Nat → Nat} (hV : VP P) (hK : WOK P W) (h1 : 1 ≤ H) (hH : H ≤ 5) {b : Nat} (hb : b < cB P) : (brk (brG P W st H lim) (cB P) &&& (((1 : Int32) <<< (nI b &&& 31)) ^^^ (-1 : Int32)) = 0) = (hd P W st H (fun b' => if b' = b then lim b' + 9999 else lim b') (cB P) = true) := by
  have hB := hV.2.1.2.2
  have h2 : 2 ^ b ≤ 2 ^ 3 := Nat.pow_le_pow_right (by decide) (by omega)
  rw [shl1 b (by omega), brk_and (by omega) (by omega), hd_iff]
  have hu := uN_unit (b := b) (st := st) hV hK h1 hH
  refine propext ⟨fun h y hy => ?_, fun h y hy c => ?_⟩
  · by_cases d : y = b
    · rw [brG_c (lim' := fun _ => lim b + 9999) (by rw [if_pos d, d])]
      subst d
      refine decide_eq_false ?_
      have : 2475 * (10 * 1000 ^ (H - 1)) ≤ (lim y + 9999) * (10 * 1000 ^ (H - 1)) := Nat.mul_le_mul_right _ (by omega)
      dsimp only
      omega
    · rw [brG_c (lim' := lim) (by rw [if_neg d])]
      apply Classical.byContradiction
      intro g
      have g2 : brG P W st H lim y = true := by simpa using g
      have := h y hy g2
      rw [bit1 b (by omega) y (by omega)] at this
      exact d this
  · rw [bit1 b (by omega) y (by omega)]
    apply Classical.byContradiction
    intro d
    have g := h y hy
    rw [brG_c (lim' := lim) (by rw [if_neg d])] at g
    rw [g] at c
    exact absurd c (by decide)
