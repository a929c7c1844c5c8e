/-! a state is named; the act line -/
def sOK (b : Nat → Nat) (n e : Nat) (Q : Nat → Int32) : Prop := tK b n e = 2 ∧ nOK (tV b n e) 0 (nI (cN Q) - 1)
theorem sOK.lt {b : Nat → Nat} {n e : Nat} {Q : Nat → Int32} (h : sOK b n e Q) (hN : cN Q ≤ 6) (hN1 : 1 ≤ cN Q) : tV b n e < cN Q := by
  have m1 : (nI (cN Q) - (1 : Int32)).toInt = (cN Q : Int) - 1 := ltopI (by omega)
  have := h.2.2
  omega
theorem seeStC {Z : Nat} {M : Mem} {b : Nat → Nat} {n e : Nat} {Q : Nat → Int32} (h : okC b n e M) (h0 : gI M 22 0 = nI (cN Q)) (hs : sOK b n e Q) : ∃ M', f_X4_seeState Z M = some (1, M') ∧ fP M M' ∧ gI M' 21 5 = nI (tV b n e) ∧ okC b n e M' := by
  obtain ⟨C2, k2, f2, g2, o2⟩ := seeC (Z := Z) h (lo := 0) (by decide) hs.1 hs.2
  unfold f_X4_seeState
  rw [bd_eq, h0, show f_X4_seeNumber Z M 0 (nI (cN Q) - 1) = some (1, C2) from k2, cl_some, if_pos (by decide)]
  exact ⟨C2, rfl, f2, g2, o2⟩
theorem seeStN {Z : Nat} {M : Mem} {b : Nat → Nat} {n e : Nat} {Q : Nat → Int32} (h : okC b n e M) (h0 : gI M 22 0 = nI (cN Q)) (hs : ¬ sOK b n e Q) : ∃ M', f_X4_seeState Z M = some (0, M') ∧ fr [21] M M' ∧ erC (if tK b n e = 2 then 2 else 1) (tA b n e) M' := by
  obtain ⟨C2, k2, f2, o2⟩ := seeN (Z := Z) h (lo := 0) (hi := nI (cN Q) - 1) (by decide) hs
  unfold f_X4_seeState
  rw [bd_eq, h0, show f_X4_seeNumber Z M 0 (nI (cN Q) - 1) = some (0, C2) from k2, cl_some, if_pos (by decide)]
  exact ⟨C2, rfl, f2, o2⟩
/-! rows at the end of a line -/
def ZR (Q : Nat → Int32) (r : Nat) : Prop := cT Q r = 0 ∧ (∀ b, b < 3 → pn Q (32 + (r * 3 + b)) = 0) ∧ ∀ y, cP Q r y = 0
def RowsOK (Q : Nat → Int32) : Prop := ∀ x, x < 6 → ∀ a, a < 3 → (a < cM Q x → AP Q (x * 3 + a) 100) ∧ (cM Q x ≤ a → ZR Q (x * 3 + a))
def RuleOK (Q : Nat → Int32) (x : Nat) : Prop := (Q (320 + x) = nI 1 ∧ pn Q (326 + (x * 3 + 0)) + pn Q (326 + (x * 3 + 1)) + pn Q (326 + (x * 3 + 2)) = 10 ∧ ∀ a, a < 3 → cM Q x ≤ a → pn Q (326 + (x * 3 + a)) = 0) ∨ (Q (320 + x) = nI 0 ∧ ∀ a, a < 3 → pn Q (326 + (x * 3 + a)) = 0)
def VQ (Q : Nat → Int32) : Prop := VW Q ∧ (1 ≤ cN Q ∧ pn Q 2 < cN Q ∧ 1 ≤ pn Q 3) ∧ RowsOK Q ∧ ∀ x, x < 6 → RuleOK Q x
theorem row_eq {Q Q' : Nat → Int32} {r : Nat} (h : ∀ i, (86 + r * 6 ≤ i ∧ i < 92 + r * 6) ∨ (212 + r * 6 ≤ i ∧ i < 218 + r * 6) ∨ i = 194 + r → Q' i = Q i) : cP Q' r = cP Q r ∧ cO Q' r = cO Q r ∧ cT Q' r = cT Q r := by
  refine ⟨funext fun y => ?_, funext fun k => ?_, ?_⟩
  · unfold cP
    by_cases c : r < 18 ∧ y < 6
    · rw [if_pos c, if_pos c]
      exact pn_c (h _ (by omega))
    · rw [if_neg c, if_neg c]
  · unfold cO
    by_cases c : r < 18 ∧ k < 6
    · rw [if_pos c, if_pos c]
      exact pn_c (h _ (by omega))
    · rw [if_neg c, if_neg c]
  · unfold cT
    by_cases c : r < 18
    · rw [if_pos c, if_pos c]
      exact pn_c (h _ (by omega))
    · rw [if_neg c, if_neg c]
theorem AP.of {Q Q' : Nat → Int32} {r S : Nat} (h : AP Q r S) (h0 : Q' 0 = Q 0) (he : ∀ i, (86 + r * 6 ≤ i ∧ i < 92 + r * 6) ∨ (212 + r * 6 ≤ i ∧ i < 218 + r * 6) ∨ i = 194 + r → Q' i = Q i) : AP Q' r S := by
  obtain ⟨e1, e2, e3⟩ := row_eq he
  have e0 : cN Q' = cN Q := pn_c h0
  unfold AP
  rw [e1, e2, e3, e0]
  exact h
theorem ZR.of {Q Q' : Nat → Int32} {r : Nat} (h : ZR Q r) (he : ∀ i, (86 + r * 6 ≤ i ∧ i < 92 + r * 6) ∨ (212 + r * 6 ≤ i ∧ i < 218 + r * 6) ∨ i = 194 + r → Q' i = Q i) (hu : ∀ i, 32 + r * 3 ≤ i ∧ i < 35 + r * 3 → Q' i = Q i) : ZR Q' r := by
  obtain ⟨e1, e2, e3⟩ := row_eq he
  unfold ZR
  rw [e1, e3]
  exact ⟨h.1, fun b hb => (pn_c (hu _ (by omega))).trans (h.2.1 b hb), h.2.2⟩
theorem ZR.ap {Q : Nat → Int32} {r : Nat} (h : ZR Q r) : AP Q r 0 := by
  have e : cP Q r = fun _ => 0 := funext h.2.2
  unfold AP
  rw [h.1, e, sm_zero]
  exact ⟨rfl, cz_zero 6 (fun _ _ => rfl), fun k hk => absurd hk (by omega), rfl⟩
theorem gV_b {b : Nat → Nat} {n e : Nat} (h : gOK b n e) : -999 ≤ (gV b n e).toInt ∧ (gV b n e).toInt ≤ 999 := by
  have e9 : (999 : Int32).toInt = 999 := by decide
  have h2 := h.2.2
  rw [e9] at h2
  unfold gV
  split
  · rw [Int32.toInt_neg, nI_toInt (by omega), Int.bmod_eq_of_le (by omega) (by omega)]
    omega
  · rw [nI_toInt (by omega)]
    omega

