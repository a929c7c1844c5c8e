/-! the reference's best pure set -/
/-- the weights while a pure set is tried -/
def wMix (P : Nat → Int32) (c W0 : Nat → Nat) (r : Nat) : Nat := if r < 3 * cN P then wPure c r else W0 r
theorem wMix_eq {P : Nat → Int32} {c W0 : Nat → Nat} (hm : ∀ x, cM P x ≤ 3) : ∀ x, x < cN P → ∀ a, a < cM P x → wMix P c W0 (x * 3 + a) = wPure c (x * 3 + a) := fun x hx a ha => by
  have := hm x
  unfold wMix
  rw [if_pos (by omega)]
theorem wMix_WOK {P : Nat → Int32} (hV : VP P) {c W0 : Nat → Nat} (h : CHo P c) (h0 : ∀ r, W0 r ≤ 10) : WOK P (wMix P c W0) := by
  refine ⟨fun r => ?_, fun x hx => ?_⟩
  · unfold wMix
    split
    · exact wPure_lt
    · exact h0 r
  · rw [sm_congr (fun a ha => wMix_eq (W0 := W0) hV.sz.2.1 x hx a ha)]
    exact (wPure_WOK hV h).2 x hx
def lG : List Nat := [108, 109, 110, 116, 121, 122]
