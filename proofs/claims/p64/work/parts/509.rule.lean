/-! a rule of the law's chain is drawn -/
def ruT (w : Nat → Nat) : Nat → List Nat
  | 0 => []
  | a + 1 => ruT w a ++ ([32] ++ dgs (w a))
/-- the weights of a state: m of them, 10 together, the others 0 -/
def WS (M : Mem) (o m : Nat) : Prop := (∀ a, a < 3 → gI M o a = nI (pn (gI M o) a)) ∧ sm m (pn (gI M o)) = 10 ∧ ∀ a, m ≤ a → a < 3 → gI M o a = nI 0
/-- the rule and its text; none for the first act always -/
def RuS (M : Mem) (o m x : Nat) (seg : List Nat) : Prop := WS M o m ∧ (seg = [] ∧ pn (gI M o) 0 = 10 ∨ seg = WL.getD 19 [] ++ dgs x ++ ruT (pn (gI M o)) m)
theorem sm_ge9 {f : Nat → Nat} : ∀ m a, a < m → f a ≤ sm m f
  | m + 1, a, h => by
    rw [sm]
    by_cases e : a = m
    · rw [e]; omega
    · have := sm_ge9 (f := f) m a (by omega)
      omega
theorem WS_le {M : Mem} {o m : Nat} (h : WS M o m) (hm : m ≤ 3) : ∀ a, a < 3 → pn (gI M o) a ≤ 10 := by
  intro a ha
  obtain ⟨h1, h2, h3⟩ := h
  by_cases ham : m ≤ a
  · unfold pn
    rw [h3 a ham ha, nI_clamp (by omega)]
    omega
  · have := sm_ge9 (f := pn (gI M o)) m a (by omega)
    omega
theorem ruT_len {w : Nat → Nat} : ∀ a, (∀ j, j < a → w j ≤ 10) → (ruT w a).length ≤ 3 * a
  | 0, _ => Nat.le_refl _
  | a + 1, h => by
    have ih := ruT_len a (fun j hj => h j (by omega))
    have hu := h a (by omega)
    have d2 : (dgs (w a)).length ≤ 2 := by
      unfold dgs
      split
      · exact Nat.le_succ 1
      · rw [if_pos (by omega)]
        exact Nat.le_refl _
    have : ([32] : List Nat).length = 1 := rfl
    simp only [ruT, List.length_append]
    omega
