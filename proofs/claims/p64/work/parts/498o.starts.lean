/-! the settings that a text starts with -/
def wS (P : Nat → Int32) (y a : Nat) : Nat := if P (320 + y) = nI 1 then pn P (326 + (y * 3 + a)) else if a = 0 then 10 else 0
def dnS (P : Nat → Int32) (x k y a : Nat) : Prop := (y < x ∧ a < cM P y) ∨ (y = x ∧ a < k)
def JS (P : Nat → Int32) (M0 : Mem) (x k : Nat) (M1 : Mem) : Prop := fr [109] M0 M1 ∧ (∀ i, i < 4 ∨ 40 ≤ i → gI M1 109 i = gI M0 109 i) ∧ ∀ y, y < 6 → ∀ a, a < 3 → (dnS P x k y a → gI M1 109 (4 + (y * 3 + a)) = nI (wS P y a) ∧ gI M1 109 (22 + (y * 3 + a)) = nI 1) ∧ (¬ dnS P x k y a → gI M1 109 (4 + (y * 3 + a)) = nI 0 ∧ gI M1 109 (22 + (y * 3 + a)) = nI 0)
theorem JS.put {P : Nat → Int32} {M0 M1 : Mem} {x k : Nat} (h : JS P M0 x k M1) (hx : x < 6) (hk : k < 3) : JS P M0 x (k + 1) (sI (sI M1 109 (4 + (x * 3 + k)) (nI (wS P x k))) 109 (22 + (x * 3 + k)) (nI 1)) := by
  obtain ⟨h1, h2, h3⟩ := h
  refine ⟨fr_sI (fr_sI h1 (by decide)) (by decide), fun i hi => ?_, fun y hy a ha => ?_⟩
  · rw [gI_sI, if_neg (fun z => by have := z.2; omega), gI_sI, if_neg (fun z => by have := z.2; omega)]
    exact h2 i hi
  · rw [gI_sI, if_neg (fun z => by have := z.2; omega), gI_sI, gI_sI]
    obtain ⟨g1, g2⟩ := h3 y hy a ha
    by_cases c : y = x ∧ a = k
    · obtain ⟨c1, c2⟩ := c
      subst c1
      subst c2
      rw [if_pos ⟨rfl, rfl⟩, if_pos ⟨rfl, rfl⟩]
      exact ⟨fun _ => ⟨rfl, rfl⟩, fun z => absurd (Or.inr ⟨rfl, Nat.lt_succ_self _⟩) z⟩
    · rw [if_neg (fun z => c (by have := z.2; omega)), if_neg (fun z => c (by have := z.2; omega)), gI_sI, if_neg (fun z => by have := z.2; omega)]
      have e : dnS P x (k + 1) y a ↔ dnS P x k y a := by
        constructor
        · rintro (d | ⟨d1, d2⟩)
          · exact Or.inl d
          · exact Or.inr ⟨d1, by omega⟩
        · rintro (d | ⟨d1, d2⟩)
          · exact Or.inl d
          · exact Or.inr ⟨d1, by omega⟩
      exact ⟨fun z => g1 (e.mp z), fun z => g2 (fun d => z (e.mpr d))⟩
theorem JS.next {P : Nat → Int32} {M0 M1 : Mem} {x : Nat} (h : JS P M0 x (cM P x) M1) : JS P M0 (x + 1) 0 M1 := by
  obtain ⟨h1, h2, h3⟩ := h
  refine ⟨h1, h2, fun y hy a ha => ?_⟩
  obtain ⟨g1, g2⟩ := h3 y hy a ha
  have e : dnS P (x + 1) 0 y a ↔ dnS P x (cM P x) y a := by
    constructor
    · rintro (⟨d1, d2⟩ | ⟨d1, d2⟩)
      · by_cases c : y = x
        · exact Or.inr ⟨c, by rw [← c]; exact d2⟩
        · exact Or.inl ⟨by omega, d2⟩
      · exact absurd d2 (by omega)
    · rintro (⟨d1, d2⟩ | ⟨d1, d2⟩)
      · exact Or.inl ⟨by omega, d2⟩
      · exact Or.inl ⟨by omega, by rw [d1]; exact d2⟩
  exact ⟨fun z => g1 (e.mp z), fun z => g2 (fun d => z (e.mpr d))⟩
