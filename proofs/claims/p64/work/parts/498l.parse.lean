/-! the two parsers from the first byte to the last -/
theorem clearC {Z : Nat} {M : Mem} (hZ : 4000 < Z) : ∃ M', f_X0_clear Z M 22 = some ((), M') ∧ fr [22, 23, 24, 25, 26, 27, 28] M M' ∧ (gI M' 22 0 = nI 0 ∧ gI M' 22 1 = nI 0) ∧ (∀ k, k < 6 → gI M' 23 k = nI 0) ∧ (∀ k, k < 18 → gI M' 24 k = nI 0) ∧ (∀ k, k < 54 → gI M' 25 k = nI 0) ∧ (∀ k, k < 108 → gI M' 26 k = nI 0) ∧ (∀ k, k < 108 → gI M' 27 k = nI 0) ∧ ∀ k, k < 18 → gI M' 28 k = nI 0 := by
  have f2 : fr [22] M (sI (sI M 22 0 0) 22 1 0) := fr_sI (fr_sI fr.rfl (by decide)) (by decide)
  have v0 : gI (sI (sI M 22 0 0) 22 1 0) 22 0 = nI 0 := by rw [gI_sI, if_neg (by decide), gI_sI, if_pos ⟨rfl, rfl⟩]; rfl
  have v1 : gI (sI (sI M 22 0 0) 22 1 0) 22 1 = nI 0 := by rw [gI_sI, if_pos ⟨rfl, rfl⟩]; rfl
  unfold f_X0_clear
  rw [bd_eq, bd_eq]
  generalize sI (sI M 22 0 0) 22 1 0 = M0 at *
  obtain ⟨_, M1, e1, g1, w1⟩ := fill_i_ok (Z := Z) (M := M0) (a := 22 + 1) (na := 6) (v := 0) (by decide) (by omega)
  rw [e1, cl_some]
  obtain ⟨_, M2, e2, g2, w2⟩ := fill_i_ok (Z := Z) (M := M1) (a := 22 + 2) (na := 18) (v := 0) (by decide) (by omega)
  rw [e2, cl_some]
  obtain ⟨_, M3, e3, g3, w3⟩ := fill_i_ok (Z := Z) (M := M2) (a := 22 + 3) (na := 54) (v := 0) (by decide) (by omega)
  rw [e3, cl_some]
  obtain ⟨_, M4, e4, g4, w4⟩ := fill_i_ok (Z := Z) (M := M3) (a := 22 + 4) (na := 108) (v := 0) (by decide) (by omega)
  rw [e4, cl_some]
  obtain ⟨_, M5, e5, g5, w5⟩ := fill_i_ok (Z := Z) (M := M4) (a := 22 + 5) (na := 108) (v := 0) (by decide) (by omega)
  rw [e5, cl_some]
  obtain ⟨_, M6, e6, g6, w6⟩ := fill_i_ok (Z := Z) (M := M5) (a := 22 + 6) (na := 18) (v := 0) (by decide) (by omega)
  rw [e6, cl_some]
  refine ⟨M6, rfl, ?_, ?_, fun k hk => ?_, fun k hk => ?_, fun k hk => ?_, fun k hk => ?_, fun k hk => ?_, fun k hk => w6 k hk⟩
  · exact ((((((f2.mono (by decide)).trans (g1.mono (by decide))).trans (g2.mono (by decide))).trans (g3.mono (by decide))).trans (g4.mono (by decide))).trans (g5.mono (by decide))).trans (g6.mono (by decide))
  · rw [g6.I (by decide), g5.I (by decide), g4.I (by decide), g3.I (by decide), g2.I (by decide), g1.I (by decide)]
    exact ⟨v0, v1⟩
  · rw [g6.I (by decide), g5.I (by decide), g4.I (by decide), g3.I (by decide), g2.I (by decide)]
    exact w1 k hk
  · rw [g6.I (by decide), g5.I (by decide), g4.I (by decide), g3.I (by decide)]
    exact w2 k hk
  · rw [g6.I (by decide), g5.I (by decide), g4.I (by decide)]
    exact w3 k hk
  · rw [g6.I (by decide), g5.I (by decide)]
    exact w4 k hk
  · rw [g6.I (by decide)]
    exact w5 k hk
theorem clearS {Z : Nat} {M : Mem} (hZ : 4000 < Z) : ∃ M', f_X7_clear Z M 29 = some ((), M') ∧ fr [29, 30, 31, 32] M M' ∧ (gI M' 29 3 = nI 0 ∧ gI M' 29 4 = nI 0 ∧ gI M' 29 5 = nI 0 ∧ gI M' 29 6 = -1) ∧ (∀ x, x < 6 → ∀ a, a < 3 → gI M' 30 (x * 3 + a) = if a = 0 then nI 10 else nI 0) ∧ (∀ x, x < 6 → gI M' 31 x = nI 7) ∧ ∀ b, b < 3 → gI M' 32 b = nI 0 := by
  unfold f_X7_clear
  rw [i0]
  refine lpS (σ := Mem) (fun m i M1 => f_X7_clear_L2 Z 29 (fun (M7 : Mem) => cl (f_J7_fill_53178 Z M7 (29 + 3) 3 (nI 0)) (fun v8 M9 => bd (sI M9 29 3 (nI 0)) (fun M10 => bd (sI M10 29 4 (nI 0)) (fun M11 => bd (sI M11 29 5 (nI 0)) (fun M12 => bd (sI M12 29 6 (-1 : Int32)) (fun M13 => some ((), M13))))))) m (nI i) M1) (fun q => ∃ M', q = some ((), M') ∧ fr [29, 30, 31, 32] M M' ∧ (gI M' 29 3 = nI 0 ∧ gI M' 29 4 = nI 0 ∧ gI M' 29 5 = nI 0 ∧ gI M' 29 6 = -1) ∧ (∀ x, x < 6 → ∀ a, a < 3 → gI M' 30 (x * 3 + a) = if a = 0 then nI 10 else nI 0) ∧ (∀ x, x < 6 → gI M' 31 x = nI 7) ∧ ∀ b, b < 3 → gI M' 32 b = nI 0) (fun i M1 => fr [30, 31] M M1 ∧ (∀ x, x < i → ∀ a, a < 3 → gI M1 30 (x * 3 + a) = if a = 0 then nI 10 else nI 0) ∧ ∀ x, x < i → gI M1 31 x = nI 7) 0 6 (Z := Z) (by decide) (by omega) ⟨fr.rfl, fun x hx => absurd hx (by omega), fun x hx => absurd hx (by omega)⟩ ?_ ?_
  · intro m i M1 _ hi hI K
    obtain ⟨g1, g2, g3⟩ := hI
    rw [f_X7_clear_L2, if_neg (by rw [show (6 : Int32) = nI 6 from rfl, nI_ile (by decide) (by omega)]; omega)]
    unfold f_X11_setWeights f_X11_rowOf
    rw [cl_some, show (3 : Int32) = nI 3 from rfl, show (0 : Int32) = nI 0 from rfl, show (1 : Int32) = nI 1 from rfl, show (2 : Int32) = nI 2 from rfl, nI_mul, nI_add, wrI_n (by omega) (by decide), cl_some, nI_add, wrI_n (by omega) (by decide), cl_some, nI_add, wrI_n (by omega) (by decide), cl_some, wrI_n (by omega) (by decide), nI_add]
    refine K _ ⟨fr_sI (fr_sI (fr_sI (fr_sI g1 (by decide)) (by decide)) (by decide)) (by decide), fun x hx a ha => ?_, fun x hx => ?_⟩
    · show gI (sI (sI (sI (sI M1 30 (i * 3 + 0) _) 30 (i * 3 + 1) _) 30 (i * 3 + 2) _) 31 i _) 30 _ = _
      rw [gI_sI, if_neg (fun z => absurd z.1 (by decide)), gI_sI]
      by_cases c2 : x * 3 + a = i * 3 + 2
      · rw [if_pos ⟨rfl, c2⟩, if_neg (by omega)]
      · rw [if_neg (fun z => c2 z.2), gI_sI]
        by_cases c1 : x * 3 + a = i * 3 + 1
        · rw [if_pos ⟨rfl, c1⟩, if_neg (by omega)]
        · rw [if_neg (fun z => c1 z.2), gI_sI]
          by_cases c0 : x * 3 + a = i * 3 + 0
          · rw [if_pos ⟨rfl, c0⟩, if_pos (by omega)]
            rfl
          · rw [if_neg (fun z => c0 z.2)]
            exact g2 x (by omega) a ha
    · show gI (sI (sI (sI (sI M1 30 (i * 3 + 0) _) 30 (i * 3 + 1) _) 30 (i * 3 + 2) _) 31 i _) 31 _ = _
      rw [gI_sI]
      by_cases c : x = i
      · rw [if_pos ⟨rfl, c⟩]
        rfl
      · rw [if_neg (fun z => c z.2), gI_sI, if_neg (fun z => absurd z.1 (by decide)), gI_sI, if_neg (fun z => absurd z.1 (by decide)), gI_sI, if_neg (fun z => absurd z.1 (by decide))]
        exact g3 x (by omega)
  · intro m M1 hI
    obtain ⟨g1, g2, g3⟩ := hI
    obtain ⟨_, M2, e2, h2, w2⟩ := fill_i_ok (Z := Z) (M := M1) (a := 29 + 3) (na := 3) (v := nI 0) (by decide) (by omega)
    rw [f_X7_clear_L2, if_pos (by decide), e2, cl_some, bd_eq, bd_eq, bd_eq, bd_eq]
    have ne : ∀ o, o ≠ 29 → gI (sI (sI (sI (sI M2 29 3 (nI 0)) 29 4 (nI 0)) 29 5 (nI 0)) 29 6 (-1 : Int32)) o = gI M2 o := fun o ho => by rw [gI_sI', if_neg ho, gI_sI', if_neg ho, gI_sI', if_neg ho, gI_sI', if_neg ho]
    refine ⟨_, rfl, fr_sI (fr_sI (fr_sI (fr_sI ((g1.mono (by decide)).trans (h2.mono (by decide))) (by decide)) (by decide)) (by decide)) (by decide), ⟨?_, ?_, ?_, ?_⟩, fun x hx a ha => ?_, fun x hx => ?_, fun b hb => ?_⟩
    · rw [gI_sI, if_neg (by decide), gI_sI, if_neg (by decide), gI_sI, if_neg (by decide), gI_sI, if_pos ⟨rfl, rfl⟩]
    · rw [gI_sI, if_neg (by decide), gI_sI, if_neg (by decide), gI_sI, if_pos ⟨rfl, rfl⟩]
    · rw [gI_sI, if_neg (by decide), gI_sI, if_pos ⟨rfl, rfl⟩]
    · rw [gI_sI, if_pos ⟨rfl, rfl⟩]
    · rw [ne 30 (by decide), h2.I (by decide)]
      exact g2 x hx a ha
    · rw [ne 31 (by decide), h2.I (by decide)]
      exact g3 x hx
    · rw [ne 32 (by decide)]
      exact w2 b hb
