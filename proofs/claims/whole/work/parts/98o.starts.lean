/-! the settings that a text starts with -/
def wS (P : Nat → Int32) (y a : Nat) : Nat := if P (320 + y) = nI 1 then pn P (326 + (y * 3 + a)) else if a = 0 then 10 else 0
def dnS (P : Nat → Int32) (x k y a : Nat) : Prop := (y < x ∧ a < cM P y) ∨ (y = x ∧ a < k)
def JS (P : Nat → Int32) (M0 : Mem) (x k : Nat) (M1 : Mem) : Prop := fr [109] M0 M1 ∧ (∀ i, i < 4 ∨ 40 ≤ i → gI M1 109 i = gI M0 109 i) ∧ ∀ y, y < 6 → ∀ a, a < 3 → (dnS P x k y a → gI M1 109 (4 + (y * 3 + a)) = nI (wS P y a) ∧ gI M1 109 (22 + (y * 3 + a)) = nI 1) ∧ (¬ dnS P x k y a → gI M1 109 (4 + (y * 3 + a)) = nI 0 ∧ gI M1 109 (22 + (y * 3 + a)) = nI 0)
theorem JS.put {P : Nat → Int32} {M0 M1 : Mem} {x k : Nat} (h : JS P M0 x k M1) (hx : x < 6) (hk : k < 3) : JS P M0 x (k + 1) (sI (sI M1 109 (4 + (x * 3 + k)) (nI (wS P x k))) 109 (22 + (x * 3 + k)) (nI 1)) := by
  obtain ⟨h1, h2, h3⟩ := h
  refine ⟨fr_sI (fr_sI h1 (by decide)) (by decide), fun i hi => ?_, fun y hy a ha => ?_⟩
  · rw [gI_sI, if_neg (fun z => by have := z.2; omega), gI_sI, if_neg (fun z => by have := z.2; omega)]
    exact h2 i hi
  · rw [gI_sI, if_neg (fun z => by have := z.2; omega), gI_sI, gI_sI]
    obtain ⟨g1, g2⟩ := h3 y hy a ha
    by_cases c : y = x ∧ a = k
    · obtain ⟨c1, c2⟩ := c
      subst c1
      subst c2
      rw [if_pos ⟨rfl, rfl⟩, if_pos ⟨rfl, rfl⟩]
      exact ⟨fun _ => ⟨rfl, rfl⟩, fun z => absurd (Or.inr ⟨rfl, Nat.lt_succ_self _⟩) z⟩
    · rw [if_neg (fun z => c (by have := z.2; omega)), if_neg (fun z => c (by have := z.2; omega)), gI_sI, if_neg (fun z => by have := z.2; omega)]
      have e : dnS P x (k + 1) y a ↔ dnS P x k y a := by
        constructor
        · rintro (d | ⟨d1, d2⟩)
          · exact Or.inl d
          · exact Or.inr ⟨d1, by omega⟩
        · rintro (d | ⟨d1, d2⟩)
          · exact Or.inl d
          · exact Or.inr ⟨d1, by omega⟩
      exact ⟨fun z => g1 (e.mp z), fun z => g2 (fun d => z (e.mpr d))⟩
theorem JS.next {P : Nat → Int32} {M0 M1 : Mem} {x : Nat} (h : JS P M0 x (cM P x) M1) : JS P M0 (x + 1) 0 M1 := by
  obtain ⟨h1, h2, h3⟩ := h
  refine ⟨h1, h2, fun y hy a ha => ?_⟩
  obtain ⟨g1, g2⟩ := h3 y hy a ha
  have e : dnS P (x + 1) 0 y a ↔ dnS P x (cM P x) y a := by
    constructor
    · rintro (⟨d1, d2⟩ | ⟨d1, d2⟩)
      · by_cases c : y = x
        · exact Or.inr ⟨c, by rw [← c]; exact d2⟩
        · exact Or.inl ⟨by omega, d2⟩
      · exact absurd d2 (by omega)
    · rintro (⟨d1, d2⟩ | ⟨d1, d2⟩)
      · exact Or.inl ⟨by omega, d2⟩
      · exact Or.inl ⟨by omega, by rw [d1]; exact d2⟩
  exact ⟨fun z => g1 (e.mp z), fun z => g2 (fun d => z (e.mpr d))⟩
theorem startsIn {Z : Nat} {P : Nat → Int32} {M0 M : Mem} {x : Nat} {x13 v17 : Int32} (hZ : 4000 < Z) (hV : VQ P) (hP : gI M0 112 = P) (hx : x < 6) (h : JS P M0 x 0 M) (k : Mem → Option (Int32 × Mem)) : ∃ M', f_X12_starts_L100 Z x13 (nI x) v17 k Z (0 : Int32) M = k M' ∧ JS P M0 x (cM P x) M' := by
  have hM := hV.1.M x hx
  rw [i0]
  refine lpS (σ := Mem) (fun m i M1 => f_X12_starts_L100 Z x13 (nI x) v17 k m (nI i) M1) (fun q => ∃ M', q = k M' ∧ JS P M0 x (cM P x) M') (fun i M1 => JS P M0 x i M1) 0 (cM P x) (by omega) (by omega) h ?_ ?_
  · intro m i M1 _ hi hI K
    have e112 : gI M1 112 = P := by rw [hI.1.I (by decide)]; exact hP
    have K1 := K _ (hI.put hx (by omega))
    have ia : ((4 : Int32) + ((3 : Int32) * nI x)) + nI i = nI (4 + (x * 3 + i)) := by
      rw [show (4 : Int32) = nI 4 from rfl, show (3 : Int32) = nI 3 from rfl, nI_mul, nI_add, nI_add, Nat.mul_comm 3 x, Nat.add_assoc]
    have ib : ((22 : Int32) + ((3 : Int32) * nI x)) + nI i = nI (22 + (x * 3 + i)) := by
      rw [show (22 : Int32) = nI 22 from rfl, show (3 : Int32) = nI 3 from rfl, nI_mul, nI_add, nI_add, Nat.mul_comm 3 x, Nat.add_assoc]
    have ic : ((326 : Int32) + ((3 : Int32) * nI x)) + nI i = nI (326 + (x * 3 + i)) := by
      rw [show (326 : Int32) = nI 326 from rfl, show (3 : Int32) = nI 3 from rfl, nI_mul, nI_add, nI_add, Nat.mul_comm 3 x, Nat.add_assoc]
    have fin : ∀ v, v = wS P x i → wrI M1 109 54 (((4 : Int32) + ((3 : Int32) * nI x)) + nI i) (nI v) (fun M23 => wrI M23 109 54 (((22 : Int32) + ((3 : Int32) * nI x)) + nI i) (1 : Int32) (fun M24 => f_X12_starts_L100 Z x13 (nI x) v17 k m (nI i + (1 : Int32)) M24)) = f_X12_starts_L100 Z x13 (nI x) v17 k m (nI (i + 1)) (sI (sI M1 109 (4 + (x * 3 + i)) (nI (wS P x i))) 109 (22 + (x * 3 + i)) (nI 1)) := fun v hv => by
      rw [ia, ib, wrI_n (by omega) (by decide), wrI_n (by omega) (by decide), show nI i + (1 : Int32) = nI (i + 1) from nI_add i 1, hv]
      rfl
    rw [f_X12_starts_L100, show (8 : Int32) = nI 8 from rfl, nI_add, rdI_n (by omega) (by decide), e112, hM.1, if_neg (by rw [nI_ile (by omega) (by omega)]; omega), show (320 : Int32) = nI 320 from rfl, nI_add, rdI_n (by omega) (by decide), e112, jn_eq]
    by_cases c : P (320 + x) = nI 1
    · have w : wS P x i = pn P (326 + (x * 3 + i)) := if_pos c
      rw [if_pos (show P (320 + x) = (1 : Int32) from c), ic, rdI_n (by omega) (by decide), e112, (hV.1.1 (326 + (x * 3 + i)) (by omega) (by omega)).1]
      dsimp only
      rw [fin _ w.symm]
      exact K1
    · rw [if_neg (show ¬ P (320 + x) = (1 : Int32) from c)]
      by_cases d : i = 0
      · have w : wS P x i = 10 := by
          unfold wS
          rw [if_neg c, if_pos d]
        rw [if_pos (show nI i = (0 : Int32) by rw [d]; rfl)]
        have := fin 10 w.symm
        exact (Eq.subst (motive := fun q => ∃ M', q = k M' ∧ JS P M0 x (cM P x) M') this.symm K1)
      · have w : wS P x i = 0 := by
          unfold wS
          rw [if_neg c, if_neg d]
        rw [if_neg (show ¬ nI i = (0 : Int32) by rw [show (0 : Int32) = nI 0 from rfl, nI_eq (by omega) (by decide)]; exact d)]
        have := fin 0 w.symm
        exact (Eq.subst (motive := fun q => ∃ M', q = k M' ∧ JS P M0 x (cM P x) M') this.symm K1)
  · intro m M1 hI
    have e112 : gI M1 112 = P := by rw [hI.1.I (by decide)]; exact hP
    rw [f_X12_starts_L100, show (8 : Int32) = nI 8 from rfl, nI_add, rdI_n (by omega) (by decide), e112, hM.1, if_pos (by rw [nI_ile (by omega) (by omega)]; omega)]
    exact ⟨M1, rfl, hI⟩
theorem startsOut {Z : Nat} {P : Nat → Int32} {M0 : Mem} (hZ : 4000 < Z) (hV : VQ P) (hP : gI M0 112 = P) (h : JS P M0 0 0 M0) : ∃ M', f_X12_starts_L76 Z Z (0 : Int32) (0 : Int32) M0 = some (nI (sm (cN P) (cM P)), M') ∧ JS P M0 (cN P) 0 M' := by
  have hN := hV.1.N
  rw [i0]
  refine lpS (σ := Nat × Mem) (fun m i s => f_X12_starts_L76 Z m (nI s.1) (nI i) s.2) (fun q => ∃ M', q = some (nI (sm (cN P) (cM P)), M') ∧ JS P M0 (cN P) 0 M') (fun i s => s.1 = sm i (cM P) ∧ JS P M0 i 0 s.2) 0 (cN P) (s := (0, M0)) (by omega) (by omega) ⟨rfl, h⟩ ?_ ?_
  · intro m i s _ hi hI K
    obtain ⟨g1, g2⟩ := hI
    have hM := hV.1.M i (by omega)
    have e112 : gI s.2 112 = P := by rw [g2.1.I (by decide)]; exact hP
    obtain ⟨M', e1, j1⟩ := startsIn (x13 := nI s.1) (v17 := nI (cM P i)) hZ hV hP (by omega) g2 (fun (M27 : Mem) => f_X12_starts_L76 Z m (nI s.1 + nI (cM P i)) (nI i + (1 : Int32)) M27)
    have K1 := K (s.1 + cM P i, M') ⟨by rw [g1]; rfl, j1.next⟩
    show ∃ M', f_X12_starts_L76 Z (m + 1) (nI s.1) (nI i) s.2 = _ ∧ _
    rw [f_X12_starts_L76, show (0 : Int32) = nI 0 from rfl, rdI_n (by decide) (by decide), e112, hN.1, if_neg (by rw [nI_ile (by omega) (by omega)]; omega), show (8 : Int32) = nI 8 from rfl, nI_add, rdI_n (by omega) (by decide), e112, hM.1, show f_X12_starts_L100 Z (nI s.1) (nI i) (nI (cM P i)) (fun (M27 : Mem) => f_X12_starts_L76 Z m (nI s.1 + nI (cM P i)) (nI i + (1 : Int32)) M27) Z (nI 0) s.2 = _ from e1]
    rw [nI_add, show nI i + (1 : Int32) = nI (i + 1) from nI_add i 1]
    exact K1
  · intro m s hI
    obtain ⟨g1, g2⟩ := hI
    have e112 : gI s.2 112 = P := by rw [g2.1.I (by decide)]; exact hP
    show ∃ M', f_X12_starts_L76 Z (m + 1) (nI s.1) (nI (cN P)) s.2 = _ ∧ _
    rw [f_X12_starts_L76, show (0 : Int32) = nI 0 from rfl, rdI_n (by decide) (by decide), e112, hN.1, if_pos (by rw [nI_ile (by omega) (by omega)]; omega), g1]
    exact ⟨s.2, rfl, g2⟩
/-- the row of the settings that starts lays -/
theorem starts_ok {Z : Nat} {P : Nat → Int32} {M : Mem} (hZ : 4000 < Z) (hV : VQ P) (hP : gI M 112 = P) : ∃ M', f_X12_starts Z M = some (nI (sm (cN P) (cM P)), M') ∧ fr [109] M M' ∧ (∀ i, i < 3 → gI M' 109 i = P (2 + i)) ∧ gI M' 109 3 = -1 ∧ (∀ i, i < 3 → gI M' 109 (40 + i) = P (5 + i)) ∧ (∀ i, 43 ≤ i → i < 54 → gI M' 109 i = nI 0) ∧ ∀ y, y < 6 → ∀ a, a < 3 → (y < cN P ∧ a < cM P y → gI M' 109 (4 + (y * 3 + a)) = nI (wS P y a) ∧ gI M' 109 (22 + (y * 3 + a)) = nI 1) ∧ (¬ (y < cN P ∧ a < cM P y) → gI M' 109 (4 + (y * 3 + a)) = nI 0 ∧ gI M' 109 (22 + (y * 3 + a)) = nI 0) := by
  -- the row is emptied
  have z1 : ∀ k : Mem → Option (Int32 × Mem), ∃ M1, f_X12_starts_L4 Z k Z (0 : Int32) M = k M1 ∧ fr [109] M M1 ∧ ∀ i, i < 54 → gI M1 109 i = nI 0 := fun k => by
    rw [i0]
    refine lpS (σ := Mem) (fun m i M1 => f_X12_starts_L4 Z k m (nI i) M1) (fun q => ∃ M', q = k M' ∧ fr [109] M M' ∧ ∀ i, i < 54 → gI M' 109 i = nI 0) (fun i M1 => fr [109] M M1 ∧ ∀ j, j < i → gI M1 109 j = nI 0) 0 54 (by decide) (by omega) ⟨fr.rfl, fun j hj => absurd hj (by omega)⟩ ?_ ?_
    · intro m i M1 _ hi hI K
      have K1 := K (sI M1 109 i (nI 0)) ⟨fr_sI hI.1 (by decide), fun j hj => by
        rw [gI_sI]
        by_cases c : j = i
        · rw [if_pos ⟨rfl, c⟩]
        · rw [if_neg (fun z => c z.2)]
          exact hI.2 j (by omega)⟩
      rw [f_X12_starts_L4, if_neg (by rw [show (54 : Int32) = nI 54 from rfl, nI_ile (by decide) (by omega)]; omega), wrI_n (by omega) (by decide), show nI i + (1 : Int32) = nI (i + 1) from nI_add i 1]
      exact K1
    · intro m M1 hI
      rw [f_X12_starts_L4, if_pos (by decide)]
      exact ⟨M1, rfl, hI⟩
  have z2 : ∀ (k : Mem → Option (Int32 × Mem)) (M1 : Mem), fr [109] M M1 → (∀ i, i < 54 → gI M1 109 i = nI 0) → ∃ M2, f_X12_starts_L25 Z k Z (0 : Int32) M1 = k M2 ∧ fr [109] M M2 ∧ (∀ i, i < 3 → gI M2 109 i = P (2 + i) ∧ gI M2 109 (40 + i) = P (5 + i)) ∧ ∀ i, 3 ≤ i → i < 40 ∨ 43 ≤ i → i < 54 → gI M2 109 i = nI 0 := fun k M1 hf hz => by
    rw [i0]
    refine lpS (σ := Mem) (fun m i M1 => f_X12_starts_L25 Z k m (nI i) M1) (fun q => ∃ M2, q = k M2 ∧ fr [109] M M2 ∧ (∀ i, i < 3 → gI M2 109 i = P (2 + i) ∧ gI M2 109 (40 + i) = P (5 + i)) ∧ ∀ i, 3 ≤ i → i < 40 ∨ 43 ≤ i → i < 54 → gI M2 109 i = nI 0) (fun i M2 => fr [109] M M2 ∧ (∀ j, j < i → gI M2 109 j = P (2 + j) ∧ gI M2 109 (40 + j) = P (5 + j)) ∧ ∀ j, 3 ≤ j → j < 40 ∨ 43 ≤ j → j < 54 → gI M2 109 j = nI 0) 0 3 (by decide) (by omega) ⟨hf, fun j hj => absurd hj (by omega), fun j _ _ h => hz j h⟩ ?_ ?_
    · intro m i M2 _ hi hI K
      obtain ⟨g1, g2, g3⟩ := hI
      have e112 : gI M2 112 = P := by rw [g1.I (by decide)]; exact hP
      have K1 := K (sI (sI M2 109 i (P (2 + i))) 109 (40 + i) (P (5 + i))) ⟨fr_sI (fr_sI g1 (by decide)) (by decide), fun j hj => by
        rw [gI_sI, if_neg (fun z => by have := z.2; omega), gI_sI, gI_sI]
        by_cases c : j = i
        · rw [if_pos ⟨rfl, c⟩, if_pos ⟨rfl, by omega⟩, c]
          exact ⟨rfl, rfl⟩
        · rw [if_neg (fun z => c z.2), if_neg (fun z => c (by have := z.2; omega)), gI_sI, if_neg (fun z => by have := z.2; omega)]
          exact g2 j (by omega), fun j h1 h2 h3 => by
        rw [gI_sI, if_neg (fun z => by have := z.2; omega), gI_sI, if_neg (fun z => by have := z.2; omega)]
        exact g3 j h1 h2 h3⟩
      rw [f_X12_starts_L25, if_neg (by rw [show (3 : Int32) = nI 3 from rfl, nI_ile (by decide) (by omega)]; omega), show (2 : Int32) = nI 2 from rfl, nI_add, rdI_n (by omega) (by decide), e112, wrI_n (by omega) (by decide), show (5 : Int32) = nI 5 from rfl, nI_add, rdI_n (by omega) (by decide), gI_sI', if_neg (show ¬ (112 : Nat) = 109 by decide), e112, show (40 : Int32) = nI 40 from rfl, nI_add, wrI_n (by omega) (by decide), show nI i + (1 : Int32) = nI (i + 1) from nI_add i 1]
      exact K1
    · intro m M2 hI
      rw [f_X12_starts_L25, if_pos (by decide)]
      exact ⟨M2, rfl, hI⟩
  unfold f_X12_starts
  obtain ⟨M1, e1, f1, w1⟩ := z1 (fun (M4 : Mem) => f_X12_starts_L25 Z (fun (M11 : Mem) => wrI M11 109 54 (3 : Int32) (-1 : Int32) (fun M12 => f_X12_starts_L76 Z Z (0 : Int32) (0 : Int32) M12)) Z (0 : Int32) M4)
  obtain ⟨M2, e2, f2, w2, w3⟩ := z2 (fun (M11 : Mem) => wrI M11 109 54 (3 : Int32) (-1 : Int32) (fun M12 => f_X12_starts_L76 Z Z (0 : Int32) (0 : Int32) M12)) M1 f1 w1
  rw [e1, e2]
  try dsimp only
  rw [show (3 : Int32) = nI 3 from rfl, wrI_n (by decide) (by decide)]
  have f3 : fr [109] M (sI M2 109 3 (-1 : Int32)) := fr_sI f2 (by decide)
  have v3 : gI (sI M2 109 3 (-1 : Int32)) 109 3 = -1 := by rw [gI_sI, if_pos ⟨rfl, rfl⟩]
  have vo : ∀ i, i ≠ 3 → gI (sI M2 109 3 (-1 : Int32)) 109 i = gI M2 109 i := fun i hi => by rw [gI_sI, if_neg (fun z => hi z.2)]
  generalize sI M2 109 3 (-1 : Int32) = M3 at *
  have hJ : JS P M3 0 0 M3 := by
    refine ⟨fr.rfl, fun _ _ => rfl, fun y hy a ha => ⟨fun d => ?_, fun _ => ?_⟩⟩
    · rcases d with ⟨d1, _⟩ | ⟨_, d2⟩
      · exact absurd d1 (by omega)
      · exact absurd d2 (by omega)
    · rw [vo _ (by omega), vo _ (by omega)]
      exact ⟨w3 _ (by omega) (by omega) (by omega), w3 _ (by omega) (by omega) (by omega)⟩
  obtain ⟨M4, e4, j4⟩ := startsOut hZ hV (by rw [f3.I (by decide)]; exact hP) hJ
  obtain ⟨g1, g2, g3⟩ := j4
  refine ⟨M4, e4, f3.trans g1, fun i hi => ?_, ?_, fun i hi => ?_, fun i h1 h2 => ?_, fun y hy a ha => ?_⟩
  · rw [g2 i (by omega), vo i (by omega)]
    exact (w2 i hi).1
  · rw [g2 3 (by omega)]
    exact v3
  · rw [g2 _ (by omega), vo _ (by omega)]
    exact (w2 i hi).2
  · rw [g2 _ (by omega), vo _ (by omega)]
    exact w3 i (by omega) (by omega) h2
  · obtain ⟨r1, r2⟩ := g3 y hy a ha
    refine ⟨fun z => r1 (Or.inl z), fun z => r2 (fun d => ?_)⟩
    rcases d with d | ⟨_, d2⟩
    · exact z d
    · exact absurd d2 (by omega)
