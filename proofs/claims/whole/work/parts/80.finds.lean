/-! the reference's best pure set -/
theorem givesAll_ok {Z : Nat} {M : Mem} (hZ : 10 < Z) {x a : Nat} (hx : x < 6) (ha : a < 3) : ∃ M', f_X12_givesAll Z M (nI x) (nI a) = some ((), M') ∧ fr [109] M M' ∧ ∀ i, gI M' 109 i = if 4 + x * 3 ≤ i ∧ i < 4 + x * 3 + 3 then (if i = 4 + x * 3 + a then nI 10 else nI 0) else gI M 109 i := by
  unfold f_X12_givesAll
  rw [i0]
  refine lpS (σ := Mem) (fun n k M' => f_X12_givesAll_L2 Z (nI x) (nI a) n (nI k) M') (fun q => ∃ M', q = some ((), M') ∧ fr [109] M M' ∧ ∀ i, gI M' 109 i = if 4 + x * 3 ≤ i ∧ i < 4 + x * 3 + 3 then (if i = 4 + x * 3 + a then nI 10 else nI 0) else gI M 109 i) (fun k M' => fr [109] M M' ∧ ∀ i, gI M' 109 i = if 4 + x * 3 ≤ i ∧ i < 4 + x * 3 + k then (if i = 4 + x * 3 + a then nI 10 else nI 0) else gI M 109 i) 0 3 (by omega) (by omega) ⟨fr.rfl, fun i => by rw [if_neg (by omega)]⟩ ?_ ?_
  · intro n k M' _ hk hI K
    obtain ⟨g1, g2⟩ := hI
    have K1 := K (sI M' 109 (4 + x * 3 + k) (if k = a then nI 10 else nI 0)) ⟨fr_sI g1 (by decide), fun i => by
      rw [gI_sI, g2]
      by_cases d : i = 4 + x * 3 + k
      · rw [if_pos ⟨rfl, d⟩, if_pos (show 4 + x * 3 ≤ i ∧ i < 4 + x * 3 + (k + 1) by omega)]
        by_cases e : k = a
        · rw [if_pos e, if_pos (by omega)]
        · rw [if_neg e, if_neg (by omega)]
      · rw [if_neg (fun z => d z.2)]
        by_cases e : 4 + x * 3 ≤ i ∧ i < 4 + x * 3 + k
        · rw [if_pos e, if_pos (show 4 + x * 3 ≤ i ∧ i < 4 + x * 3 + (k + 1) by omega)]
        · rw [if_neg e, if_neg (show ¬ (4 + x * 3 ≤ i ∧ i < 4 + x * 3 + (k + 1)) by omega)]⟩
    have ev : (if nI k = nI a then (10 : Int32) else (0 : Int32)) = if k = a then nI 10 else nI 0 := by
      by_cases e : k = a
      · rw [if_pos e, if_pos (by rw [e])]
        rfl
      · rw [if_neg e, if_neg (fun z => e ((nI_eq (by omega) (by omega)).mp z))]
        rfl
    rw [f_X12_givesAll_L2, if_neg (by rw [show (3 : Int32) = nI 3 from rfl, nI_ile (by decide) (by omega)]; omega), jnT]
    rw [ev, show (4 : Int32) = nI 4 from rfl, show (3 : Int32) = nI 3 from rfl, nI_mul, nI_add, nI_add, mc3, wrI_n (by omega) (by decide), i1, nI_add]
    exact K1
  · intro n M' hI
    rw [f_X12_givesAll_L2, if_pos (by decide)]
    exact ⟨M', rfl, hI.1, hI.2⟩
theorem takesPure_ok {Z : Nat} {M : Mem} {P : Nat → Int32} (hV : VP P) (hP : gI M 112 = P) (hZ : 10 < Z) {c : Nat → Nat} (hc : CHo P c) (h9 : ∀ y, y < cN P → gI M 121 y = nI (c y)) : ∃ M', f_X12_takesPure Z M = some ((), M') ∧ fr [109] M M' ∧ ∀ i, gI M' 109 i = if 4 ≤ i ∧ i < 4 + 3 * cN P then nI (wPure c (i - 4)) else gI M 109 i := by
  have hN := hV.2.1.2.1
  have hc3 : ∀ y, y < cN P → c y < 3 := fun y hy => by have := hc y hy; have := hV.sz.2.1 y; omega
  unfold f_X12_takesPure
  rw [i0]
  refine lpS (σ := Mem) (fun n x M' => f_X12_takesPure_L2 Z n (nI x) M') (fun q => ∃ M', q = some ((), M') ∧ fr [109] M M' ∧ ∀ i, gI M' 109 i = if 4 ≤ i ∧ i < 4 + 3 * cN P then nI (wPure c (i - 4)) else gI M 109 i) (fun x M' => fr [109] M M' ∧ ∀ i, gI M' 109 i = if 4 ≤ i ∧ i < 4 + 3 * x then nI (wPure c (i - 4)) else gI M 109 i) 0 (cN P) (by omega) (by omega) ⟨fr.rfl, fun i => by rw [if_neg (by omega)]⟩ ?_ ?_
  · intro n x M' _ hx hI K
    obtain ⟨g1, g2⟩ := hI
    have h3 := hc3 x hx
    obtain ⟨M2, e2, f2, q2⟩ := givesAll_ok (Z := Z) (M := M') hZ (x := x) (a := c x) (by omega) h3
    have K1 := K M2 ⟨g1.trans f2, fun i => by
      rw [q2, g2]
      unfold wPure
      by_cases d : 4 + x * 3 ≤ i ∧ i < 4 + x * 3 + 3
      · rw [if_pos d, if_pos (show 4 ≤ i ∧ i < 4 + 3 * (x + 1) by omega), show (i - 4) / 3 = x by omega]
        by_cases e : i = 4 + x * 3 + c x
        · rw [if_pos e, if_pos (by omega)]
        · rw [if_neg e, if_neg (by omega)]
      · rw [if_neg d]
        by_cases e : 4 ≤ i ∧ i < 4 + 3 * x
        · rw [if_pos e, if_pos (show 4 ≤ i ∧ i < 4 + 3 * (x + 1) by omega)]
        · rw [if_neg e, if_neg (show ¬ (4 ≤ i ∧ i < 4 + 3 * (x + 1)) by omega)]⟩
    rw [f_X12_takesPure_L2, i0, rdI_n (by decide) (by decide), g1.I (by decide), hP, hV.n, if_neg (by rw [nI_ile (by omega) (by omega)]; omega), rdI_n (by omega) (by decide), g1.I (by decide), h9 x hx, e2, cl_some, i1, nI_add]
    exact K1
  · intro n M' hI
    rw [f_X12_takesPure_L2, i0, rdI_n (by decide) (by decide), hI.1.I (by decide), hP, hV.n, if_pos (by rw [nI_ile (by omega) (by omega)]; omega)]
    exact ⟨M', rfl, hI.1, hI.2⟩
theorem keepsBest_ok {Z : Nat} {M : Mem} {P : Nat → Int32} (hV : VP P) (hP : gI M 112 = P) (hZ : 10 < Z) {c : Nat → Nat} (h9 : ∀ y, y < cN P → gI M 121 y = nI (c y)) {n : Nat} (hn : n < 1000) (h28 : gI M 108 28 = nI (n + 1)) {g B : Int64} (h29 : gL M 108 29 = B) : ∃ M', f_X12_keepsBest Z M g = some ((), M') ∧ fr [108, 122] M M' ∧ gI M' 108 = gI M 108 ∧ gL M' 108 29 = (if n = 0 ∨ B < g then g else B) ∧ ((n = 0 ∨ B < g) → ∀ y, y < cN P → gI M' 122 y = nI (c y)) ∧ (¬ (n = 0 ∨ B < g) → gI M' 122 = gI M 122) := by
  have hN := hV.2.1.2.1
  have put : ∀ (hh : n = 0 ∨ B < g), ∃ M', f_X12_keepsBest_L25 Z Z (0 : Int32) (sL M 108 29 g) = some ((), M') ∧ fr [108, 122] M M' ∧ gI M' 108 = gI M 108 ∧ gL M' 108 29 = (if n = 0 ∨ B < g then g else B) ∧ ((n = 0 ∨ B < g) → ∀ y, y < cN P → gI M' 122 y = nI (c y)) ∧ (¬ (n = 0 ∨ B < g) → gI M' 122 = gI M 122) := fun hh => by
    rw [i0]
    refine lpS (σ := Mem) (fun m x M' => f_X12_keepsBest_L25 Z m (nI x) M') (fun q => ∃ M', q = some ((), M') ∧ fr [108, 122] M M' ∧ gI M' 108 = gI M 108 ∧ gL M' 108 29 = (if n = 0 ∨ B < g then g else B) ∧ ((n = 0 ∨ B < g) → ∀ y, y < cN P → gI M' 122 y = nI (c y)) ∧ (¬ (n = 0 ∨ B < g) → gI M' 122 = gI M 122)) (fun x M' => fr [122] (sL M 108 29 g) M' ∧ ∀ y, y < x → gI M' 122 y = nI (c y)) 0 (cN P) (by omega) (by omega) ⟨fr.rfl, fun y hy => absurd hy (by omega)⟩ ?_ ?_
    · intro m x M' _ hx hI K
      obtain ⟨g1, g2⟩ := hI
      have K1 := K (sI M' 122 x (nI (c x))) ⟨fr_sI g1 (by decide), fun y hy => by
        rw [gI_sI]
        by_cases d : y = x
        · rw [if_pos ⟨rfl, d⟩, d]
        · rw [if_neg (fun z => d z.2)]
          exact g2 y (by omega)⟩
      rw [f_X12_keepsBest_L25, i0, rdI_n (by decide) (by decide), g1.I (by decide), gI_sL', hP, hV.n, if_neg (by rw [nI_ile (by omega) (by omega)]; omega), rdI_n (by omega) (by decide), g1.I (by decide), gI_sL', h9 x hx, wrI_n (by omega) (by decide), i1, nI_add]
      exact K1
    · intro m M' hI
      rw [f_X12_keepsBest_L25, i0, rdI_n (by decide) (by decide), hI.1.I (by decide), gI_sL', hP, hV.n, if_pos (by rw [nI_ile (by omega) (by omega)]; omega)]
      refine ⟨M', rfl, (fr_sL fr.rfl (by decide)).trans (hI.1.mono (by decide)), by rw [hI.1.I (by decide), gI_sL'], by rw [hI.1.L (by decide), gL_sL, if_pos ⟨rfl, rfl⟩, if_pos hh], fun _ => hI.2, fun z => absurd hh z⟩
  unfold f_X12_keepsBest
  rw [bd_eq, h28, jn_eq]
  by_cases d : n = 0
  · rw [if_pos (by rw [show (1 : Int32) = nI 1 from rfl, nI_ile (by omega) (by decide)]; omega), bd_eq]
    exact put (Or.inl d)
  · rw [if_neg (by rw [show (1 : Int32) = nI 1 from rfl, nI_ile (by omega) (by decide)]; omega), bd_eq, h29]
    by_cases e : B < g
    · rw [if_pos e, bd_eq]
      exact put (Or.inr e)
    · have hn : ¬ (n = 0 ∨ B < g) := fun z => z.elim d e
      rw [if_neg e]
      exact ⟨M, rfl, fr.rfl, rfl, by rw [if_neg hn]; exact h29, fun z => absurd z hn, fun _ => rfl⟩
/-- the weights while a pure set is tried -/
def wMix (P : Nat → Int32) (c W0 : Nat → Nat) (r : Nat) : Nat := if r < 3 * cN P then wPure c r else W0 r
theorem wMix_eq {P : Nat → Int32} {c W0 : Nat → Nat} (hm : ∀ x, cM P x ≤ 3) : ∀ x, x < cN P → ∀ a, a < cM P x → wMix P c W0 (x * 3 + a) = wPure c (x * 3 + a) := fun x hx a ha => by
  have := hm x
  unfold wMix
  rw [if_pos (by omega)]
theorem wMix_WOK {P : Nat → Int32} (hV : VP P) {c W0 : Nat → Nat} (h : CHo P c) (h0 : ∀ r, W0 r ≤ 10) : WOK P (wMix P c W0) := by
  refine ⟨fun r => ?_, fun x hx => ?_⟩
  · unfold wMix
    split
    · exact wPure_lt
    · exact h0 r
  · rw [sm_congr (fun a ha => wMix_eq (W0 := W0) hV.sz.2.1 x hx a ha)]
    exact (wPure_WOK hV h).2 x hx
/-- a pure set is taken -/
theorem taken {Z : Nat} {M : Mem} {P : Nat → Int32} (hV : VP P) (hP : gI M 112 = P) (hZ : 10 < Z) {st H : Nat} {W0 : Nat → Nat} (h0 : gI M 109 0 = nI st) (h1 : gI M 109 1 = nI H) (hW0 : ∀ r, 3 * cN P ≤ r → r < 18 → gI M 109 (4 + r) = nI (W0 r)) {c : Nat → Nat} (hc : CHo P c) (h9 : ∀ y, y < cN P → gI M 121 y = nI (c y)) : ∃ M', f_X12_takesPure Z M = some ((), M') ∧ fr [109] M M' ∧ (∀ i, i < 4 ∨ 4 + 3 * cN P ≤ i → gI M' 109 i = gI M 109 i) ∧ SR M' st H (wMix P c W0) := by
  obtain ⟨M2, e2, f2, q2⟩ := takesPure_ok (Z := Z) hV hP hZ hc h9
  refine ⟨M2, e2, f2, fun i hi => by rw [q2, if_neg (by omega)], by rw [q2, if_neg (by omega)]; exact h0, by rw [q2, if_neg (by omega)]; exact h1, fun r hr => ?_⟩
  rw [q2]
  unfold wMix
  by_cases d : r < 3 * cN P
  · rw [if_pos (by omega), if_pos d, show 4 + r - 4 = r by omega]
  · rw [if_neg (by omega), if_neg d]
    exact hW0 r (by omega) hr
def lG : List Nat := [108, 109, 110, 116, 121, 122]
theorem findsBest_ok {Z : Nat} {M : Mem} {P S : Nat → Int32} (hV : VP P) (hP : gI M 112 = P) (hZ : 4000 < Z) {st H : Nat} {W0 : Nat → Nat} (hSR : SR M st H W0) (hW0 : ∀ r, W0 r ≤ 10) (hSp : ∀ i, 22 ≤ i → i < 40 → gI M 109 i = S i) (hst : st < cN P) (h1 : 1 ≤ H) (hH : H ≤ 5) {lim : Nat → Nat} (hl : LimR M lim) {K : Nat} (k1 : 1 ≤ K) (k2 : K ≤ 729) (k3 : ∀ k, k < K → ∃ c, cho P k = some c) (k4 : cho P K = none) :
    ∃ M', f_X12_findsBest Z M = some ((FB P S st H lim K).2.1, M') ∧ fr lG M M' ∧ (∀ i, i < 54 → gI M' 109 i = gI M 109 i) ∧ (∀ j, 54 ≤ j → gI M' 110 j = gI M 110 j) ∧ (∀ j, j ≠ 28 → gI M' 108 j = gI M 108 j) ∧ gI M' 108 28 = nI (FB P S st H lim K).1 ∧ gL M' 108 29 = (FB P S st H lim K).2.1 ∧ (0 < (FB P S st H lim K).1 → ∀ y, y < cN P → gI M' 122 y = nI ((FB P S st H lim K).2.2 y)) := by
  have hN := hV.2.1
  obtain ⟨M0, e0, f0, t0, u0, s0⟩ := beginsPure_ok (Z := Z) (M := M) hV hP (by omega)
  unfold f_X12_findsBest
  rw [e0, cl_some, bd_eq, bd_eq]
  generalize hM1 : sL (sI M0 108 28 0) 108 29 (-9223372036854775808 : Int64) = M1
  have f1 : fr [108] M0 M1 := by
    rw [← hM1]
    exact fr_sL (fr_sI fr.rfl (by decide)) (by decide)
  have f01 : fr lG M M1 := (f0.mono (by decide)).trans (f1.mono (by decide))
  have j28 : ∀ j, j ≠ 28 → gI M1 108 j = gI M 108 j := fun j hj => by rw [← hM1, gI_sL, gI_sI, if_neg (fun z => hj z.2), f0.I (by decide)]
  have c28 : gI M1 108 28 = nI 0 := by rw [← hM1, gI_sL, gI_sI, if_pos ⟨rfl, rfl⟩]; rfl
  have c29 : gL M1 108 29 = -9223372036854775808 := by rw [← hM1, gL_sL, if_pos ⟨rfl, rfl⟩]
  have j109 : gI M1 109 = gI M 109 := by rw [f1.I (by decide), f0.I (by decide)]
  have s1 : SetR P M1 0 (fun _ => 0) := s0.fr f1 (by decide)
  refine lpS (σ := Int32 × Mem) (fun n _ s => f_X12_findsBest_L18 Z (fun (M29 : Mem) => cl (f_X12_fetches Z M29 (0 : Int32)) (fun v30 M31 => bd (gL M31 (108) 29) (fun v32 => some (v32, M31)))) n s.1 s.2) (fun q => ∃ M', q = some ((FB P S st H lim K).2.1, M') ∧ fr lG M M' ∧ (∀ i, i < 54 → gI M' 109 i = gI M 109 i) ∧ (∀ j, 54 ≤ j → gI M' 110 j = gI M 110 j) ∧ (∀ j, j ≠ 28 → gI M' 108 j = gI M 108 j) ∧ gI M' 108 28 = nI (FB P S st H lim K).1 ∧ gL M' 108 29 = (FB P S st H lim K).2.1 ∧ (0 < (FB P S st H lim K).1 → ∀ y, y < cN P → gI M' 122 y = nI ((FB P S st H lim K).2.2 y)))
    (fun k s => fr [108, 109, 116, 121, 122] M1 s.2 ∧ (∀ i, i < 4 ∨ 4 + 3 * cN P ≤ i → gI s.2 109 i = gI M 109 i) ∧ (∀ j, j ≠ 28 → gI s.2 108 j = gI M 108 j) ∧ gI s.2 108 28 = nI (FB P S st H lim k).1 ∧ gL s.2 108 29 = (FB P S st H lim k).2.1 ∧ (0 < (FB P S st H lim k).1 → ∀ y, y < cN P → gI s.2 122 y = nI ((FB P S st H lim k).2.2 y)) ∧ (k < K → s.1 = 1 ∧ ∃ c, SetR P s.2 k c) ∧ (k = K → s.1 = 0)) 0 K (s := (1, M1)) (by omega) (by omega) ⟨fr.rfl, fun i _ => by rw [j109], j28, c28, c29, fun z => absurd z (Nat.lt_irrefl 0), fun _ => ⟨rfl, _, s1⟩, fun z => absurd z (by omega)⟩ ?_ ?_
  · intro n k s _ hk hI KK
    obtain ⟨x5, M2⟩ := s
    obtain ⟨g1, g2, g3, g4, g5, g6, g7, _⟩ := hI
    obtain ⟨e6, c, hs⟩ := g7 hk
    dsimp only at g1 g2 g3 g4 g5 g6 e6 hs KK ⊢
    subst e6
    have hch := (cho_ok hV k c hs.1).1
    have hK := wMix_WOK hV hch hW0
    have hF := FB_ok (S := S) (st := st) (lim := lim) hV h1 hH k
    have p2 : gI M2 112 = P := by rw [g1.I (by decide), f01.I (by decide)]; exact hP
    have cong := wMix_eq (P := P) (c := c) (W0 := W0) hV.sz.2.1
    obtain ⟨M3, e3, f3, q3, r3⟩ := taken (Z := Z) (M := M2) hV p2 (by omega) (by rw [g2 0 (by omega)]; exact hSR.1) (by rw [g2 1 (by omega)]; exact hSR.2.1) (fun r a b => by rw [g2 (4 + r) (by omega)]; exact hSR.2.2 r b) hch hs.2
    have p3 : gI M3 112 = P := by rw [f3.I (by decide)]; exact p2
    have s3 : SetR P M3 k c := hs.fr f3 (by decide)
    have q3' : ∀ i, i < 4 ∨ 4 + 3 * cN P ≤ i → gI M3 109 i = gI M 109 i := fun i hi => by rw [q3 i hi, g2 i hi]
    have tail : ∀ M4, fr [108, 116, 122] M3 M4 → (∀ j, j ≠ 28 → gI M4 108 j = gI M 108 j) → gI M4 108 28 = nI (FB P S st H lim (k + 1)).1 → gL M4 108 29 = (FB P S st H lim (k + 1)).2.1 → (0 < (FB P S st H lim (k + 1)).1 → ∀ y, y < cN P → gI M4 122 y = nI ((FB P S st H lim (k + 1)).2.2 y)) → ∃ M', cl (f_X12_turns Z M4) (fun v12 M13 => f_X12_findsBest_L18 Z (fun (M29 : Mem) => cl (f_X12_fetches Z M29 (0 : Int32)) (fun v30 M31 => bd (gL M31 (108) 29) (fun v32 => some (v32, M31)))) n v12 M13) = some ((FB P S st H lim K).2.1, M') ∧ fr lG M M' ∧ (∀ i, i < 54 → gI M' 109 i = gI M 109 i) ∧ (∀ j, 54 ≤ j → gI M' 110 j = gI M 110 j) ∧ (∀ j, j ≠ 28 → gI M' 108 j = gI M 108 j) ∧ gI M' 108 28 = nI (FB P S st H lim K).1 ∧ gL M' 108 29 = (FB P S st H lim K).2.1 ∧ (0 < (FB P S st H lim K).1 → ∀ y, y < cN P → gI M' 122 y = nI ((FB P S st H lim K).2.2 y)) := fun M4 f4 a1 a2 a3 a4 => by
      obtain ⟨bb, M5, e5, f5, alt⟩ := turns_ok (Z := Z) (M := M4) hV (by rw [f4.I (by decide)]; exact p3) (by omega) (s3.fr f4 (by decide))
      rw [e5, cl_some]
      refine KK (bb, M5) ⟨((g1.trans (f3.mono (by decide))).trans (f4.mono (by decide))).trans (f5.mono (by decide)), fun i hi => by rw [f5.I (by decide), f4.I (by decide)]; exact q3' i hi, fun j hj => by rw [f5.I (by decide)]; exact a1 j hj, by rw [f5.I (by decide)]; exact a2, by rw [f5.L (by decide)]; exact a3, fun z y hy => by rw [f5.I (by decide)]; exact a4 z y hy, fun hlt => ?_, fun heq => ?_⟩
      · rcases alt with ⟨b1, b2⟩ | ⟨_, b2⟩
        · exact ⟨b1, b2⟩
        · obtain ⟨c2, hc2⟩ := k3 (k + 1) hlt
          exact absurd (hc2.symm.trans b2) (by simp)
      · rcases alt with ⟨_, c2, b2⟩ | ⟨b1, _⟩
        · have := b2.1
          rw [heq, k4] at this
          exact absurd this (by simp)
        · exact b1
    have g3' : ∀ j, j ≠ 28 → gI M3 108 j = gI M 108 j := fun j hj => by rw [f3.I (by decide)]; exact g3 j hj
    have g4' : gI M3 108 28 = nI (FB P S st H lim k).1 := by rw [f3.I (by decide)]; exact g4
    have g5' : gL M3 108 29 = (FB P S st H lim k).2.1 := by rw [f3.L (by decide)]; exact g5
    have g6' : 0 < (FB P S st H lim k).1 → ∀ y, y < cN P → gI M3 122 y = nI ((FB P S st H lim k).2.2 y) := fun z y hy => by rw [f3.I (by decide)]; exact g6 z y hy
    have eF := FB_s (S := S) (st := st) (H := H) (lim := lim) hs.1
    rw [f_X12_findsBest_L18, if_neg (by decide), e3, cl_some, isAllowed_eq (S := S) hV p3 (fun i a b => by rw [q3' i (by omega)]; exact hSp i a b) (by omega) hch s3.2, cl_some, jn_eq]
    by_cases b1 : al S c (cN P) = true
    · obtain ⟨v, M4, e4, f4, hv⟩ := brokenNow_ok (Z := Z) (M := M3) hV p3 (by omega) r3 hK hst h1 hH (lim := lim) (fun b hb => by rw [q3' (40 + b) (by omega)]; exact hl b hb)
      have hv0 : (v = 0) = (hd P (wPure c) st H lim (cB P) = true) := by rw [hv, brk_hd hN.2.2, hd_congr cong]
      rw [if_neg (by rw [bN0, b1]; decide), e4, cl_some]
      by_cases b2 : hd P (wPure c) st H lim (cB P) = true
      · have eo : okS P S st H lim c = true := by
          unfold okS
          rw [b1, b2]
          rfl
        rw [if_pos eo] at eF
        have hF1 := hF.1
        have w28 : gI M4 108 28 + 1 = nI ((FB P S st H lim k).1 + 1) := by
          rw [f4.I (by decide), g4']
          exact nI_add _ 1
        have f5 : fr [108] M4 (sI M4 108 28 (nI ((FB P S st H lim k).1 + 1))) := fr_sI fr.rfl (by decide)
        rw [if_pos (by rw [hv0]; exact b2), bd_eq, bd_eq, w28]
        generalize hM5 : sI M4 108 28 (nI ((FB P S st H lim k).1 + 1)) = M5 at f5
        have g35 : fr [108, 116] M3 M5 := (f4.mono (by decide)).trans (f5.mono (by decide))
        have p5 : gI M5 112 = P := by rw [g35.I (by decide)]; exact p3
        have r5 : SR M5 st H (wMix P c W0) := by
          unfold SR
          rw [g35.I (by decide)]
          exact r3
        obtain ⟨v6, M6, e6, f6, hv6⟩ := rGainW (Z := Z) (M := M5) hV p5 (by omega) r5 hK hst h1 hH
        rw [gRun_congr cong] at hv6
        have g36 : fr [108, 116] M3 M6 := g35.trans (f6.mono (by decide))
        obtain ⟨M7, e7, f7, z1, z2, z3, z4⟩ := keepsBest_ok (Z := Z) (M := M6) hV (by rw [g36.I (by decide)]; exact p3) (by omega) (c := c) (fun y hy => by rw [g36.I (by decide)]; exact s3.2 y hy) (n := (FB P S st H lim k).1) (by omega) (by rw [f6.I (by decide), ← hM5, gI_sI, if_pos ⟨rfl, rfl⟩]) (g := gRun P (wPure c) st H) (B := (FB P S st H lim k).2.1) (by rw [f6.L (by decide), ← hM5, gL_sI', f4.L (by decide)]; exact g5')
        rw [e6, cl_some, hv6, e7, cl_some]
        have g37 : fr [108, 116, 122] M3 M7 := (g36.mono (by decide)).trans (f7.mono (by decide))
        have e28 : ∀ j, gI M7 108 j = if j = 28 then nI ((FB P S st H lim k).1 + 1) else gI M3 108 j := fun j => by
          rw [z1, f6.I (by decide), ← hM5, gI_sI, f4.I (by decide)]
          simp only [true_and]
        refine tail M7 g37 (fun j hj => by rw [e28, if_neg hj]; exact g3' j hj) (by rw [e28, if_pos rfl, eF]) ?_ ?_
        · rw [z2, eF]
          split <;> rfl
        · rw [eF]
          dsimp only
          intro _ y hy
          by_cases d : (FB P S st H lim k).1 = 0 ∨ (FB P S st H lim k).2.1 < gRun P (wPure c) st H
          · rw [if_pos d]
            exact z3 d y hy
          · rw [if_neg d, z4 d, g36.I (by decide)]
            exact g6' (by omega) y hy
      · have b3 : hd P (wPure c) st H lim (cB P) = false := by simpa using b2
        have eo : ¬ okS P S st H lim c = true := by
          unfold okS
          rw [b3, Bool.and_false]
          decide
        rw [if_neg eo] at eF
        rw [if_neg (by rw [hv0]; exact b2)]
        exact tail M4 (f4.mono (by decide)) (fun j hj => by rw [f4.I (by decide)]; exact g3' j hj) (by rw [f4.I (by decide), eF]; exact g4') (by rw [f4.L (by decide), eF]; exact g5') (by rw [eF, f4.I (by decide)]; exact g6')
    · have b3 : al S c (cN P) = false := by simpa using b1
      have eo : ¬ okS P S st H lim c = true := by
        unfold okS
        rw [b3, Bool.false_and]
        decide
      rw [if_neg eo] at eF
      rw [if_pos (by rw [bN0]; exact b3)]
      exact tail M3 fr.rfl g3' (by rw [eF]; exact g4') (by rw [eF]; exact g5') (by rw [eF]; exact g6')
  · intro n s hI
    obtain ⟨x5, M2⟩ := s
    obtain ⟨g1, g2, g3, g4, g5, g6, _, g8⟩ := hI
    dsimp only at g1 g2 g3 g4 g5 g6 g8 ⊢
    have e6 := g8 rfl
    subst e6
    obtain ⟨_, M3, e3, f3, q3⟩ := fetches_ok (Z := Z) (M := M2) (by omega) (r := 0) (by decide)
    rw [f_X12_findsBest_L18, if_pos rfl, show (0 : Int32) = nI 0 from rfl, e3, cl_some, bd_eq, f3.L (by decide), g5]
    refine ⟨M3, rfl, (f01.trans (g1.mono (by decide))).trans (f3.mono (by decide)), fun i hi => ?_, fun j hj => ?_, fun j hj => by rw [f3.I (by decide)]; exact g3 j hj, by rw [f3.I (by decide)]; exact g4, by rw [f3.L (by decide)]; exact g5, fun z y hy => by rw [f3.I (by decide)]; exact g6 z y hy⟩
    · rw [q3 i hi, Nat.zero_mul, Nat.zero_add, g1.I (by decide), f1.I (by decide), t0 i hi]
    · rw [f3.I (by decide), g1.I (by decide), f1.I (by decide), u0 j hj]
