/-! leastLimit in the reference -/
theorem hd_iff {P : Nat → Int32} {W : Nat → Nat} {st H : Nat} {lim : Nat → Nat} : ∀ n, (hd P W st H lim n = true) = (∀ y, y < n → brG P W st H lim y = false)
  | 0 => propext ⟨fun _ y hy => absurd hy (by omega), fun _ => rfl⟩
  | n + 1 => by
    have e : hd P W st H lim (n + 1) = (hd P W st H lim n && !brG P W st H lim n) := rfl
    rw [e, Bool.and_eq_true, hd_iff n]
    refine propext ⟨fun h y hy => ?_, fun h => ⟨fun y hy => h y (by omega), by rw [h n (by omega)]; rfl⟩⟩
    by_cases c : y = n
    · rw [c]
      simpa using h.2
    · exact h.1 y (by omega)
theorem shl1 : ∀ b, b < 3 → (1 : Int32) <<< (nI b &&& 31) = nI (2 ^ b) := by decide
theorem bit1 : ∀ b, b < 3 → ∀ y, y < 3 → (2 ^ b / 2 ^ y % 2 = 1) = (y = b) := by decide
theorem brG_c {P : Nat → Int32} {W : Nat → Nat} {st H y : Nat} {lim lim' : Nat → Nat} (h : lim y = lim' y) : brG P W st H lim y = brG P W st H lim' y := by
  unfold brG
  rw [h]
theorem notB {P : Nat → Int32} {W : Nat → Nat} {st H : Nat} {lim : Nat → Nat} (hV : VP P) (hK : WOK P W) (h1 : 1 ≤ H) (hH : H ≤ 5) {b : Nat} (hb : b < cB P) : (brk (brG P W st H lim) (cB P) &&& (((1 : Int32) <<< (nI b &&& 31)) ^^^ (-1 : Int32)) = 0) = (hd P W st H (fun b' => if b' = b then lim b' + 9999 else lim b') (cB P) = true) := by
  have hB := hV.2.1.2.2
  have h2 : 2 ^ b ≤ 2 ^ 3 := Nat.pow_le_pow_right (by decide) (by omega)
  rw [shl1 b (by omega), brk_and (by omega) (by omega), hd_iff]
  have hu := uN_unit (b := b) (st := st) hV hK h1 hH
  refine propext ⟨fun h y hy => ?_, fun h y hy c => ?_⟩
  · by_cases d : y = b
    · rw [brG_c (lim' := fun _ => lim b + 9999) (by rw [if_pos d, d])]
      subst d
      refine decide_eq_false ?_
      have : 2475 * (10 * 1000 ^ (H - 1)) ≤ (lim y + 9999) * (10 * 1000 ^ (H - 1)) := Nat.mul_le_mul_right _ (by omega)
      dsimp only
      omega
    · rw [brG_c (lim' := lim) (by rw [if_neg d])]
      apply Classical.byContradiction
      intro g
      have g2 : brG P W st H lim y = true := by simpa using g
      have := h y hy g2
      rw [bit1 b (by omega) y (by omega)] at this
      exact d this
  · rw [bit1 b (by omega) y (by omega)]
    apply Classical.byContradiction
    intro d
    have g := h y hy
    rw [brG_c (lim' := lim) (by rw [if_neg d])] at g
    rw [g] at c
    exact absurd c (by decide)
theorem leastR_ok {Z : Nat} {M : Mem} {P S : Nat → Int32} (hV : VP P) (hP : gI M 112 = P) (hZ : 4000 < Z) {st H : Nat} {W0 : Nat → Nat} (hSR : SR M st H W0) (hW0 : ∀ r, W0 r ≤ 10) (hSp : ∀ i, 22 ≤ i → i < 40 → gI M 109 i = S i) (hst : st < cN P) (h1 : 1 ≤ H) (hH : H ≤ 5) {lim : Nat → Nat} (hl : LimR M lim) {b : Nat} (hb : b < cB P) {K : Nat} (k1 : 1 ≤ K) (k2 : K ≤ 729) (k3 : ∀ k, k < K → ∃ c, cho P k = some c) (k4 : cho P K = none) :
    ∃ M', cl (f_X12_beginsPure Z M) (fun v3 M4 => cl (f_X12_unitNow Z M4) (fun v5 M6 => f_X12_leastLimit_L27 Z (nI b) v5 (fun (y27 : Int64) (M28 : Mem) => cl (f_X12_fetches Z M28 (0 : Int32)) (fun v29 M30 => (if y27 ≤ (9999 : Int64) then some (y27.toInt32, M30) else some ((-1 : Int32), M30)))) Z (10000 : Int64) (1 : Int32) M6)) = some (xL (LL P S st H lim b K), M') ∧ fr lG M M' ∧ (∀ i, i < 54 → gI M' 109 i = gI M 109 i) ∧ (∀ j, 54 ≤ j → gI M' 110 j = gI M 110 j) ∧ gI M' 108 = gI M 108 := by
  have hN := hV.2.1
  have hup := unit_pos (H := H)
  have hul := unit_le hH
  obtain ⟨M1, e0, f1, t0, u0, s1⟩ := beginsPure_ok (Z := Z) (M := M) hV hP (by omega)
  have j109 : gI M1 109 = gI M 109 := f1.I (by decide)
  rw [e0, cl_some, unitNow_eq (by omega) h1 hH (by rw [j109]; exact hSR.2.1), cl_some]
  refine lpS (σ := Int32 × Mem) (fun n k s => f_X12_leastLimit_L27 Z (nI b) (lN (10 * 1000 ^ (H - 1))) (fun (y27 : Int64) (M28 : Mem) => cl (f_X12_fetches Z M28 (0 : Int32)) (fun v29 M30 => (if y27 ≤ (9999 : Int64) then some (y27.toInt32, M30) else some ((-1 : Int32), M30)))) n (lN (LL P S st H lim b k)) s.1 s.2) (fun q => ∃ M', q = some (xL (LL P S st H lim b K), M') ∧ fr lG M M' ∧ (∀ i, i < 54 → gI M' 109 i = gI M 109 i) ∧ (∀ j, 54 ≤ j → gI M' 110 j = gI M 110 j) ∧ gI M' 108 = gI M 108)
    (fun k s => fr [109, 116, 121] M1 s.2 ∧ (∀ i, i < 4 ∨ 4 + 3 * cN P ≤ i → gI s.2 109 i = gI M 109 i) ∧ (k < K → s.1 = 1 ∧ ∃ c, SetR P s.2 k c) ∧ (k = K → s.1 = 0)) 0 K (s := (1, M1)) (by omega) (by omega) ⟨fr.rfl, fun i _ => by rw [j109], fun _ => ⟨rfl, _, s1⟩, fun z => absurd z (by omega)⟩ ?_ ?_
  · intro n k s _ hk hI KK
    obtain ⟨x5, M2⟩ := s
    obtain ⟨g1, g2, g7, _⟩ := hI
    obtain ⟨e6, c, hs⟩ := g7 hk
    dsimp only at g1 g2 e6 hs KK ⊢
    subst e6
    have hch := (cho_ok hV k c hs.1).1
    have hK := wMix_WOK hV hch hW0
    have p2 : gI M2 112 = P := by rw [g1.I (by decide), f1.I (by decide)]; exact hP
    have cong := wMix_eq (P := P) (c := c) (W0 := W0) hV.sz.2.1
    obtain ⟨M3, e3, f3, q3, r3⟩ := taken (Z := Z) (M := M2) hV p2 (by omega) (by rw [g2 0 (by omega)]; exact hSR.1) (by rw [g2 1 (by omega)]; exact hSR.2.1) (fun r a b => by rw [g2 (4 + r) (by omega)]; exact hSR.2.2 r b) hch hs.2
    have p3 : gI M3 112 = P := by rw [f3.I (by decide)]; exact p2
    have s3 : SetR P M3 k c := hs.fr f3 (by decide)
    have q3' : ∀ i, i < 4 ∨ 4 + 3 * cN P ≤ i → gI M3 109 i = gI M 109 i := fun i hi => by rw [q3 i hi, g2 i hi]
    have tail : ∀ (v : Int64) M4, v = lN (LL P S st H lim b (k + 1)) → fr [116] M3 M4 → ∃ M', cl (f_X12_turns Z M4) (fun v12 M13 => f_X12_leastLimit_L27 Z (nI b) (lN (10 * 1000 ^ (H - 1))) (fun (y27 : Int64) (M28 : Mem) => cl (f_X12_fetches Z M28 (0 : Int32)) (fun v29 M30 => (if y27 ≤ (9999 : Int64) then some (y27.toInt32, M30) else some ((-1 : Int32), M30)))) n v v12 M13) = some (xL (LL P S st H lim b K), M') ∧ fr lG M M' ∧ (∀ i, i < 54 → gI M' 109 i = gI M 109 i) ∧ (∀ j, 54 ≤ j → gI M' 110 j = gI M 110 j) ∧ gI M' 108 = gI M 108 := fun v M4 ev f4 => by
      obtain ⟨bb, M5, e5, f5, alt⟩ := turns_ok (Z := Z) (M := M4) hV (by rw [f4.I (by decide)]; exact p3) (by omega) (s3.fr f4 (by decide))
      rw [e5, cl_some, ev]
      refine KK (bb, M5) ⟨((g1.trans (f3.mono (by decide))).trans (f4.mono (by decide))).trans (f5.mono (by decide)), fun i hi => by rw [f5.I (by decide), f4.I (by decide)]; exact q3' i hi, fun hlt => ?_, fun heq => ?_⟩
      · rcases alt with ⟨b1, b2⟩ | ⟨_, b2⟩
        · exact ⟨b1, b2⟩
        · obtain ⟨c2, hc2⟩ := k3 (k + 1) hlt
          exact absurd (hc2.symm.trans b2) (by simp)
      · rcases alt with ⟨_, c2, b2⟩ | ⟨b1, _⟩
        · have := b2.1
          rw [heq, k4] at this
          exact absurd this (by simp)
        · exact b1
    have eF := LL_s (S := S) (st := st) (H := H) (lim := lim) (b := b) hs.1
    rw [f_X12_leastLimit_L27, if_neg (by decide), e3, cl_some, isAllowed_eq (S := S) hV p3 (fun i a b => by rw [q3' i (by omega)]; exact hSp i a b) (by omega) hch s3.2, cl_some, jn_eq]
    by_cases b1 : al S c (cN P) = true
    · obtain ⟨v, M4, e4, f4, hv⟩ := brokenNow_ok (Z := Z) (M := M3) hV p3 (by omega) r3 hK hst h1 hH (lim := lim) (fun b hb => by rw [q3' (40 + b) (by omega)]; exact hl b hb)
      have hv0 : (v &&& (((1 : Int32) <<< (nI b &&& 31)) ^^^ (-1 : Int32)) = 0) = (hd P (wPure c) st H (fun b' => if b' = b then lim b' + 9999 else lim b') (cB P) = true) := by rw [hv, notB hV hK h1 hH hb, hd_congr cong]
      rw [if_neg (by rw [bN0, b1]; decide), e4, cl_some]
      by_cases b2 : hd P (wPure c) st H (fun b' => if b' = b then lim b' + 9999 else lim b') (cB P) = true
      · have eo : okL P S st H lim b c = true := by
          unfold okL
          rw [b1, b2]
          rfl
        rw [if_pos eo] at eF
        have hL := LL_le (S := S) (st := st) (lim := lim) (b := b) hV h1 hH k
        have hT := itL_le (b := b) (st := st) hV (wPure_WOK hV hch) h1 hH
        have p4 : gI M4 112 = P := by rw [f4.I (by decide)]; exact p3
        have r4 : SR M4 st H (wMix P c W0) := by
          unfold SR
          rw [f4.I (by decide)]
          exact r3
        obtain ⟨v6, M6, e6, f6, hv6⟩ := rUsedW (Z := Z) (M := M4) hV p4 (by omega) r4 hK hst h1 hH (b := b) (by omega)
        have ei : ((v6 + lN (10 * 1000 ^ (H - 1))) - (1 : Int64)) / lN (10 * 1000 ^ (H - 1)) = lN (itL P (wPure c) b st H) := by
          rw [hv6, uN_congr cong, ← uRun_lN]
          exact it_eq hV (wPure_WOK hV hch) h1 hH
        rw [if_pos (by rw [hv0]; exact b2), e6, cl_some, nzL_p hup (by omega), ei]
        by_cases d : LL P S st H lim b k ≤ itL P (wPure c) b st H
        · rw [if_pos d] at eF
          rw [if_pos (by rw [lN_ile (by omega) (by omega)]; exact d)]
          exact tail _ M6 (by rw [eF]) (f4.trans f6)
        · rw [if_neg d] at eF
          rw [if_neg (by rw [lN_ile (by omega) (by omega)]; exact d)]
          exact tail _ M6 (by rw [eF]) (f4.trans f6)
      · have b3 : hd P (wPure c) st H (fun b' => if b' = b then lim b' + 9999 else lim b') (cB P) = false := by simpa using b2
        have eo : ¬ okL P S st H lim b c = true := by
          unfold okL
          rw [b3, Bool.and_false]
          decide
        rw [if_neg eo] at eF
        rw [if_neg (by rw [hv0]; exact b2)]
        exact tail _ M4 (by rw [eF]) f4
    · have b3 : al S c (cN P) = false := by simpa using b1
      have eo : ¬ okL P S st H lim b c = true := by
        unfold okL
        rw [b3, Bool.false_and]
        decide
      rw [if_neg eo] at eF
      rw [if_pos (by rw [bN0]; exact b3)]
      exact tail _ M3 (by rw [eF]) fr.rfl
  · intro n s hI
    obtain ⟨x5, M2⟩ := s
    obtain ⟨g1, g2, _, g8⟩ := hI
    dsimp only at g1 g2 g8 ⊢
    have e6 := g8 rfl
    subst e6
    have hL := LL_le (S := S) (st := st) (lim := lim) (b := b) hV h1 hH K
    obtain ⟨_, M3, e3, f3, q3⟩ := fetches_ok (Z := Z) (M := M2) (by omega) (r := 0) (by decide)
    have ex : (if lN (LL P S st H lim b K) ≤ (9999 : Int64) then some ((lN (LL P S st H lim b K)).toInt32, M3) else some ((-1 : Int32), M3)) = some (xL (LL P S st H lim b K), M3) := by
      rw [show (9999 : Int64) = lN 9999 from rfl, lN_to32]
      unfold xL
      by_cases d : LL P S st H lim b K = 10000
      · rw [if_neg (by rw [lN_ile (by omega) (by decide)]; omega), if_pos d]
      · rw [if_pos (by rw [lN_ile (by omega) (by decide)]; omega), if_neg d]
    rw [f_X12_leastLimit_L27, if_pos rfl, show (0 : Int32) = nI 0 from rfl, e3, cl_some, ex]
    refine ⟨M3, rfl, ((f1.mono (by decide)).trans (g1.mono (by decide))).trans (f3.mono (by decide)), fun i hi => ?_, fun j hj => ?_, by rw [f3.I (by decide), g1.I (by decide), f1.I (by decide)]⟩
    · rw [q3 i hi, Nat.zero_mul, Nat.zero_add, g1.I (by decide), t0 i hi]
    · rw [f3.I (by decide), g1.I (by decide), u0 j hj]
theorem ok_leastLimit {Z : Nat} (hZ : 4000 < Z) {M : Mem} (hI : Inv M) (h : Has M) {b : Nat} (hb : b < cB (gI M 112)) : OKc (f_X11_leastLimit Z M (nI b)) (fun M => f_X12_leastLimit Z M (nI b)) (·.toInt64) (·.toInt64) := by
  obtain ⟨K, k1, k2, k3, k4⟩ := cho_end h.2.1
  have hN := h.N
  have hB := h.b.2.2
  have hS := h.VS
  obtain ⟨M1, e1, f1, p1⟩ := smallestLimit_ok (Z := Z) (M := M) (P := gI M 112) (S := gI M 109) h.2.1 h.2.2.1 h.RS hZ h.st.1 h.hz.1 h.st.2 h.hz.2.2.1 h.hz.2.2.2 h.2.2.2.2.2.2.2.2 (lim := limS (gI M 109)) (fun b hb => h.lm hb) hb k1 k2 k3 k4
  generalize hv : xL (LL (gI M 112) (gI M 109) (pn (gI M 109) 0) (pn (gI M 109) 1) (limS (gI M 109)) b K) = v at e1
  have g2 : ∀ o, o ∉ lB → o ≠ 108 → gI (T0 (sL M1 124 0 v.toInt64)) o = gI M o := fun o a b => by rw [T0_I b, gI_sL', f1.I a]
  have j109 := g2 109 (by decide) (by decide)
  have j112 := g2 112 (by decide) (by decide)
  obtain ⟨M2, e2, f2, t1, t2, t3⟩ := leastR_ok (Z := Z) (M := T0 (sL M1 124 0 v.toInt64)) (P := gI M 112) (S := gI M 109) h.2.1 j112 hZ (hS.toSR j109) (fun r => hS.v3.2.1 r) (fun i _ _ => by rw [j109]) h.st.2 h.hz.2.2.1 h.hz.2.2.2 (lim := limS (gI M 109)) (hS.lim j109) hb k1 k2 k3 k4
  rw [hv] at e2
  obtain ⟨i2, z2, o2⟩ := bestFin hI h f1 p1 f2 (fun i hi => by rw [t1 i hi, j109]) (fun j hj => by rw [t2 j hj, g2 110 (by decide) (by decide)]) (fun j _ => by rw [t3])
  refine ⟨v, v, M1, M2, ?_, ?_, i2, z2, o2⟩
  · unfold f_X11_leastLimit
    rw [h.nB, if_pos (inR_of hb (by omega)), clT_ok, e1, cl_some]
  · show f_X12_leastLimit Z (sL M1 124 0 v.toInt64) (nI b) = _
    unfold f_X12_leastLimit
    rw [noBudget1 (h.s108 f1 _) (by rw [Has.s112' f1]; exact h.b.2.1) hB, if_pos (inR_of hb (by omega)), cl_some, if_pos rfl]
    exact e2
theorem ck_leastLimit {Z : Nat} {M : Mem} (hZ : 4000 < Z) (hI : Inv M) (p1 : Int32) : CK (f_L_leastLimit Z M p1) (fun M => f_X12_leastLimit Z M p1) (·.toInt64) := by
  unfold f_L_leastLimit
  rcases hI.2.2.2.2.2 with h | h
  · exact CK.er hI (e := 0) (c := 1) (w := 0) (by unfold f_X11_leastLimit; rw [needBudget0 h.2.1]; rfl) rfl (by decide) (by unfold f_X12_leastLimit; rw [noBudget0 h.1]; rfl)
  · by_cases hp : inR p1 (cB (gI M 112))
    · obtain ⟨b, hb, rfl⟩ := inR_nI hp
      exact CK.mk (ok_leastLimit hZ hI h hb)
    · exact CK.er hI (e := 1) (c := 2) (w := 0) (by unfold f_X11_leastLimit; rw [h.nB, if_neg hp]; rfl) rfl (by decide) (by unfold f_X12_leastLimit; rw [h.rB, if_neg hp]; rfl)
theorem b_law_40 {Z L a : Nat} {xs : Nat → Int32} {M : Mem} {j : Mem → Option Unit} (hZ : 4000 < Z) (hI : Inv M) (ha : a + 6 ≤ L) (hL : L ≤ 3072) (hj : ∀ M1, Inv M1 → j M1 = some ()) : f_law_40 Z L xs M (nI a) j = some () := by
  unfold f_law_40
  simp (disch := omega) only [i1, nI_add, rdX_n]
  generalize xs (a + 1) = p1
  exact (ck_leastLimit hZ hI p1).tail hj
