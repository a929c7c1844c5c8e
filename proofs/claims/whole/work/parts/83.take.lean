/-! takeBest -/
theorem sL_self (M : Mem) (o k : Nat) : sL M o k (gL M o k) = M := by
  obtain ⟨a, b, c⟩ := M
  show (a, (fun p q => if p = o ∧ q = k then b o k else b p q), c) = (a, b, c)
  have e : (fun p q => if p = o ∧ q = k then b o k else b p q) = b := by
    funext p q
    by_cases h : p = o ∧ q = k
    · rw [if_pos h, h.1, h.2]
    · rw [if_neg h]
  rw [e]
def cnW (W c : Nat → Nat) : Nat → Nat
  | 0 => 0
  | n + 1 => cnW W c n + (if W (n * 3 + c n) = 10 then 0 else 1)
theorem cnW_le {W c : Nat → Nat} : ∀ n, cnW W c n ≤ n
  | 0 => Nat.le_refl _
  | n + 1 => by
    have := cnW_le (W := W) (c := c) n
    show cnW W c n + _ ≤ n + 1
    split <;> omega
theorem bestKt {M M1 : Mem} (f : fr lB M M1) : kt M M1 := by
  refine ⟨fun o a b c => f o (fun z => ?_), fun k _ => by rw [f.I (by decide)], fun i _ => by rw [f.I (by decide)], fun j _ => by rw [f.I (by decide)]⟩
  have : ∀ o, o ∈ lB → o ∈ scrL ∨ o ∈ [96, 97, 98, 109, 110] := by decide
  rcases this o z with y | y
  · exact a y
  · exact c y
theorem ten_eq {n : Nat} (h : n < 100) : (nI n = (10 : Int32)) = (n = 10) := by
  rw [show (10 : Int32) = nI 10 from rfl, nI_eq (by omega) (by decide)]
theorem no_takeBest {Z : Nat} (hZ : 4000 < Z) {M M1 : Mem} (hI : Inv M) (h : Has M) (f1 : fr lB M M1) (p1 : PMM M M1) {K : Nat} (k1 : 1 ≤ K) (k2 : K ≤ 729) (k3 : ∀ k, k < K → ∃ c, cho (gI M 112) k = some c) (k4 : cho (gI M 112) K = none) (c : (FBM M (limS (gI M 109)) K).1 = 0) : ∃ M2, f_X12_takeBest Z M1 = some (0, M2) ∧ Inv M2 ∧ gI M2 108 0 = 1 := by
  obtain ⟨M2, e2, _, _, _, i2, z2, o2, w2, _⟩ := refBest hZ hI h f1 p1 (gL M1 124 0) k1 k2 k3 k4
  rw [sL_self] at e2
  refine ⟨sI M2 108 0 1, ?_, i2.kp kp.thr, by rw [gI_sI, if_pos ⟨rfl, rfl⟩]⟩
  unfold f_X12_takeBest
  rw [noChainT (by rw [f1.I (by decide)]; exact h.1), cl_some, if_pos rfl, e2, cl_some, bd_eq, w2, c, jnT, if_pos (show nI 0 = (0 : Int32) from rfl), ref1 z2 (by decide), cl_some]
  rfl
theorem ok_takeBest {Z : Nat} (hZ : 4000 < Z) {M M1 : Mem} (hI : Inv M) (h : Has M) (f1 : fr lB M M1) (p1 : PMM M M1) {K : Nat} (k1 : 1 ≤ K) (k2 : K ≤ 729) (k3 : ∀ k, k < K → ∃ c, cho (gI M 112) k = some c) (k4 : cho (gI M 112) K = none) (cc : 0 < (FBM M (limS (gI M 109)) K).1) (e1 : f_X5_findBest Z M (-1) 0 = some ((FBM M (limS (gI M 109)) K).2.1, M1)) (h101 : ∀ y, y < 6 → gI M1 101 y = nI ((FBM M (limS (gI M 109)) K).2.2 y)) : OKc (f_X11_takeBest Z M) (fun M => f_X12_takeBest Z M) (·.toInt64) (·.toInt64) := by
  have hF := FB_ok (S := gI M 109) (st := pn (gI M 109) 0) (lim := limS (gI M 109)) h.2.1 h.hz.2.2.1 h.hz.2.2.2 K
  have hN := h.N
  have hV := h.2.1
  have hS := h.VS
  have hR := h.RS
  have hz := h.z
  have kt1 := bestKt f1
  have ca1 := p1.cache h
  have I1 := invKt hI h kt1 ca1
  have H1 := hasKt h kt1 ca1
  have a112 : gI M1 112 = gI M 112 := f1.I (by decide)
  have a109 : gI M1 109 = gI M 109 := f1.I (by decide)
  obtain ⟨b1, b2, b3⟩ := hF.2.2 cc
  have hle : (FBM M (limS (gI M 109)) K).1 ≤ K := hF.1
  have ne : ¬ (FBM M (limS (gI M 109)) K).2.1 = -9223372036854775808 := fun z => by
    have h3 : (-9223372036854775808 : Int64) < (FBM M (limS (gI M 109)) K).2.1 := b1
    rw [z] at h3
    exact Int64.lt_irrefl h3
  generalize hg : (FBM M (limS (gI M 109)) K).2.2 = c at *
  have b2' : CHo (gI M 112) c := by
    rw [← hg]
    exact b2
  have c3 : ∀ y, y < cN (gI M 112) → c y < 3 := fun y hy => by
    have := b2' y hy
    have := hV.sz.2.1 y
    omega
  obtain ⟨Mk, ek, mk, HH⟩ := changeG hZ I1 H1
  have mk1 : ∀ o, o ≠ 35 → o ≠ 36 → (o < 38 ∨ 80 ≤ o) → gI Mk o = gI M1 o := fun o x y z => (mk o x y z).1
  have k11 : ∀ r, r < 3 * cN (gI M 112) → gI Mk 11 r = nI (sW (gI M 109) r) := fun r hr => by
    rw [mk1 11 (by decide) (by decide) (by decide), f1.I (by decide), show (11 : Nat) = 10 + 1 from rfl, hR.2.1 r hr]
    exact hS.v3.1 r (by omega)
  have k30 : gI Mk 3 0 = nI (cN (gI M 112)) := by
    rw [mk1 3 (by decide) (by decide) (by decide), f1.I (by decide)]
    exact h.c.1
  have k101 : ∀ y, y < 6 → gI Mk 101 y = nI (c y) := fun y hy => by
    rw [mk1 101 (by decide) (by decide) (by decide)]
    exact h101 y hy
  obtain ⟨M2, e2, f2, w2⟩ := writeWeights_ok (Z := Z) (M := Mk) (c := c) (a := 101) (w := 11) (by omega) hN.2 k30 (fun y hy => k101 y (by omega)) c3 (by decide) (by decide)
  have hWle : ∀ r, sW (gI M 109) r ≤ 10 := hS.v3.2.1
  have cls : f_X11_takeBest_L46 Z (fun (y18 : Int32) (M19 : Mem) => cl (f_X5_writeWeights Z M19 (101) (11)) (fun v20 M21 => some (.ok y18, M21))) Z (nI 0) (nI 0) Mk = some (.ok (nI (cnW (sW (gI M 109)) c (cN (gI M 112)))), M2) := by
    refine lpS (σ := Unit) (fun n x _ => f_X11_takeBest_L46 Z (fun (y18 : Int32) (M19 : Mem) => cl (f_X5_writeWeights Z M19 (101) (11)) (fun v20 M21 => some (.ok y18, M21))) n (nI (cnW (sW (gI M 109)) c x)) (nI x) Mk) (fun q => q = some (.ok (nI (cnW (sW (gI M 109)) c (cN (gI M 112)))), M2)) (fun _ _ => True) 0 (cN (gI M 112)) (s := ()) (by omega) (by omega) trivial ?_ ?_
    · intro n x _ _ hx _ KK
      have K1 := KK () trivial
      have hc := c3 x hx
      have e9 : cnW (sW (gI M 109)) c (x + 1) = cnW (sW (gI M 109)) c x + (if sW (gI M 109) (x * 3 + c x) = 10 then 0 else 1) := rfl
      rw [e9] at K1
      have h10 := hWle (x * 3 + c x)
      rw [f_X11_takeBest_L46, bd_eq, k30, if_neg (by rw [nI_ile (by omega) (by omega)]; omega), rdI_n (by omega) (by decide), k101 x (by omega), rowOf_eq, cl_some, rdI_n (by omega) (by decide), k11 _ (by omega), jnT]
      by_cases d : sW (gI M 109) (x * 3 + c x) = 10
      · rw [if_pos d] at K1
        rw [if_pos (by rw [ten_eq (by omega)]; exact d), i1, nI_add]
        exact K1
      · rw [if_neg d] at K1
        rw [if_neg (by rw [ten_eq (by omega)]; exact d), i1, nI_add, nI_add]
        exact K1
    · intro n _ _
      rw [f_X11_takeBest_L46, bd_eq, k30, if_pos (by rw [nI_ile (by omega) (by omega)]; omega), e2, cl_some]
  have hcn := cnW_le (W := sW (gI M 109)) (c := c) (cN (gI M 112))
  generalize hv : cnW (sW (gI M 109)) c (cN (gI M 112)) = v at cls hcn
  -- the reference
  have g2 : ∀ o, o ≠ 108 → o ∉ lC → o ∉ lB → o ≠ 35 → o ≠ 36 → (o < 38 ∨ 80 ≤ o) → gI (T0 (sL M2 124 0 (nI v).toInt64)) o = gI M o := fun o x y z a b d => by
    rw [T0_I x, gI_sL', f2.I (fun q => y (by rw [List.mem_singleton.mp q]; decide)), mk1 o a b d, f1.I z]
  have j109 := g2 109 (by decide) (by decide) (by decide) (by decide) (by decide) (by decide)
  have j112 := g2 112 (by decide) (by decide) (by decide) (by decide) (by decide) (by decide)
  obtain ⟨M3, e3, f3, t1, t2, t3, t4, t5, t6⟩ := findsBest_ok (Z := Z) (M := T0 (sL M2 124 0 (nI v).toInt64)) (P := gI M 112) (S := gI M 109) (st := pn (gI M 109) 0) (H := pn (gI M 109) 1) (W0 := sW (gI M 109)) (lim := limS (gI M 109)) hV j112 hZ (hS.toSR j109) (fun r => hS.v3.2.1 r) (fun i _ _ => by rw [j109]) h.st.2 h.hz.2.2.1 h.hz.2.2.2 (hS.lim j109) k1 k2 k3 k4
  have m3o : ∀ o, o ≠ 108 → o ≠ 124 → o ∉ lC → o ∉ lX → gI M3 o = gI Mk o ∧ gL M3 o = gL Mk o ∧ gR M3 o = gR Mk o := fun o x y z w => by
    have n3 : o ∉ lG := fun q => by
      have : ∀ o, o ∈ lG → o = 108 ∨ o ∈ lX := by decide
      rcases this o q with g | g
      · exact x g
      · exact w g
    have q1 := f3 o n3
    have q2 := f2 o (fun q => z (by rw [List.mem_singleton.mp q]; decide))
    rw [T0_I x, T0_L, T0_R, gI_sL', gR_sL', gL_sL', if_neg y] at q1
    exact ⟨q1.1.trans q2.1, q1.2.1.trans q2.2.1, q1.2.2.trans q2.2.2⟩
  have kk108 : gI M2 108 = gI Mk 108 := f2.I (by decide)
  obtain ⟨M4, e4, f4, KK⟩ := HH M3 (nI v).toInt64 m3o (fun i hi => by rw [t1 i hi, T0_I (by decide), gI_sL', f2.I (by decide)]) (fun j hj => by rw [t2 j hj, T0_I (by decide), gI_sL', f2.I (by decide)]) (fun k x y => by
    rw [t3 k y]
    unfold T0
    rw [gI_sI, if_neg (fun z => x z.2), gI_sL', kk108]) (by rw [t3 0 (by decide)]; exact T0_0) (by rw [f3.L (by decide), T0_L, gL_sL, if_pos ⟨rfl, rfl⟩])
  have w109 : ∀ i, i < 54 → gI M4 109 i = gI M 109 i := fun i hi => by rw [f4.i (by decide) (by decide), t1 i hi, j109]
  have w112 : gI M4 112 = gI M 112 := by rw [f4.i (by decide) (by decide), f3.I (by decide), j112]
  have w122 : ∀ y, y < cN (gI M 112) → gI M4 122 y = nI (c y) := fun y hy => by
    rw [f4.i (by decide) (by decide), t6 cc y hy, ← hg]
    rfl
  have ref : ∃ M5, f_X12_takeBest_L44 Z Z (nI 0) (nI 0) M4 = some (nI v, M5) ∧ fr [109] M4 M5 ∧ ∀ i, i < 54 → gI M5 109 i = if 4 ≤ i ∧ i < 4 + 3 * cN (gI M 112) then nI (wPure c (i - 4)) else gI M 109 i := by
    refine lpS (σ := Mem) (fun n x M' => f_X12_takeBest_L44 Z n (nI (cnW (sW (gI M 109)) c x)) (nI x) M') (fun q => ∃ M5, q = some (nI v, M5) ∧ fr [109] M4 M5 ∧ ∀ i, i < 54 → gI M5 109 i = if 4 ≤ i ∧ i < 4 + 3 * cN (gI M 112) then nI (wPure c (i - 4)) else gI M 109 i) (fun x M' => fr [109] M4 M' ∧ ∀ i, i < 54 → gI M' 109 i = if 4 ≤ i ∧ i < 4 + 3 * x then nI (wPure c (i - 4)) else gI M 109 i) 0 (cN (gI M 112)) (by omega) (by omega) ⟨fr.rfl, fun i hi => by rw [if_neg (by omega), w109 i hi]⟩ ?_ ?_
    · intro n x M' _ hx hJ KJ
      obtain ⟨g1, g2⟩ := hJ
      have hc := c3 x hx
      obtain ⟨M6, e6, f6, q6⟩ := givesAll_ok (Z := Z) (M := M') (by omega) (x := x) (a := c x) (by omega) hc
      have K1 := KJ M6 ⟨g1.trans f6, fun i hi => by
        rw [q6, g2 i hi]
        unfold wPure
        by_cases d : 4 + x * 3 ≤ i ∧ i < 4 + x * 3 + 3
        · rw [if_pos d, if_pos (show 4 ≤ i ∧ i < 4 + 3 * (x + 1) by omega), show (i - 4) / 3 = x by omega]
          by_cases e : i = 4 + x * 3 + c x
          · rw [if_pos e, if_pos (by omega)]
          · rw [if_neg e, if_neg (by omega)]
        · rw [if_neg d]
          by_cases e : 4 ≤ i ∧ i < 4 + 3 * x
          · rw [if_pos e, if_pos (show 4 ≤ i ∧ i < 4 + 3 * (x + 1) by omega)]
          · rw [if_neg e, if_neg (show ¬ (4 ≤ i ∧ i < 4 + 3 * (x + 1)) by omega)]⟩
      have e9 : cnW (sW (gI M 109)) c (x + 1) = cnW (sW (gI M 109)) c x + (if sW (gI M 109) (x * 3 + c x) = 10 then 0 else 1) := rfl
      rw [e9] at K1
      have h10 := hWle (x * 3 + c x)
      have eW : f_X12_weightOf Z M' (nI x) (nI (c x)) = some (nI (sW (gI M 109) (x * 3 + c x)), M') := by
        unfold f_X12_weightOf
        rw [show (4 : Int32) = nI 4 from rfl, show (3 : Int32) = nI 3 from rfl, nI_mul, nI_add, nI_add, mc3, rdI_n (by omega) (by decide), g2 _ (by omega), if_neg (by omega), show 4 + x * 3 + c x = 4 + (x * 3 + c x) by omega, hS.v3.1 _ (by omega)]
      rw [f_X12_takeBest_L44, i0, rdI_n (by decide) (by decide), g1.I (by decide), w112, hV.n, if_neg (by rw [nI_ile (by omega) (by omega)]; omega), rdI_n (by omega) (by decide), g1.I (by decide), w122 x hx, eW, cl_some, jnT, rdI_n (by omega) (by decide), g1.I (by decide), w122 x hx, e6, cl_some, i1, nI_add]
      by_cases d : sW (gI M 109) (x * 3 + c x) = 10
      · rw [if_pos d] at K1
        rw [if_pos (by rw [ten_eq (by omega)]; exact d), nI_add]
        exact K1
      · rw [if_neg d] at K1
        rw [if_neg (by rw [ten_eq (by omega)]; exact d), nI_add]
        exact K1
    · intro n M' hJ
      obtain ⟨g1, g2⟩ := hJ
      rw [f_X12_takeBest_L44, i0, rdI_n (by decide) (by decide), g1.I (by decide), w112, hV.n, if_pos (by rw [nI_ile (by omega) (by omega)]; omega), hv]
      exact ⟨M', rfl, g1, g2⟩
  obtain ⟨M5, e5, f5, q5⟩ := ref
  have Sn : ∀ i, i < 54 → (i < 4 ∨ 22 ≤ i) → gI M5 109 i = gI M 109 i := fun i hi h2 => by
    rw [q5 i hi, if_neg (by omega)]
  have hWr : ∀ r, r < 18 → gI M5 109 (4 + r) = nI (wMix (gI M 112) c (sW (gI M 109)) r) := fun r hr => by
    rw [q5 _ (by omega)]
    unfold wMix
    by_cases d : r < 3 * cN (gI M 112)
    · rw [if_pos (by omega), if_pos d, show 4 + r - 4 = r by omega]
    · rw [if_neg (by omega), if_neg d]
      exact hS.v3.1 r hr
  have hK := wMix_WOK (W0 := sW (gI M 109)) hV b2' hWle
  have eW : ∀ r, sW (gI M5 109) r = wMix (gI M 112) c (sW (gI M 109)) r := fun r => by
    have := hK.1 r
    by_cases d : r < 18
    · unfold sW
      rw [if_pos d, pn_n (hWr r d) (by omega)]
      unfold sW
      rfl
    · unfold wMix
      rw [if_neg (by omega)]
      unfold sW
      rw [if_neg d, if_neg d]
  have hV5 : VS (gI M1 112) (gI M5 109) := by
    rw [a112]
    refine VS.mk (hS.v0.congr (Sn 0 (by omega) (by omega))) (hS.v1.congr (Sn 1 (by omega) (by omega))) (hS.v2.congr (Sn 2 (by omega) (by omega))) ⟨fun r hr => by rw [eW]; exact hWr r hr, fun r => by rw [eW]; exact hK.1 r, fun y hy => ?_⟩ (V4.congr hN.2 hz.2.1 hS.v4 (fun r hr => Sn _ (by omega) (by omega))) (hS.v5.congr (fun k hk => Sn _ (by omega) (by omega))) (hS.v6.congr (Sn 3 (by omega) (by omega)) (fun i h1 h2 => Sn _ (by omega) (by omega)))
    simp only [eW]
    refine ⟨hK.2 y hy, fun a ha ha3 => ?_⟩
    have := b2' y hy
    unfold wMix wPure
    rw [if_pos (by omega), show (y * 3 + a) % 3 = a by omega, show (y * 3 + a) / 3 = y by omega, if_neg (by omega)]
  have mo : ∀ o, 10 ≤ o → o < 16 → gI M5 o = gI M2 o := fun o x y => by
    rw [f5.I (by simp; omega), f4.i (by simp; omega) (by omega), f3.I (by unfold lG; simp; omega), T0_I (by omega), gI_sL']
  have m2o : ∀ o, 10 ≤ o → o < 16 → o ≠ 11 → gI M2 o = gI M o := fun o x y z => by
    rw [f2.I (by simp; omega), mk1 o (by omega) (by omega) (by omega), f1.I (lB_no (by omega) (by omega))]
  have hR5 : RS (gI M1 112) M5 10 (gI M5 109) := by
    rw [a112]
    obtain ⟨⟨a1, a2, a3, a4⟩, b1, cq, d, e, f⟩ := hR
    refine ⟨⟨?_, ?_, ?_, ?_⟩, fun r hr => ?_, fun x hx => ?_, fun k hk => ?_, fun t ht => ?_, fun t ht => ?_⟩
    · rw [mo 10 (by decide) (by decide), m2o 10 (by decide) (by decide) (by decide), Sn 0 (by omega) (by omega)]; exact a1
    · rw [mo 10 (by decide) (by decide), m2o 10 (by decide) (by decide) (by decide), Sn 1 (by omega) (by omega)]; exact a2
    · rw [mo 10 (by decide) (by decide), m2o 10 (by decide) (by decide) (by decide), Sn 2 (by omega) (by omega)]; exact a3
    · rw [mo 10 (by decide) (by decide), m2o 10 (by decide) (by decide) (by decide), Sn 3 (by omega) (by omega)]; exact a4
    · rw [mo (10 + 1) (by decide) (by decide), hWr r (by omega)]
      show gI M2 11 r = _
      rw [w2, if_pos hr]
      unfold wMix
      rw [if_pos hr]
    · obtain ⟨q, q1, q2, q3⟩ := cq x hx
      have := hz.2.1 x
      exact ⟨q, q1, by rw [mo (10 + 2) (by decide) (by decide), m2o (10 + 2) (by decide) (by decide) (by decide)]; exact q2, fun a ha => by rw [Sn _ (by omega) (by omega)]; exact q3 a ha⟩
    · rw [mo (10 + 3) (by decide) (by decide), m2o (10 + 3) (by decide) (by decide) (by decide), Sn _ (by omega) (by omega)]; exact d k hk
    · rw [mo (10 + 4) (by decide) (by decide), m2o (10 + 4) (by decide) (by decide) (by decide), Sn _ (by omega) (by omega)]; exact e t ht
    · rw [mo (10 + 5) (by decide) (by decide), m2o (10 + 5) (by decide) (by decide) (by decide), Sn _ (by omega) (by omega)]; exact f t ht
  obtain ⟨i5, z5, o5⟩ := KK M5 (f5.mono (by decide)) hV5 hR5
  refine ⟨nI v, nI v, M2, M5, ?_, ?_, i5, z5, o5⟩
  · unfold f_X11_takeBest
    rw [h.nC, clT_ok, e1, cl_some, if_neg ne, ek, cl_some, i0]
    exact cls
  · show f_X12_takeBest Z (sL M2 124 0 (nI v).toInt64) = _
    unfold f_X12_takeBest
    have s1 : gI (sL M2 124 0 (nI v).toInt64) 108 1 = nI 1 := by
      rw [gI_sL', kk108, mk1 108 (by decide) (by decide) (by decide), f1.I (by decide)]
      exact h.1
    have n0 : ¬ nI (FBM M (limS (gI M 109)) K).1 = (0 : Int32) := by
      rw [show (0 : Int32) = nI 0 from rfl, nI_eq (by omega) (by decide)]
      omega
    have t4' : gI M3 108 28 = nI (FBM M (limS (gI M 109)) K).1 := t4
    rw [noChainT s1, cl_some, if_pos rfl, e3, cl_some, bd_eq, t4', jnT, if_neg n0, ref0 (by rw [t3 0 (by decide)]; exact T0_0), cl_some, if_pos rfl, e4, cl_some, i0]
    exact e5
theorem ck_takeBest {Z : Nat} {M : Mem} (hZ : 4000 < Z) (hI : Inv M) : CK (f_L_takeBest Z M) (fun M => f_X12_takeBest Z M) (·.toInt64) := by
  unfold f_L_takeBest
  rcases hI.2.2.2.2.2 with h | h
  · exact CK.er hI (e := 0) (c := 1) (w := 0) (by unfold f_X11_takeBest; rw [needChain0 h.2.1]; rfl) rfl (by decide) (by unfold f_X12_takeBest; rw [noChain0 h.1]; rfl)
  · obtain ⟨K, k1, k2, k3, k4⟩ := cho_end h.2.1
    obtain ⟨M1, e1, f1, p1, g1⟩ := clsBest hZ h fr.rfl h.2.2.2.2.2.2.2.2 (lim0 h) k1 k2 k3 k4
    have hF := FB_ok (S := gI M 109) (st := pn (gI M 109) 0) (lim := limS (gI M 109)) h.2.1 h.hz.2.2.1 h.hz.2.2.2 K
    by_cases c : (FBM M (limS (gI M 109)) K).1 = 0
    · obtain ⟨M2, e2, i2, z2⟩ := no_takeBest hZ hI h f1 p1 k1 k2 k3 k4 c
      refine ⟨1, M1, 0, M2, ?_, e2, i2, z2, fun z => absurd z (by decide)⟩
      unfold f_X11_takeBest
      rw [h.nC, clT_ok, e1, cl_some, if_pos (show (FBM M (limS (gI M 109)) K).2.1 = -9223372036854775808 from hF.2.1 c), clT_err]
      rfl
    · exact CK.mk (ok_takeBest hZ hI h f1 p1 k1 k2 k3 k4 (Nat.pos_of_ne_zero c) e1 (g1 (Nat.pos_of_ne_zero c)))
theorem b_law_51 {Z L a : Nat} {xs : Nat → Int32} {M : Mem} {j : Mem → Option Unit} (hZ : 4000 < Z) (hI : Inv M) (ha : a + 6 ≤ L) (hL : L ≤ 3072) (hj : ∀ M1, Inv M1 → j M1 = some ()) : f_law_51 Z L xs M (nI a) j = some () := by
  unfold f_law_51
  exact (ck_takeBest hZ hI).tail hj
