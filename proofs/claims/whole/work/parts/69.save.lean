theorem needSlot_eq {Z : Nat} {M : Mem} {p : Int32} : f_X11_needSlot Z M p = some (if inR p 2 then .ok () else .error 1, M) := by
  unfold f_X11_needSlot
  simp only [jn_eq, lt0, i2, ltn (show 2 < 2 ^ 31 by decide)]
  by_cases c : p.toInt < 0
  · rw [if_pos c, if_neg (by unfold inR; omega)]
  · rw [if_neg c]
    by_cases d : p.toInt < ((2 : Nat) : Int)
    · rw [if_pos d, if_pos (by unfold inR; omega)]
    · rw [if_neg d, if_neg (by unfold inR; omega)]
def sq1 (q z : Nat) : Nat := if q / 2 ^ z % 2 = 1 then q else q + 2 ^ z
theorem sq1_ok : ∀ q, q < 4 → ∀ z, z < 2 → nI q ||| ((1 : Int32) <<< (nI z &&& 31)) = nI (sq1 q z) ∧ sq1 q z < 4 ∧ ∀ y, y < 2 → sq1 q z / 2 ^ y % 2 = if y = z then 1 else q / 2 ^ y % 2 := by decide +kernel
theorem slot_R {M : Mem} (h : IS M) {z : Nat} (hz : z < 2) : gR M 37 z = some (80 + 6 * z) := by
  have : z = 0 ∨ z = 1 := by omega
  rcases this with rfl | rfl
  · exact h.1
  · exact h.2
theorem slot_sh : ∀ z, z < 2 → SH[80 + 6 * z]? = some (13, 9) := by decide
theorem wrZ_n {β : Type} {M : Mem} {o n j : Nat} {v : Int32} {k : Mem → Option β} (h : j < n) (hn : n < 100000) : wrZ M o n (nI j) v k = k (sI M o j (vp_nar .boolean v)) := by
  have e := nI_clamp (n := j) (by omega)
  have : inB (nI j) n = true := by
    simp only [inB, Bool.and_eq_true, decide_eq_true_eq, e]
    exact ⟨nI_pos' (by omega), h⟩
  simp only [wrZ, this, if_true, e]
theorem nz1 : vp_nar .boolean (1 : Int32) = nI 1 := by decide
theorem nz0 : vp_nar .boolean (0 : Int32) = nI 0 := by decide
theorem hasSlots {M : Mem} (h : Has M) : ∃ q, q < 4 ∧ gI M 35 3 = nI q ∧ ∀ z, z < 2 → gI M 111 z = nI (q / 2 ^ z % 2) ∧ (q / 2 ^ z % 2 = 1 → VS (gI M 112) (fun i => gI M 110 (54 * (8 + z) + i)) ∧ RS (gI M 112) M (80 + 6 * z) (fun i => gI M 110 (54 * (8 + z) + i))) := h.2.2.2.2.2.2.2.1
theorem in_2 {Z : Nat} {M : Mem} {p : Int32} : f_X12_in Z M p.toInt64 0 1 = some (bI (inR p 2), M) := in_R (n := 2) rfl rfl
def lV (z : Nat) : List Nat := blk (80 + 6 * z) ++ [35, 110, 111, 124]
theorem lV_in {z o : Nat} : o ∈ lV z ↔ (80 + 6 * z ≤ o ∧ o < 80 + 6 * z + 6) ∨ o = 35 ∨ o = 110 ∨ o = 111 ∨ o = 124 := by
  unfold lV
  rw [List.mem_append, blk_in]
  simp only [List.mem_cons, List.not_mem_nil, or_false]
theorem ok_save {Z : Nat} (hZ : 4000 < Z) {M : Mem} (hI : Inv M) (h : Has M) {z : Nat} (hz2 : z < 2) : OKc (f_X11_save Z M (nI z)) (fun M => f_X12_save Z M (nI z)) (·.toInt64) (·.toInt64) := by
  have hN := h.N
  have hz := h.z
  obtain ⟨rot, n, hr, h7, hn, hn8, hro, hst⟩ := hasStk h
  obtain ⟨q, hq, e35, hs⟩ := hasSlots h
  have hb := sq1_ok q hq z hz2
  -- class
  obtain ⟨_, M1, e1, f1, c1⟩ := copyFrom_ok (Z := Z) (M := M) (o := 80 + 6 * z) (o2 := 10) (Or.inr (by omega))
  have n35 : 35 ∉ blk (80 + 6 * z) := fun y => by
    have := blk_in.mp y
    omega
  have n10 : 10 ∉ blk (80 + 6 * z) := fun y => by
    have := blk_in.mp y
    omega
  have g35 : gI M1 35 = gI M 35 := f1.I n35
  have fA : fr (lV z) M M1 := f1.mono (fun o ho => List.mem_append_left _ ho)
  have fB : fr (lV z) M (sI M1 35 3 (nI (sq1 q z))) := fr_sI fA (by rw [lV_in]; omega)
  have eseed : gI (sI M1 35 3 (nI (sq1 q z))) 10 5 = gI M 109 2 := by
    rw [gI_sI', if_neg (by decide), f1.I n10]
    exact h.RS.1.2.2.1
  generalize hv : gI M 109 2 = v at eseed
  have fC : fr (lV z) M (sL (sI M1 35 3 (nI (sq1 q z))) 124 0 v.toInt64) := fr_sL fB (by rw [lV_in]; omega)
  have n8 : 108 ∉ lV z := fun y => by
    have := lV_in.mp y
    omega
  have zC : fz (lV z) M (T0 (sL (sI M1 35 3 (nI (sq1 q z))) 124 0 v.toInt64)) := (f4z fC n8).trans fz_T0
  obtain ⟨_, M4, e4, f4, t4, u4⟩ := keeps_ok (Z := Z) (by omega) (M := T0 (sL (sI M1 35 3 (nI (sq1 q z))) 124 0 v.toInt64)) (r := 8 + z) (by omega)
  have zD : fz (lV z) M (sI M4 111 z (nI 1)) := zC.trans ((f4z (fr_sI (f4.mono (l2 := [110, 111]) (by decide)) (by decide)) (by decide)).mono (fun o ho => by
    simp only [List.mem_cons, List.not_mem_nil, or_false] at ho
    rw [lV_in]; omega))
  have nl : ∀ o, o < 80 → o ≠ 35 → o ∉ lV z := fun o h1 h2 y => by
    have := lV_in.mp y
    omega
  have s109 : gI (sI M4 111 z (nI 1)) 109 = gI M 109 := (zD.1 109 (fun y => by have := lV_in.mp y; omega) (by decide)).1
  have t109 : gI (T0 (sL (sI M1 35 3 (nI (sq1 q z))) 124 0 v.toInt64)) 109 = gI M 109 := (zC.1 109 (fun y => by have := lV_in.mp y; omega) (by decide)).1
  have c112 : gI (sI M4 111 z (nI 1)) 112 = gI M 112 := (zD.1 112 (fun y => by have := lV_in.mp y; omega) (by decide)).1
  have p110 : gI (sI M4 111 z (nI 1)) 110 = gI M4 110 := by rw [gI_sI', if_neg (by decide)]
  have o110 : ∀ j, (j < 54 * (8 + z) ∨ 54 * (8 + z) + 54 ≤ j) → gI (sI M4 111 z (nI 1)) 110 j = gI M 110 j := fun j hj => by
    rw [p110, u4 j (by omega), T0_I (by decide), gI_sL', gI_sI', if_neg (by decide), f1.I (fun y => by have := blk_in.mp y; omega)]
  have w110 : ∀ i, i < 54 → gI (sI M4 111 z (nI 1)) 110 (54 * (8 + z) + i) = gI M 109 i := fun i hi => by
    rw [p110, mc54, t4 i hi, t109]
  have g4 : gI (sI M4 111 z (nI 1)) 108 4 = gI M 108 4 := by
    rw [gI_sI, if_neg (fun x => absurd x.1 (by decide)), f4.I (by decide)]
    unfold T0
    rw [gI_sI, if_neg (by decide), fC.I n8]
  have e4' : pn (gI (sI M4 111 z (nI 1)) 108) 4 = pn (gI M 108) 4 := pn_c g4
  have x35 : gI (sI M4 111 z (nI 1)) 35 = gI (sI M1 35 3 (nI (sq1 q z))) 35 := by
    rw [gI_sI', if_neg (by decide), f4.I (by decide), T0_I (by decide), gI_sL']
  have x350 : gI (sI M4 111 z (nI 1)) 35 0 = gI M 35 0 := by rw [x35, gI_sI, if_neg (by decide), g35]
  have x353 : gI (sI M4 111 z (nI 1)) 35 3 = nI (sq1 q z) := by rw [x35, gI_sI, if_pos ⟨rfl, rfl⟩]
  have xs : ∀ i, i < 6 → gI (sI M4 111 z (nI 1)) (80 + 6 * z + i) = gI M1 (80 + 6 * z + i) := fun i hi => by
    rw [gI_sI', if_neg (by omega), f4.I (by simp; omega), T0_I (by omega), gI_sL', gI_sI', if_neg (by omega)]
  have cD : cpd (sI M4 111 z (nI 1)) (80 + 6 * z) M 10 := by
    obtain ⟨b1, b2, b3, b4, b5, b6⟩ := c1
    have w0 : gI (sI M4 111 z (nI 1)) (80 + 6 * z) = gI M1 (80 + 6 * z) := xs 0 (by decide)
    refine ⟨fun k h1 h2 => ?_, fun k hk => ?_, fun k hk => ?_, fun k hk => ?_, fun k hk => ?_, fun k hk => ?_⟩
    · rw [w0, b1 k h1 h2]
    · rw [xs 1 (by decide), b2 k hk]
    · rw [xs 2 (by decide), b3 k hk]
    · rw [xs 3 (by decide), b4 k hk]
    · rw [xs 4 (by decide), b5 k hk]
    · rw [xs 5 (by decide), b6 k hk]
  have hH : Has (sI M4 111 z (nI 1)) := by
    obtain ⟨h1, h2, h3, h4, h5, ⟨a1, a2, a3⟩, ⟨rot', r1, r2, r3⟩, _, h9⟩ := h
    refine ⟨by rw [zD.2 1 (by decide) (by decide)]; exact h1, by rw [c112]; exact h2, by rw [c112]; exact h3.same (fun o a b => (zD.1 o (nl o (by omega) (by omega)) (by omega)).1), by rw [c112, s109]; exact h4, ?_, ⟨by rw [x350, g4]; exact a1, by rw [g4, e4']; exact a2, by rw [e4']; exact a3⟩, ⟨rot', r1, ?_, ?_⟩, ⟨sq1 q z, hb.2.1, x353, fun y hy => ?_⟩, ?_⟩
    · rw [c112, s109]
      exact h5.same (fun i hi => (zD.1 (10 + i) (nl _ (by omega) (by omega)) (by omega)).1)
    · rw [(zD.1 36 (nl 36 (by decide) (by decide)) (by decide)).2.2]
      exact r2
    · rw [e4', c112]
      intro k hk
      obtain ⟨a, b⟩ := r3 k hk
      have hm7 : (rot' + k) % 7 < 7 := Nat.mod_lt _ (by decide)
      have hS : ∀ i, i < 54 → gI (sI M4 111 z (nI 1)) 110 (54 * (1 + k) + i) = gI M 110 (54 * (1 + k) + i) := fun i hi => o110 _ (by omega)
      exact ⟨a.congr hN.2 hz.2.1 hS, (b.same (fun i hi => (zD.1 _ (nl _ (by omega) (by omega)) (by omega)).1)).congr hN.2 hz.2.1 hS⟩
    · rw [c112]
      have e111 : gI (sI M4 111 z (nI 1)) 111 y = if y = z then nI 1 else gI M 111 y := by
        rw [gI_sI, f4.I (by decide), T0_I (by decide), gI_sL', gI_sI', if_neg (show ¬ (111 : Nat) = 35 by decide), f1.I (fun y => by have := blk_in.mp y; omega)]
        by_cases c : y = z
        · rw [if_pos ⟨rfl, c⟩, if_pos c]
        · rw [if_neg (fun x => c x.2), if_neg c]
      rw [e111, hb.2.2 y hy]
      by_cases c : y = z
      · subst c
        rw [if_pos rfl, if_pos rfl]
        exact ⟨rfl, fun _ => ⟨h4.congr hN.2 hz.2.1 w110, (h5.cpd hN.2 cD).congr hN.2 hz.2.1 w110⟩⟩
      · rw [if_neg c, if_neg c]
        obtain ⟨a, b⟩ := hs y hy
        have hS : ∀ i, i < 54 → gI (sI M4 111 z (nI 1)) 110 (54 * (8 + y) + i) = gI M 110 (54 * (8 + y) + i) := fun i hi => o110 _ (by omega)
        refine ⟨a, fun g => ⟨(b g).1.congr hN.2 hz.2.1 hS, ((b g).2.same (fun i hi => (zD.1 _ (fun x => by have := lV_in.mp x; omega) (by omega)).1)).congr hN.2 hz.2.1 hS⟩⟩
    · rw [c112]
      unfold Cache
      rw [(zD.1 96 (fun y => by have := lV_in.mp y; omega) (by decide)).1, (zD.1 97 (fun y => by have := lV_in.mp y; omega) (by decide)).2.1, (zD.1 98 (fun y => by have := lV_in.mp y; omega) (by decide)).2.1]
      exact h9
  have hI4 : Inv (sI M4 111 z (nI 1)) := zD.inv hI (fun o ho y => by
    have h2 := lV_in.mp y
    simp only [List.mem_cons, List.not_mem_nil, or_false] at ho
    omega) hH
  refine ⟨v, v, sI M1 35 3 (nI (sq1 q z)), sI M4 111 z (nI 1), ?_, ?_, hI4, ?_, ?_⟩
  · unfold f_X11_save f_X3_put
    rw [h.nC, clT_ok, needSlot_eq, if_pos (inR_of hz2 (by decide)), clT_ok, rdR_n hz2 (by decide) (slot_R hI.is hz2) (slot_sh z hz2), e1, cl_some, bd_eq, g35, e35, hb.1, bd_eq, cl_some, bd_eq, eseed]
  · show f_X12_save Z (sL (sI M1 35 3 (nI (sq1 q z))) 124 0 v.toInt64) (nI z) = _
    have s1 : gI (sL (sI M1 35 3 (nI (sq1 q z))) 124 0 v.toInt64) 108 1 = nI 1 := by
      rw [fC.I n8]
      exact h.1
    unfold f_X12_save
    rw [noChainT s1, cl_some, if_pos rfl, in_2, cl_some, rfz T0_0 (by decide), if_pos (inR_of hz2 (by decide)), if_pos rfl, i8, nI_add, e4, cl_some, wrZ_n hz2 (by decide), nz1, i2, rdI_n (by decide) (by decide), s109, hv]
  · rw [gI_sI, if_neg (fun x => absurd x.1 (by decide)), f4.I (by decide)]
    exact T0_0
  · rw [gL_sI', f4.L (by decide), T0_L, gL_sL, if_pos ⟨rfl, rfl⟩]
theorem ck_save {Z : Nat} {M : Mem} (hZ : 4000 < Z) (hI : Inv M) (p1 : Int32) : CK (f_L_save Z M p1) (fun M => f_X12_save Z M p1) (·.toInt64) := by
  unfold f_L_save
  rcases hI.2.2.2.2.2 with h | h
  · exact CK.er hI (e := 0) (c := 1) (w := 0) (by unfold f_X11_save; rw [needChain0 h.2.1]; rfl) rfl (by decide) (by unfold f_X12_save; rw [noChain0 h.1]; rfl)
  · by_cases hp : inR p1 2
    · obtain ⟨z, hz, rfl⟩ := inR_nI hp
      exact CK.mk (ok_save hZ hI h hz)
    · exact CK.er hI (e := 1) (c := 2) (w := 0) (by unfold f_X11_save; rw [h.nC, clT_ok, needSlot_eq, if_neg hp]; rfl) rfl (by decide) (by unfold f_X12_save; rw [h.rC, cl_some, if_pos rfl, in_2, cl_some, rfz T0_0 (by decide), if_neg hp]; rfl)
theorem b_law_59 {Z L a : Nat} {xs : Nat → Int32} {M : Mem} {j : Mem → Option Unit} (hZ : 4000 < Z) (hI : Inv M) (ha : a + 6 ≤ L) (hL : L ≤ 3072) (hj : ∀ M1, Inv M1 → j M1 = some ()) : f_law_59 Z L xs M (nI a) j = some () := by
  unfold f_law_59
  simp (disch := omega) only [i1, nI_add, rdX_n]
  generalize xs (a + 1) = p1
  exact (ck_save hZ hI p1).tail hj
theorem isFull_eq {Z : Nat} {M : Mem} {q : Nat} (e35 : gI M 35 3 = nI q) (hq : q < 4) {z : Nat} (hz : z < 2) : f_X3_isFull Z M (nI z) = some (bN (decide (q / 2 ^ z % 2 = 1)), M) := by
  unfold f_X3_isFull
  rw [bd_eq, e35]
  simp only [bit6 q (by omega) z (by omega)]
  unfold bN
  by_cases c : q / 2 ^ z % 2 = 1
  · rw [if_pos c, if_pos (decide_eq_true c)]
  · rw [if_neg c, if_neg (by simp [c])]
theorem ok_restore {Z : Nat} (hZ : 4000 < Z) {M : Mem} (hI : Inv M) (h : Has M) {z q : Nat} (hz2 : z < 2) (hq : q < 4) (e35 : gI M 35 3 = nI q) (e111 : gI M 111 z = nI 1) (hb : q / 2 ^ z % 2 = 1) (sV : VS (gI M 112) (fun i => gI M 110 (54 * (8 + z) + i))) (sR : RS (gI M 112) M (80 + 6 * z) (fun i => gI M 110 (54 * (8 + z) + i))) : OKc (f_X11_restore Z M (nI z)) (fun M => f_X12_restore Z M (nI z)) (·.toInt64) (·.toInt64) := by
  have hN := h.N
  have hz := h.z
  obtain ⟨rot, n, hr, h7, hn, hn8, hro, hst⟩ := hasStk h
  -- class
  obtain ⟨_, M1, e1, f1, c1⟩ := copyFrom_ok (Z := Z) (M := M) (o := 10) (o2 := 80 + 6 * z) (Or.inl (by omega))
  have fB : fr lU M (sI M1 35 0 (nI 0)) := fr_sI (f1.mono blk10) (by decide)
  have n35 : 35 ∉ blk 10 := by decide
  have eseed : gI (sI M1 35 0 (nI 0)) 10 5 = gI M 110 (54 * (8 + z) + 2) := by
    rw [gI_sI', if_neg (by decide), c1.1 5 (by decide) (by decide)]
    exact sR.1.2.2.1
  generalize hv : gI M 110 (54 * (8 + z) + 2) = v at eseed
  have fC : fr lU M (sL (sI M1 35 0 (nI 0)) 124 0 v.toInt64) := fr_sL fB (by decide)
  have zC : fz lU M (T0 (sL (sI M1 35 0 (nI 0)) 124 0 v.toInt64)) := (f4z fC (by decide)).trans fz_T0
  obtain ⟨_, M4, e4, f4, t4⟩ := fetches_ok (Z := Z) (by omega) (M := T0 (sL (sI M1 35 0 (nI 0)) 124 0 v.toInt64)) (r := 8 + z) (by omega)
  have zD : fz lU M (sI M4 108 4 (nI 0)) := (zC.trans ((f4z f4 (by decide)).mono (by decide))).trans fz_4
  have S4 : ∀ i, i < 54 → gI (sI M4 108 4 (nI 0)) 109 i = gI M 110 (54 * (8 + z) + i) := fun i hi => by
    rw [gI_sI', if_neg (by decide), t4 i hi, (zC.1 110 (by decide) (by decide)).1, mc54]
  have m10 : ∀ i, i < 6 → gI (sI M4 108 4 (nI 0)) (10 + i) = gI M1 (10 + i) := fun i hi => by
    rw [gI_sI', if_neg (by omega), f4.I (by simp; omega), T0_I (by omega), gI_sL', gI_sI', if_neg (by omega)]
  have c4 : cpd (sI M4 108 4 (nI 0)) 10 M (80 + 6 * z) := by
    obtain ⟨b1, b2, b3, b4, b5, b6⟩ := c1
    have m0 : gI (sI M4 108 4 (nI 0)) 10 = gI M1 10 := m10 0 (by decide)
    refine ⟨fun k h1 h2 => ?_, fun k hk => ?_, fun k hk => ?_, fun k hk => ?_, fun k hk => ?_, fun k hk => ?_⟩
    · rw [m0, b1 k h1 h2]
    · rw [m10 1 (by decide), b2 k hk]
    · rw [m10 2 (by decide), b3 k hk]
    · rw [m10 3 (by decide), b4 k hk]
    · rw [m10 4 (by decide), b5 k hk]
    · rw [m10 5 (by decide), b6 k hk]
  have g4 : gI (sI M4 108 4 (nI 0)) 108 4 = nI 0 := by rw [gI_sI, if_pos ⟨rfl, rfl⟩]
  have x35 : gI (sI M4 108 4 (nI 0)) 35 = gI (sI M1 35 0 (nI 0)) 35 := by
    rw [gI_sI', if_neg (by decide), f4.I (by decide), T0_I (by decide), gI_sL']
  have hH : Has (sI M4 108 4 (nI 0)) := hasBack h hr h7 (Nat.zero_le n) hro hst (by rw [zD.2 1 (by decide) (by decide)]; exact h.1) (zD.1 112 (by decide) (by decide)).1 (fun o a b => (zD.1 o (by rw [lU_in]; omega) (by omega)).1) (sV.congr hN.2 hz.2.1 S4) ((sR.cpd hN.2 c4).congr hN.2 hz.2.1 S4) (zD.1 36 (by decide) (by decide)).2.2
    (by rw [x35, gI_sI, if_pos ⟨rfl, rfl⟩]) (by rw [x35, gI_sI, if_neg (by decide), f1.I n35]) g4 (fun o a b => (zD.1 o (by rw [lU_in]; omega) (by omega)).1) (zD.1 110 (by decide) (by decide)).1 (zD.1 111 (by decide) (by decide)).1 ⟨(zD.1 96 (by decide) (by decide)).1, (zD.1 97 (by decide) (by decide)).2.1, (zD.1 98 (by decide) (by decide)).2.1⟩
  have hI4 : Inv (sI M4 108 4 (nI 0)) := zD.inv hI (by decide) hH
  refine ⟨v, v, sI M1 35 0 (nI 0), sI M4 108 4 (nI 0), ?_, ?_, hI4, ?_, ?_⟩
  · unfold f_X11_restore f_X3_take
    rw [needSlot_eq, if_pos (inR_of hz2 (by decide)), clT_ok, isFull_eq e35 hq hz2, cl_some, decide_eq_true hb, if_neg (by decide), rdR_n hz2 (by decide) (slot_R hI.is hz2) (slot_sh z hz2), e1, cl_some, i0, bd_eq, cl_some, bd_eq, eseed]
  · show f_X12_restore Z (sL (sI M1 35 0 (nI 0)) 124 0 v.toInt64) (nI z) = _
    unfold f_X12_restore
    rw [bd_eq, show sI (sL (sI M1 35 0 (nI 0)) 124 0 v.toInt64) 108 0 0 = T0 (sL (sI M1 35 0 (nI 0)) 124 0 v.toInt64) from rfl, in_2, cl_some, rfz T0_0 (by decide), if_pos (inR_of hz2 (by decide)), if_pos rfl, rdI_n hz2 (by decide), (zC.1 111 (by decide) (by decide)).1, e111, jn_eq, if_neg (by decide)]
    dsimp only
    rw [ref0 T0_0, cl_some, if_pos rfl, i8, nI_add, e4, cl_some, i0, bd_eq, i2, rdI_n (by decide) (by decide), S4 2 (by decide), hv]
  · rw [gI_sI, if_neg (by decide), f4.I (by decide)]
    exact T0_0
  · rw [gL_sI', f4.L (by decide), T0_L, gL_sL, if_pos ⟨rfl, rfl⟩]
theorem restoreX {Z : Nat} {M : Mem} (hI : Inv M) {p1 : Int32} (hp : ¬ inR p1 2) : CK (f_L_restore Z M p1) (fun M => f_X12_restore Z M p1) (·.toInt64) := by
  unfold f_L_restore
  refine CK.er hI (e := 1) (c := 1) (w := 0) ?_ rfl (by decide) ?_
  · unfold f_X11_restore
    rw [needSlot_eq, if_neg hp]
    rfl
  · unfold f_X12_restore
    rw [bd_eq, show sI M 108 0 0 = T0 M from rfl, in_2, cl_some, rfz T0_0 (by decide), if_neg hp]
    rfl
theorem restoreE {Z : Nat} {M : Mem} (hI : Inv M) {z q : Nat} (hz2 : z < 2) (hq : q < 4) (e35 : gI M 35 3 = nI q) (e111 : gI M 111 z = nI 0) (hb : ¬ q / 2 ^ z % 2 = 1) : CK (f_L_restore Z M (nI z)) (fun M => f_X12_restore Z M (nI z)) (·.toInt64) := by
  unfold f_L_restore
  refine CK.er hI (e := 0) (c := 2) (w := 0) ?_ rfl (by decide) ?_
  · unfold f_X11_restore
    rw [needSlot_eq, if_pos (inR_of hz2 (by decide)), clT_ok, isFull_eq e35 hq hz2, cl_some, decide_eq_false hb, if_pos (show bN false = 0 from rfl)]
  · unfold f_X12_restore
    rw [bd_eq, show sI M 108 0 0 = T0 M from rfl, in_2, cl_some, rfz T0_0 (by decide), if_pos (inR_of hz2 (by decide)), if_pos rfl, rdI_n hz2 (by decide), T0_I (by decide), e111, jn_eq, if_pos (by decide)]
    dsimp only
    rw [ref1 T0_0 (by decide), cl_some]
    rfl
theorem ck_restore {Z : Nat} {M : Mem} (hZ : 4000 < Z) (hI : Inv M) (p1 : Int32) : CK (f_L_restore Z M p1) (fun M => f_X12_restore Z M p1) (·.toInt64) := by
  by_cases hp : inR p1 2
  · obtain ⟨z, hz, rfl⟩ := inR_nI hp
    rcases hI.2.2.2.2.2 with h | h
    · have e0 : gI M 111 z = nI 0 := by
        have : z = 0 ∨ z = 1 := by omega
        rcases this with rfl | rfl
        · exact h.2.2.2.2.2.2.2.1
        · exact h.2.2.2.2.2.2.2.2.1
      exact restoreE hI hz (q := 0) (by decide) h.2.2.2.2.2.2.1 e0 (by rw [Nat.zero_div]; decide)
    · obtain ⟨q, hq, e35, hs⟩ := hasSlots h
      obtain ⟨a, b⟩ := hs z hz
      by_cases c : q / 2 ^ z % 2 = 1
      · rw [c] at a
        unfold f_L_restore
        exact CK.mk (ok_restore hZ hI h hz hq e35 a c (b c).1 (b c).2)
      · have h2 : q / 2 ^ z % 2 < 2 := Nat.mod_lt _ (by decide)
        rw [show q / 2 ^ z % 2 = 0 by omega] at a
        exact restoreE hI hz hq e35 a c
  · exact restoreX hI hp
theorem b_law_60 {Z L a : Nat} {xs : Nat → Int32} {M : Mem} {j : Mem → Option Unit} (hZ : 4000 < Z) (hI : Inv M) (ha : a + 6 ≤ L) (hL : L ≤ 3072) (hj : ∀ M1, Inv M1 → j M1 = some ()) : f_law_60 Z L xs M (nI a) j = some () := by
  unfold f_law_60
  simp (disch := omega) only [i1, nI_add, rdX_n]
  generalize xs (a + 1) = p1
  exact (ck_restore hZ hI p1).tail hj
