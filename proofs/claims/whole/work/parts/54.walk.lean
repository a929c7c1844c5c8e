/-! what the latest walk tells -/
def smI : Nat → (Nat → Int32) → Int32
  | 0, _ => 0
  | n + 1, f => smI n f + f n
def WK (P S : Nat → Int32) (n : Nat) : Prop := S 3 = nI n ∧ 1 ≤ n ∧ n ≤ 5 ∧ (∀ t, t ≤ n → S (43 + t) = nI (pn S (43 + t)) ∧ pn S (43 + t) < cN P) ∧ ∀ t, t < n → S (49 + t) = nI (pn S (49 + t)) ∧ pn S (49 + t) < cM P (pn S (43 + t))
theorem VS.wk {P S : Nat → Int32} (h : VS P S) : S 3 = -1 ∨ ∃ n, WK P S n := by
  rcases h.2.2.2.2.2.2.2.2.2 with e | ⟨e1, e2, e3, e4, e5⟩
  · exact Or.inl e
  · exact Or.inr ⟨_, e1, e2, e3, e4, e5⟩
theorem Has.nW0 {M : Mem} (h : Has M) {Z : Nat} (hw : gI M 109 3 = -1) : f_X11_needWalk Z M = some (.error 0, M) := by
  rw [needWalk1 h.c.1 h.N, if_pos (h.RS.1.2.2.2.trans hw)]
theorem Has.nW1 {M : Mem} (h : Has M) {Z n : Nat} (hw : WK (gI M 112) (gI M 109) n) : f_X11_needWalk Z M = some (.ok (), M) := by
  rw [needWalk1 h.c.1 h.N, if_neg (by rw [h.RS.1.2.2.2, hw.1]; exact nI_ne_neg (by have := hw.2.2.1; omega))]
theorem Has.rW0 {M : Mem} (h : Has M) {Z : Nat} (hw : gI M 109 3 = -1) : f_X12_noWalk Z M = some (1, Tc M 1) := by
  have e : gI (T0 M) 109 3 = -1 := by rw [T0_I (by decide)]; exact hw
  unfold f_X12_noWalk
  rw [h.rC, cl_some, if_pos rfl, rd109 (c := 3) (i := 3) (by decide) (by decide), e, jn_eq, if_neg (by decide)]
  dsimp only
  rw [ref1 T0_0 (by decide), cl_some]
  rfl
theorem Has.rW1 {M : Mem} (h : Has M) {Z n : Nat} (hw : WK (gI M 112) (gI M 109) n) : f_X12_noWalk Z M = some (0, T0 M) := by
  have e : gI (T0 M) 109 3 = nI n := by rw [T0_I (by decide)]; exact hw.1
  unfold f_X12_noWalk
  rw [h.rC, cl_some, if_pos rfl, rd109 (c := 3) (i := 3) (by decide) (by decide), e, jn_eq, if_pos (nI_pos' (by have := hw.2.2.1; omega))]
  dsimp only
  rw [ref0 T0_0, cl_some]
  rfl
theorem ok_walked {Z : Nat} (_ : 4000 < Z) {M : Mem} (hI : Inv M) (h : Has M) {n t : Nat} (hw : WK (gI M 112) (gI M 109) n) (ht : t ≤ n) : OKc (f_X11_walked Z M (nI t)) (fun M => f_X12_walked Z M (nI t)) (·.toInt64) (·.toInt64) := by
  have hn := hw.2.2.1
  generalize hv : gI M 109 (43 + t) = v
  have h2 := h.out (v := v.toInt64)
  have j9 : gI (T0 (sL M 124 0 v.toInt64)) 109 3 = nI n := by rw [T0_I (by decide)]; exact hw.1
  refine ⟨v, v, M, T0 (sL M 124 0 v.toInt64), ?_, ?_, hI.kp (out_kp.trans T0.kp), T0_0, ?_⟩
  · unfold f_X11_walked
    rw [h.nW1 hw, clT_ok, bd_eq, h.RS.1.2.2.2, hw.1, needRangeN (a := 0) (b := n) rfl (nI_toInt (by omega)), if_pos (inN_of (Nat.zero_le _) ht (by omega)), clT_ok, rdI_n (by omega) (by decide), show (14 : Nat) = 10 + 4 from rfl, h.RS.2.2.2.2.1 t (by omega), hv]
  · show f_X12_walked Z (sL M 124 0 v.toInt64) (nI t) = _
    unfold f_X12_walked
    rw [h2.rW1 hw, cl_some, if_pos rfl, rd109 (c := 3) (i := 3) (by decide) (by decide), j9, in_N (a := 0) (b := n) rfl (by rw [Int32.toInt_toInt64, nI_toInt (by omega)]), cl_some, rfz T0_0 (by decide), if_pos (inN_of (Nat.zero_le _) ht (by omega)), if_pos rfl, rd109 (c := 43 + nI t) (i := 43 + t) (by rw [show (43 : Int32) = nI 43 from rfl, nI_add]) (by omega), T0_I (by decide), Has.s109, hv]
  · rw [T0_L, gL_sL, if_pos ⟨rfl, rfl⟩]
theorem ck_walked {Z : Nat} {M : Mem} (hZ : 4000 < Z) (hI : Inv M) (p1 : Int32) : CK (f_L_walked Z M p1) (fun M => f_X12_walked Z M p1) (·.toInt64) := by
  unfold f_L_walked
  rcases hI.2.2.2.2.2 with h | h
  · exact CK.er hI (e := 0) (c := 1) (w := 0) (by unfold f_X11_walked; rw [needWalk0 h.2.1]; rfl) rfl (by decide) (by unfold f_X12_walked; rw [show f_X12_noWalk Z M = some (1, Tc M 1) from by unfold f_X12_noWalk; rw [noChain0 h.1]; rfl]; rfl)
  · rcases h.VS.wk with hw | ⟨n, hw⟩
    · exact CK.er hI (e := 0) (c := 1) (w := 0) (by unfold f_X11_walked; rw [h.nW0 hw]; rfl) rfl (by decide) (by unfold f_X12_walked; rw [h.rW0 hw]; rfl)
    · have hn := hw.2.2.1
      have j9 : gI (T0 M) 109 3 = nI n := by rw [T0_I (by decide)]; exact hw.1
      by_cases hp : inN p1 0 n
      · obtain ⟨t, _, ht, rfl⟩ := inN_nI hp
        exact CK.mk (ok_walked hZ hI h hw ht)
      · exact CK.er hI (e := 2) (c := 2) (w := 0) (by unfold f_X11_walked; rw [h.nW1 hw, clT_ok, bd_eq, h.RS.1.2.2.2, hw.1, needRangeN (a := 0) (b := n) rfl (nI_toInt (by omega)), if_neg hp]; rfl) rfl (by decide) (by unfold f_X12_walked; rw [h.rW1 hw, cl_some, if_pos rfl, rd109 (c := 3) (i := 3) (by decide) (by decide), j9, in_N (a := 0) (b := n) rfl (by rw [Int32.toInt_toInt64, nI_toInt (by omega)]), cl_some, rfz T0_0 (by decide), if_neg hp]; rfl)
theorem b_law_43 {Z L a : Nat} {xs : Nat → Int32} {M : Mem} {j : Mem → Option Unit} (hZ : 4000 < Z) (hI : Inv M) (ha : a + 6 ≤ L) (hL : L ≤ 3072) (hj : ∀ M1, Inv M1 → j M1 = some ()) : f_law_43 Z L xs M (nI a) j = some () := by
  unfold f_law_43
  simp (disch := omega) only [i1, nI_add, rdX_n]
  generalize xs (a + 1) = p1
  exact (ck_walked hZ hI p1).tail hj
theorem ok_walkedBy {Z : Nat} (_ : 4000 < Z) {M : Mem} (hI : Inv M) (h : Has M) {n t : Nat} (hw : WK (gI M 112) (gI M 109) n) (ht : t < n) : OKc (f_X11_walkedBy Z M (nI t)) (fun M => f_X12_walkedBy Z M (nI t)) (·.toInt64) (·.toInt64) := by
  have hn := hw.2.2.1
  generalize hv : gI M 109 (49 + t) = v
  have h2 := h.out (v := v.toInt64)
  have j9 : gI (T0 (sL M 124 0 v.toInt64)) 109 3 = nI n := by rw [T0_I (by decide)]; exact hw.1
  refine ⟨v, v, M, T0 (sL M 124 0 v.toInt64), ?_, ?_, hI.kp (out_kp.trans T0.kp), T0_0, ?_⟩
  · unfold f_X11_walkedBy
    rw [h.nW1 hw, clT_ok, bd_eq, h.RS.1.2.2.2, hw.1, needRangeR (n := n) rfl (ltopI (by omega)), if_pos (inR_of ht (by omega)), clT_ok, rdI_n (by omega) (by decide), show (15 : Nat) = 10 + 5 from rfl, h.RS.2.2.2.2.2 t (by omega), hv]
  · show f_X12_walkedBy Z (sL M 124 0 v.toInt64) (nI t) = _
    unfold f_X12_walkedBy
    rw [h2.rW1 hw, cl_some, if_pos rfl, rd109 (c := 3) (i := 3) (by decide) (by decide), j9, in_n (by omega), cl_some, rfz T0_0 (by decide), if_pos (inR_of ht (by omega)), if_pos rfl, rd109 (c := 49 + nI t) (i := 49 + t) (by rw [show (49 : Int32) = nI 49 from rfl, nI_add]) (by omega), T0_I (by decide), Has.s109, hv]
  · rw [T0_L, gL_sL, if_pos ⟨rfl, rfl⟩]
theorem ck_walkedBy {Z : Nat} {M : Mem} (hZ : 4000 < Z) (hI : Inv M) (p1 : Int32) : CK (f_L_walkedBy Z M p1) (fun M => f_X12_walkedBy Z M p1) (·.toInt64) := by
  unfold f_L_walkedBy
  rcases hI.2.2.2.2.2 with h | h
  · exact CK.er hI (e := 0) (c := 1) (w := 0) (by unfold f_X11_walkedBy; rw [needWalk0 h.2.1]; rfl) rfl (by decide) (by unfold f_X12_walkedBy; rw [show f_X12_noWalk Z M = some (1, Tc M 1) from by unfold f_X12_noWalk; rw [noChain0 h.1]; rfl]; rfl)
  · rcases h.VS.wk with hw | ⟨n, hw⟩
    · exact CK.er hI (e := 0) (c := 1) (w := 0) (by unfold f_X11_walkedBy; rw [h.nW0 hw]; rfl) rfl (by decide) (by unfold f_X12_walkedBy; rw [h.rW0 hw]; rfl)
    · have hn := hw.2.2.1
      have j9 : gI (T0 M) 109 3 = nI n := by rw [T0_I (by decide)]; exact hw.1
      by_cases hp : inR p1 n
      · obtain ⟨t, ht, rfl⟩ := inR_nI hp
        exact CK.mk (ok_walkedBy hZ hI h hw ht)
      · exact CK.er hI (e := 2) (c := 2) (w := 0) (by unfold f_X11_walkedBy; rw [h.nW1 hw, clT_ok, bd_eq, h.RS.1.2.2.2, hw.1, needRangeR (n := n) rfl (ltopI (by omega)), if_neg hp]; rfl) rfl (by decide) (by unfold f_X12_walkedBy; rw [h.rW1 hw, cl_some, if_pos rfl, rd109 (c := 3) (i := 3) (by decide) (by decide), j9, in_n (by omega), cl_some, rfz T0_0 (by decide), if_neg hp]; rfl)
theorem b_law_44 {Z L a : Nat} {xs : Nat → Int32} {M : Mem} {j : Mem → Option Unit} (hZ : 4000 < Z) (hI : Inv M) (ha : a + 6 ≤ L) (hL : L ≤ 3072) (hj : ∀ M1, Inv M1 → j M1 = some ()) : f_law_44 Z L xs M (nI a) j = some () := by
  unfold f_law_44
  simp (disch := omega) only [i1, nI_add, rdX_n]
  generalize xs (a + 1) = p1
  exact (ck_walkedBy hZ hI p1).tail hj
theorem ofWalk_eq {Z : Nat} {M : Mem} {P S : Nat → Int32} (hV : VP P) (hP : gI M 112 = P) (hSM : gI M 109 = S) (hZ : 20 < Z) {n : Nat} (hw : WK P S n) {p0 : Int32} {its : Nat → Nat → Int32} (hits : (p0 = -1 ∧ ∀ x a, its x a = P (14 + (x * 3 + a))) ∨ ∃ b, b < 3 ∧ p0 = nI b ∧ ∀ x a, its x a = nI (cA P (x * 3 + a) b)) : f_X12_ofWalk Z M p0 = some (smI n (fun t => its (pn S (43 + t)) (pn S (49 + t))), M) := by
  have hn := hw.2.2.1
  have hN := hV.2.1.2.1
  unfold f_X12_ofWalk
  rw [i0]
  refine lpS (σ := Unit) (fun m i _ => f_X12_ofWalk_L4 Z p0 m (smI i (fun t => its (pn S (43 + t)) (pn S (49 + t)))) (nI i) M) (fun q => q = some (smI n (fun t => its (pn S (43 + t)) (pn S (49 + t))), M)) (fun _ _ => True) 0 n (s := ()) (by omega) (by omega) trivial ?_ ?_
  · intro m t _ _ ht _ K
    have K1 := K () trivial
    have w1 := hw.2.2.2.1 t (by omega)
    have w2 := hw.2.2.2.2 t ht
    have hm := hV.sz.2.1 (pn S (43 + t))
    have e9 : smI (t + 1) (fun t => its (pn S (43 + t)) (pn S (49 + t))) = smI t (fun t => its (pn S (43 + t)) (pn S (49 + t))) + its (pn S (43 + t)) (pn S (49 + t)) := rfl
    rw [e9] at K1
    rw [f_X12_ofWalk_L4]
    rcases hits with ⟨rfl, hi⟩ | ⟨b, hb, rfl, hi⟩
    · have hneg : ¬ (0 : Int32) ≤ -1 := by decide
      simp (disch := omega) only [hSM, hw.1, if_neg (show ¬ n ≤ t by omega), nI_ile, if_neg hneg, jn_eq, i3, show (43 : Int32) = nI 43 from rfl, show (49 : Int32) = nI 49 from rfl, i1, nI_add, rdI_n, w1.1, w2.1, gainBy_eq hP (show pn S (43 + t) * 3 + pn S (49 + t) < 18 by omega), cl_some, ← hi]
      exact K1
    · have hpos : (0 : Int32) ≤ nI b := nI_pos' (by omega)
      simp (disch := omega) only [hSM, hw.1, if_neg (show ¬ n ≤ t by omega), nI_ile, if_pos hpos, jn_eq, i3, show (43 : Int32) = nI 43 from rfl, show (49 : Int32) = nI 49 from rfl, i1, nI_add, rdI_n, w1.1, w2.1, usesBy_eq hV hP (show pn S (43 + t) * 3 + pn S (49 + t) < 18 by omega) hb, cl_some, ← hi]
      exact K1
  · intro m _ _
    rw [f_X12_ofWalk_L4]
    simp (disch := omega) only [hSM, hw.1, ge_self, if_true, i3, rdI_n]
theorem walkRow_eq {Z : Nat} {M : Mem} {P S : Nat → Int32} (hr : RS P M 10 S) {n t : Nat} (hw : WK P S n) (ht : t < n) : f_X7_walkRow Z M 10 (nI t) = some (nI (pn S (43 + t) * 3 + pn S (49 + t)), M) := by
  have hn := hw.2.2.1
  unfold f_X7_walkRow
  rw [rdI_n (by omega) (by decide), rdI_n (by omega) (by decide), hr.2.2.2.2.1 t (by omega), hr.2.2.2.2.2 t (by omega), (hw.2.2.2.1 t (by omega)).1, (hw.2.2.2.2 t ht).1, rowOf_eq, cl_some]
theorem ok_walkGain {Z : Nat} (hZ : 4000 < Z) {M : Mem} (hI : Inv M) (h : Has M) {n : Nat} (hw : WK (gI M 112) (gI M 109) n) : OKc (f_X11_walkGain Z M) (fun M => f_X12_walkGain Z M) (·.toInt64) (·.toInt64) := by
  have hn := hw.2.2.1
  have hN := h.N
  generalize hv : smI n (fun t => gI M 112 (14 + (pn (gI M 109) (43 + t) * 3 + pn (gI M 109) (49 + t)))) = v
  have h2 := h.out (v := v.toInt64)
  have e2 := ofWalk_eq (Z := Z) (M := T0 (sL M 124 0 v.toInt64)) (P := gI M 112) (S := gI M 109) h.2.1 (by rw [T0_I (by decide)]; rfl) (by rw [T0_I (by decide)]; rfl) (by omega) hw (its := fun x a => gI M 112 (14 + (x * 3 + a))) (Or.inl ⟨rfl, fun _ _ => rfl⟩)
  rw [hv] at e2
  refine ⟨v, v, M, T0 (sL M 124 0 v.toInt64), ?_, ?_, hI.kp (out_kp.trans T0.kp), T0_0, ?_⟩
  · unfold f_X11_walkGain
    rw [h.nW1 hw, clT_ok, i0]
    refine lpS (σ := Unit) (fun m i _ => f_X11_walkGain_L8 Z m (smI i (fun t => gI M 112 (14 + (pn (gI M 109) (43 + t) * 3 + pn (gI M 109) (49 + t))))) (nI i) M) (fun q => q = some (.ok v, M)) (fun _ _ => True) 0 n (s := ()) (by omega) (by omega) trivial ?_ ?_
    · intro m t _ _ ht _ K
      have w1 := hw.2.2.2.1 t (by omega)
      have w2 := hw.2.2.2.2 t ht
      have hm := h.z.2.1 (pn (gI M 109) (43 + t))
      rw [f_X11_walkGain_L8, bd_eq, h.RS.1.2.2.2, hw.1]
      simp (disch := omega) only [if_neg (show ¬ n ≤ t by omega), nI_ile, walkRow_eq h.RS hw ht, cl_some, rdI_n, h.gains _ (show pn (gI M 109) (43 + t) * 3 + pn (gI M 109) (49 + t) < 18 by omega), i1, nI_add]
      exact K () trivial
    · intro m _ _
      rw [f_X11_walkGain_L8, bd_eq, h.RS.1.2.2.2, hw.1]
      simp only [ge_self, if_true, hv]
  · show f_X12_walkGain Z (sL M 124 0 v.toInt64) = _
    unfold f_X12_walkGain
    rw [h2.rW1 hw, cl_some, if_pos rfl, e2, cl_some]
  · rw [T0_L, gL_sL, if_pos ⟨rfl, rfl⟩]
theorem ck_walkGain {Z : Nat} {M : Mem} (hZ : 4000 < Z) (hI : Inv M) : CK (f_L_walkGain Z M) (fun M => f_X12_walkGain Z M) (·.toInt64) := by
  unfold f_L_walkGain
  rcases hI.2.2.2.2.2 with h | h
  · exact CK.er hI (e := 0) (c := 1) (w := 0) (by unfold f_X11_walkGain; rw [needWalk0 h.2.1]; rfl) rfl (by decide) (by unfold f_X12_walkGain; rw [show f_X12_noWalk Z M = some (1, Tc M 1) from by unfold f_X12_noWalk; rw [noChain0 h.1]; rfl]; rfl)
  · rcases h.VS.wk with hw | ⟨n, hw⟩
    · exact CK.er hI (e := 0) (c := 1) (w := 0) (by unfold f_X11_walkGain; rw [h.nW0 hw]; rfl) rfl (by decide) (by unfold f_X12_walkGain; rw [h.rW0 hw]; rfl)
    · exact CK.mk (ok_walkGain hZ hI h hw)
theorem b_law_45 {Z L a : Nat} {xs : Nat → Int32} {M : Mem} {j : Mem → Option Unit} (hZ : 4000 < Z) (hI : Inv M) (ha : a + 6 ≤ L) (hL : L ≤ 3072) (hj : ∀ M1, Inv M1 → j M1 = some ()) : f_law_45 Z L xs M (nI a) j = some () := by
  unfold f_law_45
  exact (ck_walkGain hZ hI).tail hj
theorem ok_walkUsed {Z : Nat} (hZ : 4000 < Z) {M : Mem} (hI : Inv M) (h : Has M) {n b : Nat} (hw : WK (gI M 112) (gI M 109) n) (hb : b < cB (gI M 112)) : OKc (f_X11_walkUsed Z M (nI b)) (fun M => f_X12_walkUsed Z M (nI b)) (·.toInt64) (·.toInt64) := by
  have hn := hw.2.2.1
  have hN := h.N
  have hB := h.b.2.2
  generalize hv : smI n (fun t => nI (cA (gI M 112) (pn (gI M 109) (43 + t) * 3 + pn (gI M 109) (49 + t)) b)) = v
  have h2 := h.out (v := v.toInt64)
  have e2 := ofWalk_eq (Z := Z) (M := T0 (sL M 124 0 v.toInt64)) (P := gI M 112) (S := gI M 109) h.2.1 (by rw [T0_I (by decide)]; rfl) (by rw [T0_I (by decide)]; rfl) (by omega) hw (its := fun x a => nI (cA (gI M 112) (x * 3 + a) b)) (Or.inr ⟨b, by omega, rfl, fun _ _ => rfl⟩)
  rw [hv] at e2
  refine ⟨v, v, M, T0 (sL M 124 0 v.toInt64), ?_, ?_, hI.kp (out_kp.trans T0.kp), T0_0, ?_⟩
  · unfold f_X11_walkUsed
    rw [h.nW1 hw, clT_ok, h.nB, if_pos (inR_of hb (by omega)), clT_ok, i0]
    refine lpS (σ := Unit) (fun m i _ => f_X11_walkUsed_L13 Z (nI b) m (smI i (fun t => nI (cA (gI M 112) (pn (gI M 109) (43 + t) * 3 + pn (gI M 109) (49 + t)) b))) (nI i) M) (fun q => q = some (.ok v, M)) (fun _ _ => True) 0 n (s := ()) (by omega) (by omega) trivial ?_ ?_
    · intro m t _ _ ht _ K
      have w1 := hw.2.2.2.1 t (by omega)
      have w2 := hw.2.2.2.2 t ht
      have hm := h.z.2.1 (pn (gI M 109) (43 + t))
      rw [f_X11_walkUsed_L13, bd_eq, h.RS.1.2.2.2, hw.1]
      simp (disch := omega) only [if_neg (show ¬ n ≤ t by omega), nI_ile, walkRow_eq h.RS hw ht, cl_some, h.amt (show pn (gI M 109) (43 + t) * 3 + pn (gI M 109) (49 + t) < 18 by omega) (show b < 3 by omega), i1, nI_add]
      exact K () trivial
    · intro m _ _
      rw [f_X11_walkUsed_L13, bd_eq, h.RS.1.2.2.2, hw.1]
      simp only [ge_self, if_true, hv]
  · show f_X12_walkUsed Z (sL M 124 0 v.toInt64) (nI b) = _
    unfold f_X12_walkUsed
    rw [h2.rW1 hw, cl_some, if_pos rfl, h2.iB, cl_some, rfz T0_0 (by decide), if_pos (by rw [Has.s112]; exact inR_of hb (by omega)), if_pos rfl, e2, cl_some]
  · rw [T0_L, gL_sL, if_pos ⟨rfl, rfl⟩]
theorem ck_walkUsed {Z : Nat} {M : Mem} (hZ : 4000 < Z) (hI : Inv M) (p1 : Int32) : CK (f_L_walkUsed Z M p1) (fun M => f_X12_walkUsed Z M p1) (·.toInt64) := by
  unfold f_L_walkUsed
  rcases hI.2.2.2.2.2 with h | h
  · exact CK.er hI (e := 0) (c := 1) (w := 0) (by unfold f_X11_walkUsed; rw [needWalk0 h.2.1]; rfl) rfl (by decide) (by unfold f_X12_walkUsed; rw [show f_X12_noWalk Z M = some (1, Tc M 1) from by unfold f_X12_noWalk; rw [noChain0 h.1]; rfl]; rfl)
  · rcases h.VS.wk with hw | ⟨n, hw⟩
    · exact CK.er hI (e := 0) (c := 1) (w := 0) (by unfold f_X11_walkUsed; rw [h.nW0 hw]; rfl) rfl (by decide) (by unfold f_X12_walkUsed; rw [h.rW0 hw]; rfl)
    · by_cases hp : inR p1 (cB (gI M 112))
      · obtain ⟨b, hb, rfl⟩ := inR_nI hp
        exact CK.mk (ok_walkUsed hZ hI h hw hb)
      · exact CK.er hI (e := 1) (c := 2) (w := 0) (by unfold f_X11_walkUsed; rw [h.nW1 hw, clT_ok, h.nB, if_neg hp]; rfl) rfl (by decide) (by unfold f_X12_walkUsed; rw [h.rW1 hw, cl_some, if_pos rfl, h.iB, cl_some, rfz T0_0 (by decide), if_neg hp]; rfl)
theorem b_law_46 {Z L a : Nat} {xs : Nat → Int32} {M : Mem} {j : Mem → Option Unit} (hZ : 4000 < Z) (hI : Inv M) (ha : a + 6 ≤ L) (hL : L ≤ 3072) (hj : ∀ M1, Inv M1 → j M1 = some ()) : f_law_46 Z L xs M (nI a) j = some () := by
  unfold f_law_46
  simp (disch := omega) only [i1, nI_add, rdX_n]
  generalize xs (a + 1) = p1
  exact (ck_walkUsed hZ hI p1).tail hj
theorem ck_reportByte {Z : Nat} {M : Mem} (hZ : 4000 < Z) (hI : Inv M) (p1 : Int32) : CK (f_L_reportByte Z M p1) (fun M => f_X12_reportByte Z M p1) (·.toInt64) := by
  unfold f_L_reportByte
  obtain ⟨_, e1, e2, e3, e4⟩ := hI.2.2.1
  generalize pn (gI M 108) 31 = n at e2 e3 e4
  rw [e2] at e1
  have ec : f_X11_reportByte Z M p1 = if inR p1 n then rdI M 106 114 p1 (fun v4 => some (.ok v4, M)) else some (.error 1, M) := by
    unfold f_X11_reportByte
    simp only [jn_eq, bd_eq, e1, lt0, ltn (show n < 2 ^ 31 by omega)]
    by_cases c : p1.toInt < 0
    · rw [if_pos c, if_neg (by unfold inR; omega)]
    · rw [if_neg c]
      by_cases d : p1.toInt < (n : Int)
      · rw [if_pos d, if_pos (by unfold inR; omega)]
      · rw [if_neg d, if_neg (by unfold inR; omega)]
  by_cases hp : inR p1 n
  · obtain ⟨i, hi, rfl⟩ := inR_nI hp
    generalize hv : gI M 106 i = v
    have j31 : gI (T0 (sL M 124 0 v.toInt64)) 108 31 = nI n := by
      unfold T0
      rw [gI_sI, if_neg (by omega), gI_sL']
      exact e2
    refine CK.mk ⟨v, v, M, T0 (sL M 124 0 v.toInt64), ?_, ?_, hI.kp (out_kp.trans T0.kp), T0_0, ?_⟩
    · rw [ec, if_pos hp, rdI_n (by omega) (by decide), hv]
    · show f_X12_reportByte Z (sL M 124 0 v.toInt64) (nI i) = _
      unfold f_X12_reportByte
      rw [bd_eq, bd_eq, show sI (sL M 124 0 v.toInt64) 108 0 0 = T0 (sL M 124 0 v.toInt64) from rfl, j31, in_n (by omega), cl_some, rfz T0_0 (by decide), if_pos hp, if_pos rfl, rdI_n (by omega) (by decide), T0_I (by decide), gI_sL', ← e4 i hi, hv]
    · rw [T0_L, gL_sL, if_pos ⟨rfl, rfl⟩]
  · have j31 : gI (T0 M) 108 31 = nI n := by
      unfold T0
      rw [gI_sI, if_neg (by omega)]
      exact e2
    refine CK.er hI (e := 1) (c := 1) (w := 0) ?_ rfl (by decide) ?_
    · rw [ec, if_neg hp]
    · unfold f_X12_reportByte
      rw [bd_eq, bd_eq, show sI M 108 0 0 = T0 M from rfl, j31, in_n (by omega), cl_some, rfz T0_0 (by decide), if_neg hp]
      rfl
theorem b_law_49 {Z L a : Nat} {xs : Nat → Int32} {M : Mem} {j : Mem → Option Unit} (hZ : 4000 < Z) (hI : Inv M) (ha : a + 6 ≤ L) (hL : L ≤ 3072) (hj : ∀ M1, Inv M1 → j M1 = some ()) : f_law_49 Z L xs M (nI a) j = some () := by
  unfold f_law_49
  simp (disch := omega) only [i1, nI_add, rdX_n]
  generalize xs (a + 1) = p1
  exact (ck_reportByte hZ hI p1).tail hj
