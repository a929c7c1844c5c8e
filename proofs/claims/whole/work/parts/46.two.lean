theorem bI1 {c : Prop} [Decidable c] (h : c) : bI c = 1 := if_pos h
theorem bIz {c : Prop} [Decidable c] (h : ¬ c) : bI c = 0 := if_neg h
theorem Has.amt {M : Mem} (h : Has M) {Z r b : Nat} (hr : r < 18) (hb : b < 3) : f_X0_amountOf Z M 3 (nI r) (nI b) = some (nI (cA (gI M 112) r b), M) := by
  unfold f_X0_amountOf
  simp (disch := omega) only [bd_eq, jn_eq, cl_some, i0, i1, i2, i3, i4, i5, i6, i8, i10, i14, i36, i86, nI_add, nI_mul, rdI_n, rdL_n, wrI_n, wrL_n, nI_ile, nI_ilt]
  rw [h.amts _ hr b hb]
theorem ok_uses {Z : Nat} (_ : 4000 < Z) {M : Mem} (hI : Inv M) (h : Has M) {x y b : Nat} (hx : x < cN (gI M 112)) (hy : y < cM (gI M 112) x) (hb : b < cB (gI M 112)) : OKc (f_X11_uses Z M (nI x) (nI y) (nI b)) (fun M => f_X12_uses Z M (nI x) (nI y) (nI b)) (·.toInt64) (·.toInt64) := by
  have hN := h.N
  have hm := h.z.2.1 x
  have hB := h.b.2.2
  generalize hv : nI (cA (gI M 112) (x * 3 + y) b) = v
  have h2 := h.out (v := v.toInt64)
  refine ⟨v, v, M, T0 (sL M 124 0 v.toInt64), ?_, ?_, hI.kp (out_kp.trans T0.kp), T0_0, ?_⟩
  · unfold f_X11_uses
    rw [h.nA hx, if_pos (inR_of hy (by omega)), clT_ok, h.nB, if_pos (inR_of hb (by omega)), clT_ok, rowOf_eq, cl_some, h.amt (by omega) (by omega), hv, cl_some]
  · show f_X12_uses Z (sL M 124 0 v.toInt64) (nI x) (nI y) (nI b) = _
    unfold f_X12_uses
    rw [h2.rC, cl_some, if_pos rfl, h2.iA hx, Has.s112, bI1 (inR_of hy (by omega)), cl_some]
    simp only [jn_eq]
    rw [if_neg (by decide), h2.iB, Has.s112, bI1 (inR_of hb (by omega)), cl_some, if_neg (by decide), ref0 T0_0, cl_some, if_pos rfl, usesBy_eq h.2.1 (by rw [T0_I (by decide)]; rfl) (by omega) (by omega), hv, cl_some]
  · rw [T0_L, gL_sL, if_pos ⟨rfl, rfl⟩]
theorem ck_uses {Z : Nat} {M : Mem} (hZ : 4000 < Z) (hI : Inv M) (p1 p2 p3 : Int32) : CK (f_L_uses Z M p1 p2 p3) (fun M => f_X12_uses Z M p1 p2 p3) (·.toInt64) := by
  unfold f_L_uses
  rcases hI.2.2.2.2.2 with h | h
  · exact CK.er hI (e := 0) (c := 1) (w := 0) (by unfold f_X11_uses; rw [needAction0 h.2.1]; rfl) rfl (by decide) (by unfold f_X12_uses; rw [noChain0 h.1]; rfl)
  · by_cases hp : inR p1 (cN (gI M 112))
    · obtain ⟨x, hx, rfl⟩ := inR_nI hp
      by_cases hp2 : inR p2 (cM (gI M 112) x)
      · by_cases hp3 : inR p3 (cB (gI M 112))
        · obtain ⟨y, hy, rfl⟩ := inR_nI hp2
          obtain ⟨b, hb, rfl⟩ := inR_nI hp3
          exact CK.mk (ok_uses hZ hI h hx hy hb)
        · exact CK.er hI (e := 1) (c := 2) (w := 0) (by unfold f_X11_uses; rw [h.nA hx, if_pos hp2, clT_ok, h.nB, if_neg hp3]; rfl) rfl (by decide) (by unfold f_X12_uses; rw [h.rC, cl_some, if_pos rfl, h.iA hx, bI1 hp2, cl_some, jn_eq, jn_eq, if_neg (by decide), h.iB, bIz hp3, cl_some, if_pos rfl]; dsimp only; rw [ref1 T0_0 (by decide)]; rfl)
      · exact CK.er hI (e := 1) (c := 2) (w := 0) (by unfold f_X11_uses; rw [h.nA hx, if_neg hp2]; rfl) rfl (by decide) (by unfold f_X12_uses; rw [h.rC, cl_some, if_pos rfl, h.iA hx, bIz hp2, cl_some, jn_eq, jn_eq, if_pos rfl]; dsimp only; rw [ref1 T0_0 (by decide)]; rfl)
    · exact CK.er hI (e := 1) (c := 2) (w := 0) (by unfold f_X11_uses; rw [h.nAX hp]; rfl) rfl (by decide) (by unfold f_X12_uses; rw [h.rC, cl_some, if_pos rfl, h.iAX hp, cl_some, jn_eq, jn_eq, if_pos rfl]; dsimp only; rw [ref1 T0_0 (by decide)]; rfl)
theorem b_law_11 {Z L a : Nat} {xs : Nat → Int32} {M : Mem} {j : Mem → Option Unit} (hZ : 4000 < Z) (hI : Inv M) (ha : a + 6 ≤ L) (hL : L ≤ 3072) (hj : ∀ M1, Inv M1 → j M1 = some ()) : f_law_11 Z L xs M (nI a) j = some () := by
  unfold f_law_11
  simp (disch := omega) only [i1, i2, i3, nI_add, rdX_n]
  generalize xs (a + 1) = p1
  generalize xs (a + 2) = p2
  generalize xs (a + 3) = p3
  exact (ck_uses hZ hI p1 p2 p3).tail hj
theorem ok_percent {Z : Nat} (_ : 4000 < Z) {M : Mem} (hI : Inv M) (h : Has M) {x y b : Nat} (hx : x < cN (gI M 112)) (hy : y < cM (gI M 112) x) (hb : b < cN (gI M 112)) : OKc (f_X11_percent Z M (nI x) (nI y) (nI b)) (fun M => f_X12_percent Z M (nI x) (nI y) (nI b)) (·.toInt64) (·.toInt64) := by
  have hN := h.N
  have hm := h.z.2.1 x
  generalize hv : nI (cP (gI M 112) (x * 3 + y) b) = v
  have h2 := h.out (v := v.toInt64)
  refine ⟨v, v, M, T0 (sL M 124 0 v.toInt64), ?_, ?_, hI.kp (out_kp.trans T0.kp), T0_0, ?_⟩
  · unfold f_X11_percent
    rw [h.nA hx, if_pos (inR_of hy (by omega)), clT_ok, h.nS, if_pos (inR_of hb (by omega)), clT_ok, rowOf_eq, cl_some, percentTo_eq h.c (by omega) (by omega), hv, cl_some]
  · show f_X12_percent Z (sL M 124 0 v.toInt64) (nI x) (nI y) (nI b) = _
    unfold f_X12_percent
    rw [h2.rC, cl_some, if_pos rfl, h2.iA hx, Has.s112, bI1 (inR_of hy (by omega)), cl_some]
    simp only [jn_eq]
    rw [if_neg (by decide), h2.iS, Has.s112, bI1 (inR_of hb (by omega)), cl_some, if_neg (by decide), ref0 T0_0, cl_some, if_pos rfl, percentBy_eq (h.2.1.chR (M := T0 (sL M 124 0 v.toInt64)) (by rw [T0_I (by decide)]; rfl)) (by omega) (by omega), hv, cl_some]
  · rw [T0_L, gL_sL, if_pos ⟨rfl, rfl⟩]
theorem ck_percent {Z : Nat} {M : Mem} (hZ : 4000 < Z) (hI : Inv M) (p1 p2 p3 : Int32) : CK (f_L_percent Z M p1 p2 p3) (fun M => f_X12_percent Z M p1 p2 p3) (·.toInt64) := by
  unfold f_L_percent
  rcases hI.2.2.2.2.2 with h | h
  · exact CK.er hI (e := 0) (c := 1) (w := 0) (by unfold f_X11_percent; rw [needAction0 h.2.1]; rfl) rfl (by decide) (by unfold f_X12_percent; rw [noChain0 h.1]; rfl)
  · by_cases hp : inR p1 (cN (gI M 112))
    · obtain ⟨x, hx, rfl⟩ := inR_nI hp
      by_cases hp2 : inR p2 (cM (gI M 112) x)
      · by_cases hp3 : inR p3 (cN (gI M 112))
        · obtain ⟨y, hy, rfl⟩ := inR_nI hp2
          obtain ⟨b, hb, rfl⟩ := inR_nI hp3
          exact CK.mk (ok_percent hZ hI h hx hy hb)
        · exact CK.er hI (e := 1) (c := 2) (w := 0) (by unfold f_X11_percent; rw [h.nA hx, if_pos hp2, clT_ok, h.nS, if_neg hp3]; rfl) rfl (by decide) (by unfold f_X12_percent; rw [h.rC, cl_some, if_pos rfl, h.iA hx, bI1 hp2, cl_some, jn_eq, jn_eq, if_neg (by decide), h.iS, bIz hp3, cl_some, if_pos rfl]; dsimp only; rw [ref1 T0_0 (by decide)]; rfl)
      · exact CK.er hI (e := 1) (c := 2) (w := 0) (by unfold f_X11_percent; rw [h.nA hx, if_neg hp2]; rfl) rfl (by decide) (by unfold f_X12_percent; rw [h.rC, cl_some, if_pos rfl, h.iA hx, bIz hp2, cl_some, jn_eq, jn_eq, if_pos rfl]; dsimp only; rw [ref1 T0_0 (by decide)]; rfl)
    · exact CK.er hI (e := 1) (c := 2) (w := 0) (by unfold f_X11_percent; rw [h.nAX hp]; rfl) rfl (by decide) (by unfold f_X12_percent; rw [h.rC, cl_some, if_pos rfl, h.iAX hp, cl_some, jn_eq, jn_eq, if_pos rfl]; dsimp only; rw [ref1 T0_0 (by decide)]; rfl)
theorem b_law_12 {Z L a : Nat} {xs : Nat → Int32} {M : Mem} {j : Mem → Option Unit} (hZ : 4000 < Z) (hI : Inv M) (ha : a + 6 ≤ L) (hL : L ≤ 3072) (hj : ∀ M1, Inv M1 → j M1 = some ()) : f_law_12 Z L xs M (nI a) j = some () := by
  unfold f_law_12
  simp (disch := omega) only [i1, i2, i3, nI_add, rdX_n]
  generalize xs (a + 1) = p1
  generalize xs (a + 2) = p2
  generalize xs (a + 3) = p3
  exact (ck_percent hZ hI p1 p2 p3).tail hj
/-- whether an action is permitted -/
def pmt (S : Nat → Int32) (x a : Nat) : Bool := decide (S (22 + (x * 3 + a)) = nI 1)
def bN (b : Bool) : Int32 := if b = true then 1 else 0
theorem bN0 {b : Bool} : (bN b = 0) = (b = false) := by
  cases b <;> simp [bN]
theorem bit_eq : ∀ q, q < 8 → ∀ a, a < 3 → (((nI q >>> (nI a &&& 31)) &&& (1 : Int32)) = (1 : Int32)) = (q / 2 ^ a % 2 = 1) := by decide
theorem permits_eq {Z : Nat} {M : Mem} {P S : Nat → Int32} {o : Nat} (hr : RS P M o S) (hm : ∀ x, cM P x ≤ 3) (hN : cN P ≤ 6) {x a : Nat} (hx : x < cN P) (ha : a < cM P x) : f_X7_permits Z M o (nI x) (nI a) = some (bN (pmt S x a), M) := by
  obtain ⟨q, hq, e, h2⟩ := hr.2.2.1 x hx
  have hma := hm x
  have h3 := h2 a ha
  unfold f_X7_permits
  rw [rdI_n (by omega) (by decide), e]
  simp only [bit_eq q hq a (by omega)]
  unfold pmt bN
  rw [h3]
  have h4 : q / 2 ^ a % 2 < 2 := Nat.mod_lt _ (by decide)
  by_cases c : q / 2 ^ a % 2 = 1
  · rw [if_pos c, if_pos (by rw [c]; rfl)]
  · rw [if_neg c, show q / 2 ^ a % 2 = 0 by omega]
    rfl
theorem isPermittedNow_eq {Z : Nat} {M : Mem} {S : Nat → Int32} (h : gI M 109 = S) {x a : Nat} (hr : x * 3 + a < 18) : f_X12_isPermittedNow Z M (nI x) (nI a) = some (bN (pmt S x a), M) := by
  unfold f_X12_isPermittedNow
  rw [rd109 (c := 22 + 3 * nI x + nI a) (i := 22 + (x * 3 + a)) (by rw [show (22 : Int32) = nI 22 from rfl, i3, nI_mul, nI_add, nI_add, mc3, Nat.add_assoc]) (by omega), h, i1]
  unfold pmt bN
  by_cases c : S (22 + (x * 3 + a)) = nI 1
  · rw [if_pos c, if_pos (decide_eq_true c)]
    rfl
  · rw [if_neg c, if_neg (by simp [c])]
theorem bN_and (b : Bool) : bN b &&& 1 = bN b := by
  cases b <;> rfl
theorem ok_isPermitted {Z : Nat} (_ : 4000 < Z) {M : Mem} (hI : Inv M) (h : Has M) {x y : Nat} (hx : x < cN (gI M 112)) (hy : y < cM (gI M 112) x) : OKc (f_X11_isPermitted Z M (nI x) (nI y)) (fun M => f_X12_isPermitted Z M (nI x) (nI y)) bL bL := by
  have hN := h.N
  have hm := h.z.2.1 x
  generalize hv : bN (pmt (gI M 109) x y) = v
  have h2 := h.out (v := bL v)
  refine ⟨v, v, M, T0 (sL M 124 0 (bL v)), ?_, ?_, hI.kp (out_kp.trans T0.kp), T0_0, ?_⟩
  · unfold f_X11_isPermitted
    rw [h.nA hx, if_pos (inR_of hy (by omega)), clT_ok, permits_eq h.RS h.z.2.1 hN.2 hx hy, cl_some, if_pos (bN_and _), hv]
  · show f_X12_isPermitted Z (sL M 124 0 (bL v)) (nI x) (nI y) = _
    unfold f_X12_isPermitted
    rw [h2.rA hx, Has.s112, if_pos (inR_of hy (by omega)), cl_some, if_pos rfl, isPermittedNow_eq (S := gI M 109) (by rw [T0_I (by decide)]; rfl) (by omega), hv, cl_some]
    rw [← hv]
    cases pmt (gI M 109) x y <;> rfl
  · rw [T0_L, gL_sL, if_pos ⟨rfl, rfl⟩]
theorem ck_isPermitted {Z : Nat} {M : Mem} (hZ : 4000 < Z) (hI : Inv M) (p1 p2 : Int32) : CK (f_L_isPermitted Z M p1 p2) (fun M => f_X12_isPermitted Z M p1 p2) bL := by
  unfold f_L_isPermitted
  rcases hI.2.2.2.2.2 with h | h
  · exact CK.er hI (e := 0) (c := 1) (w := 0) (by unfold f_X11_isPermitted; rw [needAction0 h.2.1]; rfl) rfl (by decide) (by unfold f_X12_isPermitted; rw [noAction0 h.1]; rfl)
  · by_cases hp : inR p1 (cN (gI M 112))
    · obtain ⟨x, hx, rfl⟩ := inR_nI hp
      by_cases hp2 : inR p2 (cM (gI M 112) x)
      · obtain ⟨y, hy, rfl⟩ := inR_nI hp2
        exact CK.mk_b (ok_isPermitted hZ hI h hx hy)
      · exact CK.er hI (e := 1) (c := 2) (w := 0) (by unfold f_X11_isPermitted; rw [h.nA hx, if_neg hp2]; rfl) rfl (by decide) (by unfold f_X12_isPermitted; rw [h.rA hx, if_neg hp2]; rfl)
    · exact CK.er hI (e := 1) (c := 2) (w := 0) (by unfold f_X11_isPermitted; rw [h.nAX hp]; rfl) rfl (by decide) (by unfold f_X12_isPermitted; rw [h.rAX hp]; rfl)
theorem b_law_14 {Z L a : Nat} {xs : Nat → Int32} {M : Mem} {j : Mem → Option Unit} (hZ : 4000 < Z) (hI : Inv M) (ha : a + 6 ≤ L) (hL : L ≤ 3072) (hj : ∀ M1, Inv M1 → j M1 = some ()) : f_law_14 Z L xs M (nI a) j = some () := by
  unfold f_law_14
  simp (disch := omega) only [i1, i2, nI_add, rdX_n]
  generalize xs (a + 1) = p1
  generalize xs (a + 2) = p2
  exact (ck_isPermitted hZ hI p1 p2).tail_b hj
