theorem rUsedW {Z : Nat} {M : Mem} {P : Nat → Int32} (hV : VP P) (hP : gI M 112 = P) (hZ : 60 < Z) {st H : Nat} {W : Nat → Nat} (hS : SR M st H W) (hK : WOK P W) (hst : st < cN P) (h1 : 1 ≤ H) (hH : H ≤ 5) {b : Nat} (hb : b < 3) : OK (f_X12_ofRun Z M (nI b)) (fun v M' => fr [116] M M' ∧ v = lN (uN P W b st H)) := by
  obtain ⟨v, M1, e1, f1, hv⟩ := ofRun_ok (Z := Z) hV hP hZ hS hst h1 hH hK.1 (fun x y hx hy => by
    have h1 := hK.T hV x hx
    have h2 := le_sm (f := Tp (cM P) (cP P) W x) hy
    omega) (its := fun x a => nI (cA P (x * 3 + a) b)) (Or.inr ⟨b, hb, rfl, fun _ _ => rfl⟩)
  refine ⟨v, M1, e1, f1, ?_⟩
  rw [hv, ← uRun_lN, ← uRun_eq hH]
  refine smL_congr (fun x _ => ?_)
  congr 1
  refine smL_congr (fun a _ => ?_)
  have := hV.2.2.2.2.2.1 (x * 3 + a) b
  rw [nI_l (by omega), lN_mul]
theorem rGainW {Z : Nat} {M : Mem} {P : Nat → Int32} (hV : VP P) (hP : gI M 112 = P) (hZ : 60 < Z) {st H : Nat} {W : Nat → Nat} (hS : SR M st H W) (hK : WOK P W) (hst : st < cN P) (h1 : 1 ≤ H) (hH : H ≤ 5) : OK (f_X12_ofRun Z M (-1)) (fun v M' => fr [116] M M' ∧ v = gRun P W st H) := by
  obtain ⟨v, M1, e1, f1, hv⟩ := ofRun_ok (Z := Z) hV hP hZ hS hst h1 hH hK.1 (fun x y hx hy => by
    have h1 := hK.T hV x hx
    have h2 := le_sm (f := Tp (cM P) (cP P) W x) hy
    omega) (its := fun x a => P (14 + (x * 3 + a))) (Or.inl ⟨rfl, fun _ _ => rfl⟩)
  exact ⟨v, M1, e1, f1, by rw [hv, ← gRun_eq hH]⟩
/-- limits in the reference's row -/
def LimR (M : Mem) (lim : Nat → Nat) : Prop := ∀ b, b < 3 → gI M 109 (40 + b) = nI (lim b) ∧ lim b ≤ 20000
theorem LimR.fr {l : List Nat} {M M' : Mem} {lim : Nat → Nat} (h : LimR M lim) (hf : fr l M M') (h3 : 109 ∉ l) : LimR M' lim := by
  unfold LimR
  rw [hf.I h3]
  exact h
theorem leftOf_ok {Z : Nat} {M : Mem} {P : Nat → Int32} (hV : VP P) (hP : gI M 112 = P) (hZ : 60 < Z) {st H : Nat} {W : Nat → Nat} (hS : SR M st H W) (hK : WOK P W) (hst : st < cN P) (h1 : 1 ≤ H) (hH : H ≤ 5) {lim : Nat → Nat} (hl : LimR M lim) {b : Nat} (hb : b < 3) : OK (f_X12_leftOf Z M (nI b)) (fun v M' => fr [116] M M' ∧ v = lN (lim b * (10 * 1000 ^ (H - 1))) - lN (uN P W b st H)) := by
  unfold f_X12_leftOf
  have l9 := (hl b hb).2
  obtain ⟨v, M1, e1, f1, hv⟩ := rUsedW (Z := Z) hV hP hZ hS hK hst h1 hH hb
  rw [rd109 (c := 40 + nI b) (i := 40 + b) (by rw [show (40 : Int32) = nI 40 from rfl, nI_add]) (by omega), (hl b hb).1, unitNow_eq (by omega) h1 hH hS.2.1, cl_some, e1, cl_some, hv, nI_l (by omega), lN_mul]
  exact OK.ret ⟨f1, rfl⟩
def brG (P : Nat → Int32) (W : Nat → Nat) (st H : Nat) (lim : Nat → Nat) (b : Nat) : Bool := decide (lim b * (10 * 1000 ^ (H - 1)) < uN P W b st H)
theorem brokenNow_ok {Z : Nat} {M : Mem} {P : Nat → Int32} (hV : VP P) (hP : gI M 112 = P) (hZ : 60 < Z) {st H : Nat} {W : Nat → Nat} (hS : SR M st H W) (hK : WOK P W) (hst : st < cN P) (h1 : 1 ≤ H) (hH : H ≤ 5) {lim : Nat → Nat} (hl : LimR M lim) : OK (f_X12_brokenNow Z M) (fun v M' => fr [116] M M' ∧ v = brk (brG P W st H lim) (cB P)) := by
  have hB := hV.2.1.2.2
  unfold f_X12_brokenNow
  rw [i0]
  refine lpS (fun n i M1 => f_X12_brokenNow_L4 Z n (brk (brG P W st H lim) i) (nI i) M1) (fun r => OK r _) (fun _ M1 => fr [116] M M1) 0 (cB P) (by omega) (by omega) fr.rfl ?_ ?_
  · intro n b M1 _ hb hf K
    have l9 := (hl b (by omega)).2
    have u9 := unit_le hH
    have p9 : lim b * (10 * 1000 ^ (H - 1)) ≤ 20000 * 10 ^ 13 := Nat.mul_le_mul l9 u9
    have ub := uN_lt (b := b) (st := st) hV hK h1 hH
    have b1 : gI M1 112 1 = nI (cB P) := by rw [hf.I (by decide), hP]; exact hV.b
    obtain ⟨v, M2, e2, f2, hv⟩ := leftOf_ok (Z := Z) hV (by rw [hf.I (by decide)]; exact hP) hZ (hS.fr hf (by decide)) hK hst h1 hH (hl.fr hf (by decide)) (show b < 3 by omega)
    have K1 := K M2 (hf.trans f2)
    have e9 : brk (brG P W st H lim) (b + 1) = if brG P W st H lim b then brk (brG P W st H lim) b ||| (nI 1 <<< (nI b &&& 31)) else brk (brG P W st H lim) b := rfl
    rw [e9] at K1
    rw [f_X12_brokenNow_L4]
    simp (disch := omega) only [b1, if_neg (show ¬ cB P ≤ b by omega), e2, cl_some, i1, nI_add, rdI_n, nI_ile]
    have e8 := lN_sub0 (a := lim b * (10 * 1000 ^ (H - 1))) (b := uN P W b st H) (by omega) (by omega)
    rw [hv]
    simp only [e8]
    by_cases c : uN P W b st H ≤ lim b * (10 * 1000 ^ (H - 1))
    · rw [if_pos c, Int32.or_zero]
      have c2 : brG P W st H lim b = false := decide_eq_false (by omega)
      rw [c2] at K1
      exact K1
    · rw [if_neg c]
      have c2 : brG P W st H lim b = true := decide_eq_true (by omega)
      rw [c2] at K1
      exact K1
  · intro n M1 hf
    have b1 : gI M1 112 1 = nI (cB P) := by rw [hf.I (by decide), hP]; exact hV.b
    rw [f_X12_brokenNow_L4]
    simp (disch := omega) only [b1, ge_self, if_true, i1, rdI_n]
    exact OK.ret ⟨hf, rfl⟩
theorem VS.lim {P S : Nat → Int32} {M : Mem} (h : VS P S) (hM : gI M 109 = S) : LimR M (fun b => pn S (40 + b)) := fun b hb => by
  have h2 := h.2.2.2.2.2.2.2.2.1 b hb
  rw [hM]
  exact ⟨h2.1, Nat.le_trans h2.2 (by decide)⟩
theorem ok_broken {Z : Nat} (hZ : 4000 < Z) {M : Mem} (hI : Inv M) (h : Has M) : OKc (f_X11_broken Z M) (fun M => f_X12_broken Z M) (·.toInt64) (·.toInt64) := by
  have hz := h.hz
  obtain ⟨v, M1, e1, q1, q2, q3, hv⟩ := brokenWith_ok (Z := Z) (M := M) (w := 11) (W := sW (gI M 109)) (by omega) h (by decide) (h.RS.w h.VS h.N.2) h.VS.W
  have k1 : kp M M1 := kp.of q1 (by decide)
  have h1 := h.kp k1
  have a112 : gI (T0 (sL M1 124 0 v.toInt64)) 112 = gI M 112 := by rw [T0_I (by decide), gI_sL', q1.I (by decide)]
  have a109 : gI (T0 (sL M1 124 0 v.toInt64)) 109 = gI M 109 := by rw [T0_I (by decide), gI_sL', q1.I (by decide)]
  obtain ⟨v2, M3, e3, r1, r2⟩ := brokenNow_ok (Z := Z) (M := T0 (sL M1 124 0 v.toInt64)) h.2.1 a112 (by omega) (h.VS.toSR a109) h.VS.W h.st.2 hz.2.2.1 hz.2.2.2 (h.VS.lim a109)
  have e2 : v2 = v := by rw [r2, hv]; rfl
  refine ⟨v, v2, M1, M3, ?_, ?_, ((hI.kp k1).kp (out_kp.trans T0.kp)).kp (kp.of r1 (by decide)), ?_, ?_⟩
  · unfold f_X11_broken
    rw [needChain1 h.c.1 h.N, clT_ok, e1, cl_some]
  · show f_X12_broken Z (sL M1 124 0 v.toInt64) = _
    unfold f_X12_broken
    rw [noChain1 (by exact h1.1), cl_some, if_pos rfl]
    rw [show sI (sL M1 124 0 v.toInt64) 108 0 0 = T0 (sL M1 124 0 v.toInt64) from rfl, e3, cl_some]
  · rw [r1.I (by decide)]
    exact T0_0
  · rw [r1.L (by decide), T0_L, gL_sL, if_pos ⟨rfl, rfl⟩, e2]
theorem b_law_26 {Z L a : Nat} {xs : Nat → Int32} {M : Mem} {j : Mem → Option Unit} (hZ : 4000 < Z) (hI : Inv M) (ha : a + 6 ≤ L) (hL : L ≤ 3072) (hj : ∀ M1, Inv M1 → j M1 = some ()) : f_law_26 Z L xs M (nI a) j = some () := by
  unfold f_law_26
  rcases hI.2.2.2.2.2 with h | h
  · have e1 : f_L_broken Z M = some (1, M) := by
      unfold f_L_broken f_X11_broken
      rw [needChain0 h.2.1]
      rfl
    have e2 : f_X12_broken Z M = some (0, Tc M 1) := by
      unfold f_X12_broken
      rw [noChain0 h.1]
      rfl
    rw [e1, cl_some, e2, cl_some]
    exact tail_l Tc_0 (fun z => absurd z (by decide)) (hj _ (hI.kp Tc.kp))
  · obtain ⟨v, w, M1, M2, q1, q2, q3, q4, q5⟩ := ok_broken (Z := Z) hZ hI h
    dsimp only at q2 q5
    have e1 : f_L_broken Z M = some (0, sL M1 124 0 (v.toInt64)) := by
      unfold f_L_broken
      rw [q1, clT_ok, i0, wrL_n (by decide) (by decide)]
    rw [e1, cl_some, q2, cl_some]
    exact tail_l q4 (fun _ => q5) (hj _ q3)
