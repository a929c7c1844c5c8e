/-- reference -/
theorem worthOf_eq {Z : Nat} {M : Mem} {P : Nat → Int32} (hV : VP P) (hP : gI M 112 = P) (hZ : 20 < Z) {V : Nat → Int64} {x a n : Nat} (hx : x < 6) (ha : a < 3) (hn : n < 5) (hA : ∀ y, y < cN P → gL M 120 (n * 6 + y) = V y) : f_X12_worthOf Z M (nI x) (nI a) (nI (n + 1)) = some (VO P (n + 1) V (x * 3 + a), M) := by
  have hN := hV.2.1.2.1
  have hR := hV.chR hP
  unfold f_X12_worthOf
  rw [gainBy_eq hP (by omega), cl_some, i1, nI_sub (by omega), Nat.add_sub_cancel, show (100 : Int32) = nI 100 from rfl, power_eq (by omega) (by omega) (by decide), cl_some, i0]
  unfold VO
  rw [Nat.add_sub_cancel]
  generalize (P (14 + (x * 3 + a))).toInt64 * lN (100 ^ n) = B
  have key : f_X12_worthOf_L21 Z (nI x) (nI a) (nI (n + 1)) Z (B + smL 0 (fun y => lN (cP P (x * 3 + a) y) * V y)) (nI 0) M = some (B + smL (cN P) (fun y => lN (cP P (x * 3 + a) y) * V y), M) := by
    refine lpS (σ := Unit) (fun m y _ => f_X12_worthOf_L21 Z (nI x) (nI a) (nI (n + 1)) m (B + smL y (fun y => lN (cP P (x * 3 + a) y) * V y)) (nI y) M) (fun q => q = some (B + smL (cN P) (fun y => lN (cP P (x * 3 + a) y) * V y), M)) (fun _ _ => True) 0 (cN P) (s := ()) (by omega) (by omega) trivial ?_ ?_
    · intro m y _ _ hy _ K
      have K1 := K () trivial
      have hp := hV.2.2.2.2.2.2.1 (x * 3 + a) y
      rw [f_X12_worthOf_L21]
      simp (disch := omega) only [hR.1, if_neg (show ¬ cN P ≤ y by omega), nI_ile, percentBy_eq hR (show x * 3 + a < 18 by omega) (show y < 6 by omega), cl_some, i0, i1, i6, nI_sub, Nat.add_sub_cancel, mc6, nI_mul, nI_add, rdI_n, rdL_n, hA y hy, nI_l]
      rw [Int64.add_assoc]
      exact K1
    · intro m _ _
      rw [f_X12_worthOf_L21]
      simp (disch := omega) only [hR.1, ge_self, if_true, i0, rdI_n]
  rw [show B + smL 0 (fun y => lN (cP P (x * 3 + a) y) * V y) = B from Int64.add_zero B] at key
  exact key
theorem worthiest_eq {Z : Nat} {M : Mem} {P S : Nat → Int32} (hV : VP P) (hS : VS P S) (hP : gI M 112 = P) (hSM : gI M 109 = S) (hZ : 20 < Z) {V : Nat → Int64} {x n : Nat} (hx : x < cN P) (hn : n < 5) (hA : ∀ y, y < cN P → gL M 120 (n * 6 + y) = V y) : f_X12_worthiest Z M (nI x) (nI (n + 1)) = some (nI ((pk (pmt S x) (fun a => VO P (n + 1) V (x * 3 + a)) (cM P x)).getD 0), M) := by
  have hN := hV.2.1.2.1
  have hm := hV.sz.2.1 x
  have hR := hV.chR hP
  unfold f_X12_worthiest
  generalize hv : (fun a => VO P (n + 1) V (x * 3 + a)) = v
  have hv' : ∀ a, VO P (n + 1) V (x * 3 + a) = v a := fun a => by rw [← hv]
  obtain ⟨b, hb⟩ := pick_some (p := pmt S x) (v := v) (cM P x) (hS.one hx)
  have hbl := pick_lt _ _ hb
  rw [hb, i0, show (-1 : Int32) = pkI (pk (pmt S x) v 0) from rfl]
  refine lpS (σ := Unit) (fun m i _ => f_X12_worthiest_L5 Z (nI x) (nI (n + 1)) m (pkI (pk (pmt S x) v i)) (nI i) M) (fun q => q = some (nI b, M)) (fun _ _ => True) 0 (cM P x) (s := ()) (by omega) (by omega) trivial ?_ ?_
  · intro m a _ _ ha _ K
    have K1 := K () trivial
    have e : pk (pmt S x) v (a + 1) = (match pk (pmt S x) v a with
      | none => if pmt S x a then some a else none
      | some b => if pmt S x a ∧ v b < v a then some a else some b) := rfl
    rw [e] at K1
    rw [f_X12_worthiest_L5]
    simp (disch := omega) only [hR.2.1 x (by omega), if_neg (show ¬ cM P x ≤ a by omega), nI_ile, isPermittedNow_eq hSM (show x * 3 + a < 18 by omega), cl_some, jn_eq, i1, i8, nI_add, rdI_n]
    cases c : pk (pmt S x) v a with
    | none =>
      rw [c] at K1
      by_cases d : pmt S x a = true
      · rw [if_neg (by rw [bN1]; simp [d])]
        simp only [d, if_true] at K1
        rw [if_pos (show pkI none < 0 by decide)]
        exact K1
      · rw [if_pos (by rw [bN1]; exact d)]
        simp only [if_neg d] at K1
        exact K1
    | some b' =>
      have hb' := pick_lt _ _ c
      rw [c] at K1
      by_cases d : pmt S x a = true
      · have w1 := worthOf_eq hV hP hZ (show x < 6 by omega) (show a < 3 by omega) hn hA
        have w2 := worthOf_eq hV hP hZ (show x < 6 by omega) (show b' < 3 by omega) hn hA
        rw [hv'] at w1 w2
        rw [if_neg (by rw [bN1]; simp [d]), if_neg (show ¬ pkI (some b') < 0 from nI_nlt0 (by omega)), w1, cl_some, show pkI (some b') = nI b' from rfl, w2, cl_some]
        by_cases g : v a ≤ v b'
        · rw [if_pos g]
          simp only [if_neg (show ¬ (pmt S x a = true ∧ v b' < v a) from fun z => absurd z.2 (Int64.not_lt.mpr g))] at K1
          exact K1
        · rw [if_neg g]
          simp only [if_pos (show pmt S x a = true ∧ v b' < v a from ⟨d, Int64.not_le.mp g⟩)] at K1
          exact K1
      · rw [if_pos (by rw [bN1]; exact d)]
        simp only [if_neg (show ¬ (pmt S x a = true ∧ v b' < v a) from fun z => d z.1)] at K1
        exact K1
  · intro m _ _
    rw [f_X12_worthiest_L5]
    simp (disch := omega) only [hR.2.1 x (by omega), ge_self, if_true, i8, nI_add, rdI_n, hb]
    rfl
theorem laysWorths_ok {Z : Nat} {M : Mem} {P S : Nat → Int32} (hV : VP P) (hS : VS P S) (hP : gI M 112 = P) (hSM : gI M 109 = S) (hZ : 60 < Z) {mo : Nat} (hmo : mo ≤ 5) : OK (f_X12_laysWorths Z M (nI mo)) (fun _ M' => fr [120] M M' ∧ ∀ n, n ≤ mo → ∀ x, x < cN P → gL M' 120 (n * 6 + x) = VL P S n x) := by
  have hN := hV.2.1
  have hR0 := hV.chR hP
  unfold f_X12_laysWorths
  obtain ⟨Q, hQ⟩ : ∃ Q : Unit → Mem → Prop, Q = (fun _ M' => fr [120] M M' ∧ ∀ n, n ≤ mo → ∀ x, x < cN P → gL M' 120 (n * 6 + x) = VL P S n x) := ⟨_, rfl⟩
  rw [← hQ]
  generalize hkk : (fun (M5 : Mem) => f_X12_laysWorths_L27 Z (nI mo) Z (1 : Int32) M5) = kk
  rw [i0]
  refine lpS (fun m i M1 => f_X12_laysWorths_L2 Z (nI mo) kk m (nI i) M1) (fun r => OK r Q) (fun i M1 => fr [120] M M1 ∧ ∀ x, x < i → gL M1 120 x = 0) 0 (cN P) (by omega) (by omega) ⟨fr.rfl, fun x h => absurd h (by omega)⟩ ?_ ?_
  · intro m x M1 _ hx ⟨f1, t1⟩ K
    have hR := hR0.fr f1 (by decide)
    rw [f_X12_laysWorths_L2]
    simp (disch := omega) only [hR.1, if_neg (show ¬ cN P ≤ x by omega), nI_ile, i0, i1, nI_add, rdI_n, wrL_n]
    refine K _ ⟨fr_sL f1 List.mem_cons_self, fun y hy => ?_⟩
    rw [gL_sL]
    by_cases c : y = x
    · rw [if_pos ⟨rfl, c⟩]
    · rw [if_neg (fun z => c z.2)]
      exact t1 y (by omega)
  · intro m M1 ⟨f1, t1⟩
    have hR := hR0.fr f1 (by decide)
    rw [f_X12_laysWorths_L2]
    simp (disch := omega) only [hR.1, ge_self, if_true, i0, rdI_n]
    rw [← hkk]
    dsimp only
    rw [i1]
    refine lpS (fun m n M2 => f_X12_laysWorths_L27 Z (nI mo) m (nI n) M2) (fun r => OK r Q) (fun n M2 => fr [120] M M2 ∧ ∀ k, k < n → ∀ x, x < cN P → gL M2 120 (k * 6 + x) = VL P S k x) 1 (mo + 1) (by omega) (by omega) ⟨f1, fun k hk x hx => ?_⟩ ?_ ?_
    · rw [show k = 0 by omega, show 0 * 6 + x = x by omega, t1 x hx, VL_0]
    · intro m n' M2 h1 hn ⟨f2, t2⟩ K
      obtain ⟨n, rfl⟩ : ∃ n, n' = n + 1 := ⟨n' - 1, by omega⟩
      rw [f_X12_laysWorths_L27]
      simp (disch := omega) only [if_neg (show ¬ mo < n + 1 by omega), nI_ilt, i0, i1, nI_add]
      generalize hk2 : (fun (M18 : Mem) => f_X12_laysWorths_L27 Z (nI mo) m (nI (n + 1 + 1)) M18) = k2
      have K1 : ∀ M2, (fr [120] M M2 ∧ ∀ k, k < n + 1 + 1 → ∀ x, x < cN P → gL M2 120 (k * 6 + x) = VL P S k x) → OK (k2 M2) Q := by rw [← hk2]; exact K
      refine lpS (fun m x M3 => f_X12_laysWorths_L34 Z (nI mo) (nI (n + 1)) k2 m (nI x) M3) (fun r => OK r Q) (fun x M3 => fr [120] M M3 ∧ (∀ k, k < n + 1 → ∀ x, x < cN P → gL M3 120 (k * 6 + x) = VL P S k x) ∧ ∀ x', x' < x → gL M3 120 ((n + 1) * 6 + x') = VL P S (n + 1) x') 0 (cN P) (by omega) (by omega) ⟨f2, t2, fun x' h => absurd h (by omega)⟩ ?_ ?_
      · intro m2 x M3 _ hx ⟨f3, t3, u3⟩ K3
        have hR3 := hR0.fr f3 (by decide)
        have p3 : gI M3 112 = P := by rw [f3.I (by decide)]; exact hP
        have s3 : gI M3 109 = S := by rw [f3.I (by decide)]; exact hSM
        obtain ⟨b, hb⟩ := pick_some (p := pmt S x) (v := fun a => VO P (n + 1) (VL P S n) (x * 3 + a)) (cM P x) (hS.one hx)
        have hbl := pick_lt _ _ hb
        have hm := hV.sz.2.1 x
        have e9 : VL P S (n + 1) x = VO P (n + 1) (VL P S n) (x * 3 + b) := by
          rw [VL_s, hb, Option.getD_some]
        rw [f_X12_laysWorths_L34]
        have ef := worthiest_eq (Z := Z) (V := VL P S n) hV hS p3 s3 (by omega) hx (show n < 5 by omega) (t3 n (by omega))
        have ev := worthOf_eq (Z := Z) (V := VL P S n) (x := x) (a := b) hV p3 (by omega) (by omega) (by omega) (show n < 5 by omega) (t3 n (by omega))
        rw [hb, Option.getD_some] at ef
        rw [← e9] at ev
        rw [i0, rdI_n (by omega) (by decide), hR3.1, if_neg (by rw [nI_ile (by omega) (by omega)]; omega), ef, cl_some, ev, cl_some, i6, i1, nI_mul, nI_add, nI_add, mc6, wrL_n (by omega) (by decide)]
        refine K3 _ ⟨fr_sL f3 List.mem_cons_self, fun k hk y hy => ?_, fun x' h => ?_⟩
        · rw [gL_sL, if_neg (by omega)]
          exact t3 k hk y hy
        · rw [gL_sL]
          by_cases c : x' = x
          · rw [if_pos ⟨rfl, by rw [c]⟩, c]
          · rw [if_neg (by omega)]
            exact u3 x' (by omega)
      · intro m2 M3 ⟨f3, t3, u3⟩
        have hR3 := hR0.fr f3 (by decide)
        rw [f_X12_laysWorths_L34]
        simp (disch := omega) only [hR3.1, ge_self, if_true, i0, rdI_n]
        refine K1 M3 ⟨f3, fun k hk x hx => ?_⟩
        by_cases c : k = n + 1
        · rw [c]
          exact u3 x hx
        · exact t3 k (by omega) x hx
    · intro m M2 ⟨f2, t2⟩
      rw [f_X12_laysWorths_L27]
      simp (disch := omega) only [if_pos (show mo < mo + 1 by omega), nI_ilt]
      rw [hQ]
      exact OK.ret ⟨f2, fun n hn x hx => t2 n (by omega) x hx⟩
theorem ok_value {Z : Nat} (hZ : 4000 < Z) {M : Mem} (hI : Inv M) (h : Has M) {x n : Nat} (hx : x < cN (gI M 112)) (hn : n ≤ 5) : OKc (f_X11_value Z M (nI x) (nI n)) (fun M => f_X12_value Z M (nI x) (nI n)) (fun v => v) (fun v => v) := by
  have hN := h.N
  obtain ⟨_, M1, e1, q1, q2⟩ := valueFill_ok (Z := Z) h.2.1 h.VS h.c h.gains h.RS (by omega)
  have k1 : kp M M1 := kp.of q1 (by decide)
  generalize hv : VL (gI M 112) (gI M 109) n x = v
  have g1 : Inv (sL M1 124 0 v) := (hI.kp k1).kp out_kp
  have g2 : Has (sL M1 124 0 v) := (h.kp k1).out
  have j112 : gI (T0 (sL M1 124 0 v)) 112 = gI M 112 := by rw [T0_I (by decide), Has.s112, q1.I (by decide)]
  have j109 : gI (T0 (sL M1 124 0 v)) 109 = gI M 109 := by rw [T0_I (by decide), Has.s109, q1.I (by decide)]
  obtain ⟨_, M3, e3, r1, r2⟩ := laysWorths_ok (Z := Z) h.2.1 h.VS j112 j109 (by omega) hn
  refine ⟨v, v, M1, M3, ?_, ?_, (g1.kp T0.kp).kp (kp.of r1 (by decide)), ?_, ?_⟩
  · unfold f_X11_value
    rw [h.nS, if_pos (inR_of hx (by omega)), clT_ok, needRangeN (a := 0) (b := 5) rfl rfl, if_pos (inN_of (Nat.zero_le _) hn (by decide)), clT_ok, e1, cl_some]
    unfold f_X9_of
    rw [i6, nI_mul, nI_add, rdL_n (by omega) (by decide), q2.at (show n < 6 by omega) (show x < 6 by omega), if_pos hx, hv, cl_some]
  · show f_X12_value Z (sL M1 124 0 v) (nI x) (nI n) = _
    unfold f_X12_value
    rw [g2.rS, if_pos (by rw [Has.s112, q1.I (by decide)]; exact inR_of hx (by omega)), cl_some, if_pos rfl, in_N (a := 0) (b := 5) rfl rfl, cl_some, rfz T0_0 (by decide), if_pos (inN_of (Nat.zero_le _) hn (by decide)), if_pos rfl, e3, cl_some, i6, nI_mul, nI_add, mc6, rdL_n (by omega) (by decide), r2 n (Nat.le_refl _) x hx, hv]
  · rw [r1.I (by decide)]
    exact T0_0
  · rw [r1.L (by decide), T0_L, gL_sL, if_pos ⟨rfl, rfl⟩]
theorem ck_value {Z : Nat} {M : Mem} (hZ : 4000 < Z) (hI : Inv M) (p1 p2 : Int32) : CK (f_L_value Z M p1 p2) (fun M => f_X12_value Z M p1 p2) (fun v => v) := by
  unfold f_L_value
  rcases hI.2.2.2.2.2 with h | h
  · exact CK.er hI (e := 0) (c := 1) (w := 0) (by unfold f_X11_value; rw [needState0 h.2.1]; rfl) rfl (by decide) (by unfold f_X12_value; rw [noState0 h.1]; rfl)
  · by_cases hp : inR p1 (cN (gI M 112))
    · by_cases hp2 : inN p2 0 5
      · obtain ⟨x, hx, rfl⟩ := inR_nI hp
        obtain ⟨n, _, hn, rfl⟩ := inN_nI hp2
        exact CK.mk (cv := fun v => v) (ok_value hZ hI h hx hn)
      · exact CK.er hI (e := 2) (c := 3) (w := 0) (by unfold f_X11_value; rw [h.nS, if_pos hp, clT_ok, needRangeN (a := 0) (b := 5) rfl rfl, if_neg hp2]; rfl) rfl (by decide) (by unfold f_X12_value; rw [h.rS, if_pos hp, cl_some, if_pos rfl, in_N (a := 0) (b := 5) rfl rfl, cl_some, rfz T0_0 (by decide), if_neg hp2]; rfl)
    · exact CK.er hI (e := 1) (c := 2) (w := 0) (by unfold f_X11_value; rw [h.nS, if_neg hp]; rfl) rfl (by decide) (by unfold f_X12_value; rw [h.rS, if_neg hp]; rfl)
theorem b_law_34 {Z L a : Nat} {xs : Nat → Int32} {M : Mem} {j : Mem → Option Unit} (hZ : 4000 < Z) (hI : Inv M) (ha : a + 6 ≤ L) (hL : L ≤ 3072) (hj : ∀ M1, Inv M1 → j M1 = some ()) : f_law_34 Z L xs M (nI a) j = some () := by
  unfold f_law_34
  simp (disch := omega) only [i1, i2, nI_add, rdX_n]
  generalize xs (a + 1) = p1
  generalize xs (a + 2) = p2
  exact (ck_value hZ hI p1 p2).tail hj
theorem ok_valueAction {Z : Nat} (hZ : 4000 < Z) {M : Mem} (hI : Inv M) (h : Has M) {x n : Nat} (hx : x < cN (gI M 112)) (hn : n < 5) : OKc (f_X11_valueAction Z M (nI x) (nI (n + 1))) (fun M => f_X12_valueAction Z M (nI x) (nI (n + 1))) (·.toInt64) (·.toInt64) := by
  have hN := h.N
  obtain ⟨_, M1, e1, q1, q2⟩ := valueFill_ok (Z := Z) h.2.1 h.VS h.c h.gains h.RS (by omega)
  have k1 : kp M M1 := kp.of q1 (by decide)
  have ea := firstAction_eq (Z := Z) (M := M1) (V := VL (gI M 112) (gI M 109) n) (x := x) (n := n) h.2.1 h.VS (h.c.fr q1 (by decide) (by decide) (by decide)) (fun r hr => by rw [q1.I (by decide)]; exact h.gains r hr) (h.RS.kp k1 now_ok) (by omega) q2 hx hn (fun y hy => if_pos hy)
  generalize hv : nI ((pk (pmt (gI M 109) x) (fun a => VO (gI M 112) (n + 1) (VL (gI M 112) (gI M 109) n) (x * 3 + a)) (cM (gI M 112) x)).getD 0) = v at ea
  have g1 : Inv (sL M1 124 0 v.toInt64) := (hI.kp k1).kp out_kp
  have g2 : Has (sL M1 124 0 v.toInt64) := (h.kp k1).out
  have j112 : gI (T0 (sL M1 124 0 v.toInt64)) 112 = gI M 112 := by rw [T0_I (by decide), Has.s112, q1.I (by decide)]
  have j109 : gI (T0 (sL M1 124 0 v.toInt64)) 109 = gI M 109 := by rw [T0_I (by decide), Has.s109, q1.I (by decide)]
  obtain ⟨_, M3, e3, r1, r2⟩ := laysWorths_ok (Z := Z) (mo := n + 1) h.2.1 h.VS j112 j109 (by omega) (by omega)
  refine ⟨v, v, M1, M3, ?_, ?_, (g1.kp T0.kp).kp (kp.of r1 (by decide)), ?_, ?_⟩
  · unfold f_X11_valueAction
    rw [h.nS, if_pos (inR_of hx (by omega)), clT_ok, needRangeN (a := 1) (b := 5) rfl rfl, if_pos (inN_of (by omega) (by omega) (by decide)), clT_ok, e1, cl_some, ea, cl_some]
  · show f_X12_valueAction Z (sL M1 124 0 v.toInt64) (nI x) (nI (n + 1)) = _
    unfold f_X12_valueAction
    rw [g2.rS, if_pos (by rw [Has.s112, q1.I (by decide)]; exact inR_of hx (by omega)), cl_some, if_pos rfl, in_N (a := 1) (b := 5) rfl rfl, cl_some, rfz T0_0 (by decide), if_pos (inN_of (by omega) (by omega) (by decide)), if_pos rfl, e3, cl_some, worthiest_eq h.2.1 h.VS (by rw [r1.I (by decide), j112]) (by rw [r1.I (by decide), j109]) (by omega) hx hn (fun y hy => r2 n (by omega) y hy), hv, cl_some]
  · rw [r1.I (by decide)]
    exact T0_0
  · rw [r1.L (by decide), T0_L, gL_sL, if_pos ⟨rfl, rfl⟩]
theorem ck_valueAction {Z : Nat} {M : Mem} (hZ : 4000 < Z) (hI : Inv M) (p1 p2 : Int32) : CK (f_L_valueAction Z M p1 p2) (fun M => f_X12_valueAction Z M p1 p2) (·.toInt64) := by
  unfold f_L_valueAction
  rcases hI.2.2.2.2.2 with h | h
  · exact CK.er hI (e := 0) (c := 1) (w := 0) (by unfold f_X11_valueAction; rw [needState0 h.2.1]; rfl) rfl (by decide) (by unfold f_X12_valueAction; rw [noState0 h.1]; rfl)
  · by_cases hp : inR p1 (cN (gI M 112))
    · by_cases hp2 : inN p2 1 5
      · obtain ⟨x, hx, rfl⟩ := inR_nI hp
        obtain ⟨n, h1, hn, rfl⟩ := inN_nI hp2
        obtain ⟨k, rfl⟩ : ∃ k, n = k + 1 := ⟨n - 1, by omega⟩
        exact CK.mk (ok_valueAction hZ hI h hx (by omega))
      · exact CK.er hI (e := 2) (c := 3) (w := 0) (by unfold f_X11_valueAction; rw [h.nS, if_pos hp, clT_ok, needRangeN (a := 1) (b := 5) rfl rfl, if_neg hp2]; rfl) rfl (by decide) (by unfold f_X12_valueAction; rw [h.rS, if_pos hp, cl_some, if_pos rfl, in_N (a := 1) (b := 5) rfl rfl, cl_some, rfz T0_0 (by decide), if_neg hp2]; rfl)
    · exact CK.er hI (e := 1) (c := 2) (w := 0) (by unfold f_X11_valueAction; rw [h.nS, if_neg hp]; rfl) rfl (by decide) (by unfold f_X12_valueAction; rw [h.rS, if_neg hp]; rfl)
theorem b_law_35 {Z L a : Nat} {xs : Nat → Int32} {M : Mem} {j : Mem → Option Unit} (hZ : 4000 < Z) (hI : Inv M) (ha : a + 6 ≤ L) (hL : L ≤ 3072) (hj : ∀ M1, Inv M1 → j M1 = some ()) : f_law_35 Z L xs M (nI a) j = some () := by
  unfold f_law_35
  simp (disch := omega) only [i1, i2, nI_add, rdX_n]
  generalize xs (a + 1) = p1
  generalize xs (a + 2) = p2
  exact (ck_valueAction hZ hI p1 p2).tail hj
