theorem gainBy_eq {Z : Nat} {M : Mem} {P : Nat → Int32} (h : gI M 112 = P) {x a : Nat} (hr : x * 3 + a < 18) : f_X12_gainBy Z M (nI x) (nI a) = some (P (14 + (x * 3 + a)), M) := by
  unfold f_X12_gainBy
  rw [rd112 (c := 14 + 3 * nI x + nI a) (i := 14 + (x * 3 + a)) (by rw [i14, i3, nI_mul, nI_add, nI_add, mc3, Nat.add_assoc]) (by omega), h]
theorem usesBy_eq {Z : Nat} {M : Mem} {P : Nat → Int32} (hV : VP P) (h : gI M 112 = P) {x a b : Nat} (hr : x * 3 + a < 18) (hb : b < 3) : f_X12_usesBy Z M (nI x) (nI a) (nI b) = some (nI (cA P (x * 3 + a) b), M) := by
  unfold f_X12_usesBy
  rw [rd112 (c := 32 + 3 * (3 * nI x + nI a) + nI b) (i := 32 + (x * 3 + a) * 3 + b) (by rw [show (32 : Int32) = nI 32 from rfl, i3, nI_mul, nI_add, nI_mul, nI_add, nI_add, mc3, mc3]) (by omega), h, hV.a hr hb]
theorem ofRun_ok {Z : Nat} {M : Mem} {P : Nat → Int32} (hV : VP P) (hP : gI M 112 = P) (hZ : 60 < Z) {st H : Nat} {W : Nat → Nat} (hS : SR M st H W) (hst : st < cN P) (h1 : 1 ≤ H) (hH : H ≤ 5) (hW10 : ∀ r, W r ≤ 10) (hTb : ∀ x y, x < cN P → y < cN P → Tp (cM P) (cP P) W x y ≤ 1000) {p0 : Int32} {its : Nat → Nat → Int32} (hits : (p0 = -1 ∧ ∀ x a, its x a = P (14 + (x * 3 + a))) ∨ ∃ b, b < 3 ∧ p0 = nI b ∧ ∀ x a, its x a = nI (cA P (x * 3 + a) b)) :
    OK (f_X12_ofRun Z M p0) (fun v M' => fr [116] M M' ∧ v = smL (cN P) (fun x => hor (fun t => if t ≤ H ∧ x < cN P then lN (fNow P W st t x) else 0) H * smL (cM P x) (fun a => lN (W (x * 3 + a)) * (its x a).toInt64))) := by
  have hz := hV.sz
  have hN := hz.1
  have hR := hV.chR hP
  unfold f_X12_ofRun
  obtain ⟨_, M1, e1, f1, t1⟩ := lays_ok (Z := Z) hR hz hZ hS hst hH hTb (-1)
  have t2 : MT 116 M1 (fun t x => if t ≤ H ∧ x < cN P then lN (fNow P W st t x) else 0) := t1.congr rfl (fun t _ x _ => by
    have e := Fl_congr (N := cN P) (st := st) (T := fun x y => if nI x = -1 then 0 else Tp (cM P) (cP P) W x y) (T' := Tp (cM P) (cP P) W) (fun x y hx => if_neg (nI_ne_neg (by omega))) t x
    unfold fNow
    rw [e])
  have hR1 := hR.fr f1 (by decide)
  have hS1 := hS.fr f1 (by decide)
  have hP1 : gI M1 112 = P := by rw [f1.I (by decide)]; exact hP
  generalize hA : (fun t x => if t ≤ H ∧ x < cN P then lN (fNow P W st t x) else 0) = A at t2
  have hA' : ∀ t x, (if t ≤ H ∧ x < cN P then lN (fNow P W st t x) else 0) = A t x := fun t x => by rw [← hA]
  simp only [hA']
  rw [e1, cl_some, ← run_sum (N := cN P) (m := cM P) (A := A) (w := fun x a => lN (W (x * 3 + a))) (g := fun x a => (its x a).toInt64) h1]
  generalize hF : (fun t x a => ((A t x * lN (W (x * 3 + a))) * (its x a).toInt64) * lN (1000 ^ (H - 1 - t))) = F
  have hF' : ∀ t x a, ((A t x * lN (W (x * 3 + a))) * (its x a).toInt64) * lN (1000 ^ (H - 1 - t)) = F t x a := fun t x a => by rw [← hF]
  simp only [hF']
  obtain ⟨Q, hQ⟩ : ∃ Q : Int64 → Mem → Prop, Q = (fun (v : Int64) (M' : Mem) => fr [116] M M' ∧ v = smL H (fun t => smL (cN P) (fun x => smL (cM P x) (fun a => F t x a)))) := ⟨_, rfl⟩
  rw [← hQ, i0]
  refine lpS (σ := Unit) (fun n i _ => f_X12_ofRun_L10 Z p0 n (smL i (fun t => smL (cN P) (fun x => smL (cM P x) (F t x)))) (nI i) M1) (fun r => OK r _) (fun _ _ => True) 0 H (s := ()) (by omega) (by omega) trivial ?_ ?_
  · intro n t _ _ ht _ K
    rw [f_X12_ofRun_L10]
    simp (disch := omega) only [hS1.2.1, if_neg (show ¬ H ≤ t by omega), nI_sub h1, nI_sub (show t ≤ H - 1 by omega), show (1000 : Int32) = nI 1000 from rfl, power_eq (Z := Z) (M := M1) (b := 1000) (k := H - 1 - t) (by omega) (by omega) (by decide), bd_eq, jn_eq, cl_some, i0, i1, i2, i3, i4, i5, i6, i8, i10, i14, i36, i86, nI_add, nI_mul, rdI_n, rdL_n, wrI_n, wrL_n, nI_ile, nI_ilt]
    generalize hk1 : (fun (y32 : Int64) (M33 : Mem) => f_X12_ofRun_L10 Z p0 n y32 (nI (t + 1)) M33) = k1
    have K1 : OK (k1 (smL t (fun t => smL (cN P) (fun x => smL (cM P x) (F t x))) + smL (cN P) (fun x => smL (cM P x) (F t x))) M1) Q := by rw [← hk1]; exact K () trivial
    generalize smL t (fun t => smL (cN P) (fun x => smL (cM P x) (F t x))) = X at K1 ⊢
    rw [show X = X + smL 0 (fun x => smL (cM P x) (F t x)) from (Int64.add_zero X).symm]
    refine lpS (σ := Unit) (fun n i _ => f_X12_ofRun_L43 Z p0 (nI t) (lN (1000 ^ (H - 1 - t))) k1 n (X + smL i (fun x => smL (cM P x) (F t x))) (nI i) M1) (fun r => OK r _) (fun _ _ => True) 0 (cN P) (s := ()) (by omega) (by omega) trivial ?_ ?_
    · intro n2 x _ _ hx _ K2
      have hm := hz.2.1 x
      rw [f_X12_ofRun_L43]
      simp (disch := omega) only [hR1.1, if_neg (show ¬ cN P ≤ x by omega), bd_eq, jn_eq, cl_some, i0, i1, i2, i3, i4, i5, i6, i8, i10, i14, i36, i86, nI_add, nI_mul, rdI_n, rdL_n, wrI_n, wrL_n, nI_ile, nI_ilt]
      generalize hk2 : (fun (y30 : Int64) (M31 : Mem) => f_X12_ofRun_L43 Z p0 (nI t) (lN (1000 ^ (H - 1 - t))) k1 n2 y30 (nI (x + 1)) M31) = k2
      have K3 : OK (k2 (X + smL x (fun x => smL (cM P x) (F t x)) + smL (cM P x) (F t x)) M1) Q := by
        rw [← hk2, Int64.add_assoc]
        exact K2 () trivial
      generalize X + smL x (fun x => smL (cM P x) (F t x)) = Y at K3 ⊢
      rw [show Y = Y + smL 0 (F t x) from (Int64.add_zero Y).symm]
      refine lpS (σ := Unit) (fun n i _ => f_X12_ofRun_L57 Z p0 (nI t) (lN (1000 ^ (H - 1 - t))) (nI x) k2 n (Y + smL i (F t x)) (nI i) M1) (fun r => OK r _) (fun _ _ => True) 0 (cM P x) (s := ()) (by omega) (by omega) trivial ?_ ?_
      · intro n3 a _ _ ha _ K4
        have hw := hW10 (x * 3 + a)
        have e4 : Y + smL a (F t x) + A t x * lN (W (x * 3 + a)) * (its x a).toInt64 * lN (1000 ^ (H - 1 - t)) = Y + smL (a + 1) (F t x) := by
          rw [hF', Int64.add_assoc]
          rfl
        have K5 := K4 () trivial
        rw [← e4] at K5
        have c1 : gL M1 116 (t * 6 + x) = A t x := t2 t (by omega) x (by omega)
        rw [f_X12_ofRun_L57]
        rcases hits with ⟨rfl, hi⟩ | ⟨b, hb, rfl, hi⟩
        · have hn : ¬ (0 : Int32) ≤ -1 := by decide
          simp (disch := omega) only [hR1.2.1 x (by omega), if_neg (show ¬ cM P x ≤ a by omega), if_neg hn, gainBy_eq hP1 (show x * 3 + a < 18 by omega), ← hi x a, weightOf_eq hS1 (show x * 3 + a < 18 by omega), mc6, c1, nI_l, bd_eq, jn_eq, cl_some, i1, i8, i6, nI_add, nI_mul, rdI_n, rdL_n, nI_ile]
          exact K5
        · have hn : (0 : Int32) ≤ nI b := nI_pos' (by omega)
          simp (disch := omega) only [hR1.2.1 x (by omega), if_neg (show ¬ cM P x ≤ a by omega), if_pos hn, usesBy_eq hV hP1 (show x * 3 + a < 18 by omega) hb, ← hi x a, weightOf_eq hS1 (show x * 3 + a < 18 by omega), mc6, c1, nI_l, bd_eq, jn_eq, cl_some, i1, i8, i6, nI_add, nI_mul, rdI_n, rdL_n, nI_ile]
          exact K5
      · intro n3 _ _
        rw [f_X12_ofRun_L57]
        simp (disch := omega) only [hR1.2.1 x (by omega), ge_self, if_true, bd_eq, jn_eq, cl_some, i0, i1, i2, i3, i4, i5, i6, i8, i10, i14, i36, i86, nI_add, nI_mul, rdI_n, rdL_n, wrI_n, wrL_n, nI_ile, nI_ilt]
        exact K3
    · intro n2 _ _
      rw [f_X12_ofRun_L43]
      simp (disch := omega) only [hR1.1, ge_self, if_true, bd_eq, jn_eq, cl_some, i0, i1, i2, i3, i4, i5, i6, i8, i10, i14, i36, i86, nI_add, nI_mul, rdI_n, rdL_n, wrI_n, wrL_n, nI_ile, nI_ilt]
      exact K1
  · intro n _ _
    rw [f_X12_ofRun_L10]
    simp (disch := omega) only [hS1.2.1, ge_self, if_true, bd_eq, jn_eq, cl_some, i0, i1, i2, i3, i4, i5, i6, i8, i10, i14, i36, i86, nI_add, nI_mul, rdI_n, rdL_n, wrI_n, wrL_n, nI_ile, nI_ilt]
    rw [hQ]
    exact OK.ret ⟨f1, rfl⟩
