theorem fill_i_ok {Z : Nat} {M : Mem} {a na : Nat} {v : Int32} (hna : na < 3000) (hZ : na < Z) : OK (f_J7_fill_53178 Z M a na v) (fun _ M' => fr [a] M M' ∧ ∀ j, j < na → gI M' a j = v) := by
  unfold f_J7_fill_53178
  rw [i0]
  refine lpS (fun n i M1 => f_J7_fill_53178_L5 Z a na v n (nI i) M1) (fun x => OK x _) (fun i M1 => fr [a] M M1 ∧ ∀ j, j < i → gI M1 a j = v) 0 na (by omega) hZ ⟨fr.rfl, fun j hj => absurd hj (by omega)⟩ ?_ ?_
  · intro n x M1 _ hi ⟨hf, hv⟩ K
    rw [f_J7_fill_53178_L5]
    simp (disch := omega) only [if_neg (show ¬ na ≤ x by omega), ofN, bd_eq, jn_eq, cl_some, i0, i1, i2, i3, i4, i5, i6, i8, i10, i14, i36, i86, nI_add, nI_mul, rdI_n, rdL_n, wrI_n, wrL_n, nI_ile, nI_ilt]
    refine K _ ⟨fr_sI hf List.mem_cons_self, fun j hj => ?_⟩
    rw [gI_sI]
    by_cases c : j = x
    · rw [if_pos ⟨rfl, c⟩]
    · rw [if_neg (fun z => c z.2)]
      exact hv j (by omega)
  · intro n M1 ⟨hf, hv⟩
    rw [f_J7_fill_53178_L5]
    simp only [ofN, ge_self, if_true]
    exact OK.ret ⟨hf, hv⟩
theorem greatestFrom_eq {Z : Nat} {M : Mem} {P : Nat → Int32} (hV : VP P) (h : ChC M (cN P) (cM P) (cP P)) (hA : ∀ r, r < 18 → ∀ b, b < 3 → gI M 6 (r * 3 + b) = nI (cA P r b)) (hZ : 20 < Z) {W : Nat → Nat} (hW : ∀ r, r < 3 * cN P → gI M 11 r = nI (W r)) (hW10 : ∀ r, W r ≤ 10) {b k x : Nat} (hb : b < 3) (hk : k < 5) (hx : x < cN P) (h95 : ∀ y, y < cN P → gI M 95 (k * 6 + y) = nI (GR (cN P) (cM P) W (fun r => cA P r b) (cP P) k y)) : f_X8_greatestFrom Z M (nI b) (nI x) (nI (k + 1)) = some (nI (GR (cN P) (cM P) W (fun r => cA P r b) (cP P) (k + 1) x), M) := by
  have hN := hV.2.1
  have hz := hV.sz
  have hm := hz.2.1 x
  have hGR : ∀ y, GR (cN P) (cM P) W (fun r => cA P r b) (cP P) k y ≤ 99 * k := fun y => GR_le (fun r => hV.2.2.2.2.2.1 r b) k y
  generalize hG : GR (cN P) (cM P) W (fun r => cA P r b) (cP P) k = G at h95 hGR
  have eG : GR (cN P) (cM P) W (fun r => cA P r b) (cP P) (k + 1) x = gA (gC W (cP P) x) (fun a y => cA P (x * 3 + a) b + G y) (cN P) (cM P x) := by rw [← hG]; rfl
  rw [eG]
  have hf : ∀ a y, cA P (x * 3 + a) b + G y ≤ 99 + 99 * k := fun a y => Nat.add_le_add (hV.2.2.2.2.2.1 _ _) (hGR y)
  have hgA : ∀ a, gA (gC W (cP P) x) (fun a y => cA P (x * 3 + a) b + G y) (cN P) a ≤ 99 + 99 * k := fun a => by
    rcases gA_at (c := gC W (cP P) x) (f := fun a y => cA P (x * 3 + a) b + G y) (N := cN P) a with e | ⟨a', y, _, _, _, e⟩
    · omega
    · rw [← e]
      exact hf a' y
  have hgF : ∀ a y, gF (gC W (cP P) x a) (fun y => cA P (x * 3 + a) b + G y) (gA (gC W (cP P) x) (fun a y => cA P (x * 3 + a) b + G y) (cN P) a) y ≤ 99 + 99 * k := fun a y => by
    rcases gF_at (c := gC W (cP P) x a) (f := fun y => cA P (x * 3 + a) b + G y) (v := gA (gC W (cP P) x) (fun a y => cA P (x * 3 + a) b + G y) (cN P) a) y with e | ⟨y', _, _, e⟩
    · rw [e]
      exact hgA a
    · rw [← e]
      exact hf a y'
  unfold f_X8_greatestFrom
  rw [i0]
  refine lpS (σ := Unit) (fun n a _ => f_X8_greatestFrom_L6 Z (nI b) (nI x) (nI (k + 1)) n (nI (gA (gC W (cP P) x) (fun a y => cA P (x * 3 + a) b + G y) (cN P) a)) (nI a) M) (fun z => z = some (nI (gA (gC W (cP P) x) (fun a y => cA P (x * 3 + a) b + G y) (cN P) (cM P x)), M)) (fun _ _ => True) 0 (cM P x) (s := ()) (by omega) (by omega) trivial ?_ ?_
  · intro n a _ _ ha _ K
    have K1 := K () trivial
    rw [f_X8_greatestFrom_L6]
    simp (disch := omega) only [rdI_n, h.2.1 x (by omega), if_neg (show ¬ cM P x ≤ a by omega), nI_ile, rowOf_eq, cl_some, i0, i1, nI_add]
    generalize hkk : (fun (y22 : Int32) (M23 : Mem) => f_X8_greatestFrom_L6 Z (nI b) (nI x) (nI (k + 1)) n y22 (nI (a + 1)) M23) = kk
    have K2 : kk (nI (gF (gC W (cP P) x a) (fun y => cA P (x * 3 + a) b + G y) (gA (gC W (cP P) x) (fun a y => cA P (x * 3 + a) b + G y) (cN P) a) (cN P))) M = some (nI (gA (gC W (cP P) x) (fun a y => cA P (x * 3 + a) b + G y) (cN P) (cM P x)), M) := by
      rw [← hkk]
      exact K1
    generalize gA (gC W (cP P) x) (fun a y => cA P (x * 3 + a) b + G y) (cN P) (cM P x) = R at K2 ⊢
    have hgFa := hgF a
    generalize hv : gA (gC W (cP P) x) (fun a y => cA P (x * 3 + a) b + G y) (cN P) a = v at K2 hgFa ⊢
    have ew : gI M 11 (x * 3 + a) = nI (W (x * 3 + a)) := hW _ (by omega)
    have hw := hW10 (x * 3 + a)
    have ea : f_X0_amountOf Z M 3 (nI (x * 3 + a)) (nI b) = some (nI (cA P (x * 3 + a) b), M) := by
      unfold f_X0_amountOf
      simp (disch := omega) only [bd_eq, jn_eq, cl_some, i0, i1, i2, i3, i4, i5, i6, i8, i10, i14, i36, i86, nI_add, nI_mul, rdI_n, rdL_n, wrI_n, wrL_n, nI_ile, nI_ilt]
      rw [hA _ (by omega) b hb]
    refine lpS (σ := Unit) (fun n y _ => f_X8_greatestFrom_L31 Z (nI b) (nI x) (nI (k + 1)) (nI a) (nI (x * 3 + a)) kk n (nI (gF (gC W (cP P) x a) (fun y => cA P (x * 3 + a) b + G y) v y)) (nI y) M) (fun z => z = some (nI R, M)) (fun _ _ => True) 0 (cN P) (s := ()) (by omega) (by omega) trivial ?_ ?_
    · intro n2 y _ _ hy _ K3
      have K4 := K3 () trivial
      have hp := hz.2.2 (x * 3 + a) y
      have hg1 := hgFa y
      have hg2 := hf a y
      have e9 : gF (gC W (cP P) x a) (fun y => cA P (x * 3 + a) b + G y) v (y + 1) = if gC W (cP P) x a y then (if gF (gC W (cP P) x a) (fun y => cA P (x * 3 + a) b + G y) v y < cA P (x * 3 + a) b + G y then cA P (x * 3 + a) b + G y else gF (gC W (cP P) x a) (fun y => cA P (x * 3 + a) b + G y) v y) else gF (gC W (cP P) x a) (fun y => cA P (x * 3 + a) b + G y) v y := rfl
      rw [e9] at K4
      generalize gF (gC W (cP P) x a) (fun y => cA P (x * 3 + a) b + G y) v y = w at K4 hg1 ⊢
      rw [f_X8_greatestFrom_L31, bd_eq, h.1]
      simp (disch := omega) only [if_neg (show ¬ cN P ≤ y by omega), nI_ile, nI_ilt, rdI_n, ew, jn_eq, percentTo_eq h (show x * 3 + a < 18 by omega) (show y < 6 by omega), ea, cl_some, i0, i1, i6, nI_sub, Nat.add_sub_cancel, nI_mul, nI_add, h95 y hy, bd_eq]
      by_cases c1 : W (x * 3 + a) ≤ 0
      · rw [if_pos c1]
        rw [if_neg (by unfold gC; simp; omega)] at K4
        exact K4
      · rw [if_neg c1]
        by_cases c2 : cP P (x * 3 + a) y ≤ 0
        · rw [if_pos c2]
          rw [if_neg (by unfold gC; simp; omega)] at K4
          exact K4
        · rw [if_neg c2]
          rw [if_pos (by unfold gC; simp; omega)] at K4
          by_cases c3 : w < cA P (x * 3 + a) b + G y
          · rw [if_pos c3] at K4 ⊢
            exact K4
          · rw [if_neg c3] at K4 ⊢
            exact K4
    · intro n2 _ _
      rw [f_X8_greatestFrom_L31, bd_eq, h.1]
      simp only [ge_self, if_true]
      exact K2
  · intro n _ _
    rw [f_X8_greatestFrom_L6]
    simp (disch := omega) only [rdI_n, h.2.1 x (by omega), ge_self, if_true]
theorem greatest_ok {Z : Nat} (hZ : 60 < Z) {M : Mem} (h : Has M) {b : Nat} (hb : b < 3) :
    OK (f_X8_greatest Z M (nI b)) (fun v M' => fr [95] M M' ∧ v = nI (GR (cN (gI M 112)) (cM (gI M 112)) (sW (gI M 109)) (fun r => cA (gI M 112) r b) (cP (gI M 112)) (pn (gI M 109) 1) (pn (gI M 109) 0))) := by
  have hN := h.N
  have hz := h.hz
  have hst := h.st
  unfold f_X8_greatest
  obtain ⟨_, M1, e1, f1, v1⟩ := fill_i_ok (Z := Z) (M := M) (a := 95) (na := 36) (v := 0) (by decide) (by omega)
  rw [e1, cl_some]
  generalize hG : GR (cN (gI M 112)) (cM (gI M 112)) (sW (gI M 109)) (fun r => cA (gI M 112) r b) (cP (gI M 112)) = G
  obtain ⟨Q, hQ⟩ : ∃ Q : Int32 → Mem → Prop, Q = (fun v M' => fr [95] M M' ∧ v = nI (G (pn (gI M 109) 1) (pn (gI M 109) 0))) := ⟨_, rfl⟩
  rw [← hQ, i1]
  generalize hkk : (fun (M14 : Mem) => bd (gI M14 10 4) (fun v15 => bd (gI M14 10 3) (fun v16 => rdI M14 95 36 ((v15 * (6 : Int32)) + v16) (fun v17 => some (v17, M14))))) = kk
  refine lpS (fun n k M2 => f_X8_greatest_L10 Z (nI b) kk n (nI k) M2) (fun z => OK z Q) (fun k M2 => fr [95] M M2 ∧ ∀ j, j < k → ∀ x, x < cN (gI M 112) → gI M2 95 (j * 6 + x) = nI (G j x)) 1 (pn (gI M 109) 1 + 1) (by omega) (by omega) ⟨f1, fun j hj x hx => ?_⟩ ?_ ?_
  · rw [show j = 0 by omega, v1 _ (by omega), ← hG]
    rfl
  · intro n k' M2 h1 hk ⟨f2, t2⟩ K
    obtain ⟨k, rfl⟩ : ∃ k, k' = k + 1 := ⟨k' - 1, by omega⟩
    rw [f_X8_greatest_L10, bd_eq, f2.I (by decide), hz.1]
    simp (disch := omega) only [if_neg (show ¬ pn (gI M 109) 1 < k + 1 by omega), nI_ilt, i0, i1, nI_add]
    generalize hk2 : (fun (M13 : Mem) => f_X8_greatest_L10 Z (nI b) kk n (nI (k + 1 + 1)) M13) = k2
    have K1 : ∀ M2, (fr [95] M M2 ∧ ∀ j, j < k + 1 + 1 → ∀ x, x < cN (gI M 112) → gI M2 95 (j * 6 + x) = nI (G j x)) → OK (k2 M2) Q := by rw [← hk2]; exact K
    refine lpS (fun n x M3 => f_X8_greatest_L21 Z (nI b) (nI (k + 1)) k2 n (nI x) M3) (fun z => OK z Q) (fun x M3 => fr [95] M M3 ∧ (∀ j, j < k + 1 → ∀ x, x < cN (gI M 112) → gI M3 95 (j * 6 + x) = nI (G j x)) ∧ ∀ x', x' < x → gI M3 95 ((k + 1) * 6 + x') = nI (G (k + 1) x')) 0 (cN (gI M 112)) (by omega) (by omega) ⟨f2, t2, fun x' h => absurd h (by omega)⟩ ?_ ?_
    · intro n2 x M3 _ hx ⟨f3, t3, u3⟩ K3
      have h3 := h.c.fr f3 (by decide) (by decide) (by decide)
      have eg := greatestFrom_eq (Z := Z) (M := M3) (b := b) (k := k) (x := x) h.2.1 h3 (fun r hr b hb => by rw [f3.I (by decide)]; exact h.amts r hr b hb) (by omega) (W := sW (gI M 109)) (fun r hr => by rw [f3.I (by decide)]; exact h.RS.w h.VS hN.2 r hr) (fun r => h.VS.2.2.2.2.1 r) hb (by omega) hx (by rw [hG]; exact t3 k (by omega))
      rw [hG] at eg
      rw [f_X8_greatest_L21, bd_eq, h3.1]
      simp (disch := omega) only [if_neg (show ¬ cN (gI M 112) ≤ x by omega), nI_ile, eg, cl_some, i6, nI_mul, i1, nI_add, wrI_n]
      refine K3 _ ⟨fr_sI f3 List.mem_cons_self, fun j hj y hy => ?_, fun x' hx' => ?_⟩
      · rw [gI_sI, if_neg (by omega)]
        exact t3 j hj y hy
      · rw [gI_sI]
        by_cases c : x' = x
        · rw [if_pos ⟨rfl, by rw [c]⟩, c]
        · rw [if_neg (by omega)]
          exact u3 x' (by omega)
    · intro n2 M3 ⟨f3, t3, u3⟩
      have h3 := h.c.fr f3 (by decide) (by decide) (by decide)
      rw [f_X8_greatest_L21, bd_eq, h3.1]
      simp only [ge_self, if_true]
      refine K1 M3 ⟨f3, fun j hj x hx => ?_⟩
      by_cases c : j = k + 1
      · rw [c]
        exact u3 x hx
      · exact t3 j (by omega) x hx
  · intro n M2 ⟨f2, t2⟩
    rw [f_X8_greatest_L10, bd_eq, f2.I (by decide), hz.1]
    simp (disch := omega) only [if_pos (show pn (gI M 109) 1 < pn (gI M 109) 1 + 1 by omega), nI_ilt]
    rw [← hkk]
    simp (disch := omega) only [bd_eq, f2.I (show 10 ∉ [95] by decide), hz.1, hst.1, i6, nI_mul, nI_add, rdI_n, t2 (pn (gI M 109) 1) (by omega) (pn (gI M 109) 0) hst.2]
    rw [hQ]
    exact OK.ret ⟨f2, rfl⟩
theorem VP.lead {P : Nat → Int32} {W : Nat → Nat} (hV : VP P) (hK : WOK P W) : ∀ x, x < cN P → ∃ a y, a < cM P x ∧ y < cN P ∧ 0 < W (x * 3 + a) ∧ 0 < cP P (x * 3 + a) y := by
  intro x hx
  obtain ⟨a, ha, hw⟩ := sm_pos (n := cM P x) (f := fun a => W (x * 3 + a)) (by rw [hK.2 x hx]; decide)
  obtain ⟨y, hy, hp⟩ := sm_pos (n := cN P) (f := cP P (x * 3 + a)) (by rw [(hV.2.2.2.2.2.2.2 x hx a ha).1]; decide)
  exact ⟨a, y, ha, hy, hw, hp⟩
theorem ok_mostUsed {Z : Nat} (hZ : 4000 < Z) {M : Mem} (hI : Inv M) (h : Has M) {b : Nat} (hb : b < cB (gI M 112)) : OKc (f_X11_mostUsed Z M (nI b)) (fun M => f_X12_mostUsed Z M (nI b)) (·.toInt64) (·.toInt64) := by
  have hN := h.N
  have hB := h.b.2.2
  have hz := h.hz
  obtain ⟨v, M1, e1, f1, hv⟩ := greatest_ok (Z := Z) (by omega) h (b := b) (by omega)
  have k1 : kp M M1 := kp.of f1 (by decide)
  have g1 : Inv (sL M1 124 0 v.toInt64) := (hI.kp k1).kp out_kp
  have g2 : Has (sL M1 124 0 v.toInt64) := (h.kp k1).out
  have j112 : gI (T0 (sL M1 124 0 v.toInt64)) 112 = gI M 112 := by rw [T0_I (by decide), Has.s112, f1.I (by decide)]
  have j109 : gI (T0 (sL M1 124 0 v.toInt64)) 109 = gI M 109 := by rw [T0_I (by decide), Has.s109, f1.I (by decide)]
  obtain ⟨_, M3, e3, r1, r2⟩ := laysMass_ok (Z := Z) (b := b) h.2.1 h.VS j112 j109 (by omega) (by omega)
  refine ⟨v, v, M1, M3, ?_, ?_, (g1.kp T0.kp).kp (kp.of r1 (by decide)), ?_, ?_⟩
  · unfold f_X11_mostUsed
    rw [h.nB, if_pos (inR_of hb (by omega)), clT_ok, e1, cl_some]
  · show f_X12_mostUsed Z (sL M1 124 0 v.toInt64) (nI b) = _
    unfold f_X12_mostUsed
    rw [g2.rB, if_pos (by rw [Has.s112, f1.I (by decide)]; exact inR_of hb (by omega)), cl_some, if_pos rfl, e3, cl_some, hv]
    have hMS : ∀ y s, y < cN (gI M 112) → 0 < MS (cN (gI M 112)) (cM (gI M 112)) (sW (gI M 109)) (fun r => cA (gI M 112) r b) (cP (gI M 112)) (pn (gI M 109) 0) (pn (gI M 109) 1) y s → s ≤ GR (cN (gI M 112)) (cM (gI M 112)) (sW (gI M 109)) (fun r => cA (gI M 112) r b) (cP (gI M 112)) (pn (gI M 109) 1) (pn (gI M 109) 0) := fun y s hy h0 => MS_GR (pn (gI M 109) 1) 0 y s hy h0
    obtain ⟨y0, s0, hy0, hp0, hs0⟩ := MS_top (N := cN (gI M 112)) (m := cM (gI M 112)) (W := sW (gI M 109)) (u := fun r => cA (gI M 112) r b) (pc := cP (gI M 112)) (H := pn (gI M 109) 1) h.st.2 (h.2.1.lead h.VS.W) (pn (gI M 109) 1) (Nat.le_refl _)
    have hs1 : s0 = GR (cN (gI M 112)) (cM (gI M 112)) (sW (gI M 109)) (fun r => cA (gI M 112) r b) (cP (gI M 112)) (pn (gI M 109) 1) (pn (gI M 109) 0) := by
      rw [Nat.sub_self] at hs0
      exact hs0
    rw [hs1] at hp0
    have hGb := GR_le (N := cN (gI M 112)) (m := cM (gI M 112)) (W := sW (gI M 109)) (u := fun r => cA (gI M 112) r b) (pc := cP (gI M 112)) (fun r => h.2.1.2.2.2.2.2.1 r b) (pn (gI M 109) 1) (pn (gI M 109) 0)
    generalize GR (cN (gI M 112)) (cM (gI M 112)) (sW (gI M 109)) (fun r => cA (gI M 112) r b) (cP (gI M 112)) (pn (gI M 109) 1) (pn (gI M 109) 0) = g at hMS hp0 hGb
    have eB : ∀ s, sm (cN (gI M 112)) (fun x => BT (gI M 112) (sW (gI M 109)) b (pn (gI M 109) 0) (pn (gI M 109) 1) x s) = sm (cN (gI M 112)) (fun x => MS (cN (gI M 112)) (cM (gI M 112)) (sW (gI M 109)) (fun r => cA (gI M 112) r b) (cP (gI M 112)) (pn (gI M 109) 0) (pn (gI M 109) 1) x s) := fun s => sm_congr (fun x hx => if_pos hx)
    have em : ∀ s, s < 496 → f_X12_massOf Z M3 (nI s) = some (lN (sm (cN (gI M 112)) (fun x => MS (cN (gI M 112)) (cM (gI M 112)) (sW (gI M 109)) (fun r => cA (gI M 112) r b) (cP (gI M 112)) (pn (gI M 109) 0) (pn (gI M 109) 1) x s)), M3) := fun s hs => by
      rw [massOf_eq h.2.1 (by rw [r1.I (by decide), j112]) (by omega) r2 hs, eB]
    have hbd : ∀ s, sm (cN (gI M 112)) (fun x => MS (cN (gI M 112)) (cM (gI M 112)) (sW (gI M 109)) (fun r => cA (gI M 112) r b) (cP (gI M 112)) (pn (gI M 109) 0) (pn (gI M 109) 1) x s) < 2 ^ 63 := fun s => by
      have h1 := sm_le (n := cN (gI M 112)) (f := fun x => MS (cN (gI M 112)) (cM (gI M 112)) (sW (gI M 109)) (fun r => cA (gI M 112) r b) (cP (gI M 112)) (pn (gI M 109) 0) (pn (gI M 109) 1) x s) (g := fun x => Fl (cN (gI M 112)) (Tp (cM (gI M 112)) (cP (gI M 112)) (sW (gI M 109))) (pn (gI M 109) 0) (pn (gI M 109) 1) x) (fun x _ => MS_le _ x s)
      have h2 := Fl_sum (N := cN (gI M 112)) (st := pn (gI M 109) 0) (T := Tp (cM (gI M 112)) (cP (gI M 112)) (sW (gI M 109))) (fun x hx => Nat.le_of_eq (Tp_sum h.2.1 h.VS x hx)) (pn (gI M 109) 1)
      have h3 := p1000 hz.2.2.2
      exact Nat.lt_of_le_of_lt (Nat.le_trans h1 (Nat.le_trans h2 h3)) (by decide)
    rw [i495, show nI 495 = nI 495 - nI 0 by decide]
    refine lpS (σ := Unit) (fun n k _ => f_X12_mostUsed_L19 Z n (nI 495 - nI k) M3) (fun z => z = some (nI g, M3)) (fun _ _ => True) 0 (495 - g) (s := ()) (by omega) (by omega) trivial ?_ ?_
    · intro n k _ _ hk _ K
      have K1 := K () trivial
      have e0 : sm (cN (gI M 112)) (fun x => MS (cN (gI M 112)) (cM (gI M 112)) (sW (gI M 109)) (fun r => cA (gI M 112) r b) (cP (gI M 112)) (pn (gI M 109) 0) (pn (gI M 109) 1) x (495 - k)) = 0 := by
        apply Classical.byContradiction
        intro hne
        obtain ⟨x, hx, hp⟩ := sm_pos (Nat.pos_of_ne_zero hne)
        have := hMS x _ hx hp
        omega
      rw [f_X12_mostUsed_L19, dn_step, nI_sub (by omega), em _ (by omega), cl_some, e0, if_pos (by decide)]
      exact K1
    · intro n _ _
      have e0 : sm (cN (gI M 112)) (fun x => MS (cN (gI M 112)) (cM (gI M 112)) (sW (gI M 109)) (fun r => cA (gI M 112) r b) (cP (gI M 112)) (pn (gI M 109) 0) (pn (gI M 109) 1) x g) ≠ 0 := by
        have := le_sm (f := fun x => MS (cN (gI M 112)) (cM (gI M 112)) (sW (gI M 109)) (fun r => cA (gI M 112) r b) (cP (gI M 112)) (pn (gI M 109) 0) (pn (gI M 109) 1) x g) hy0
        omega
      rw [f_X12_mostUsed_L19, nI_sub (by omega), show 495 - (495 - g) = g by omega, em _ (by omega), cl_some, l0, if_neg (by rw [lN_eqx (hbd g) (by decide)]; exact e0)]
  · rw [r1.I (by decide)]
    exact T0_0
  · rw [r1.L (by decide), T0_L, gL_sL, if_pos ⟨rfl, rfl⟩]
theorem ck_mostUsed {Z : Nat} {M : Mem} (hZ : 4000 < Z) (hI : Inv M) (p1 : Int32) : CK (f_L_mostUsed Z M p1) (fun M => f_X12_mostUsed Z M p1) (·.toInt64) := by
  unfold f_L_mostUsed
  rcases hI.2.2.2.2.2 with h | h
  · exact CK.er hI (e := 0) (c := 1) (w := 0) (by unfold f_X11_mostUsed; rw [needBudget0 h.2.1]; rfl) rfl (by decide) (by unfold f_X12_mostUsed; rw [noBudget0 h.1]; rfl)
  · by_cases hp : inR p1 (cB (gI M 112))
    · obtain ⟨b, hb, rfl⟩ := inR_nI hp
      exact CK.mk (ok_mostUsed hZ hI h hb)
    · exact CK.er hI (e := 1) (c := 2) (w := 0) (by unfold f_X11_mostUsed; rw [h.nB, if_neg hp]; rfl) rfl (by decide) (by unfold f_X12_mostUsed; rw [h.rB, if_neg hp]; rfl)
theorem b_law_28 {Z L a : Nat} {xs : Nat → Int32} {M : Mem} {j : Mem → Option Unit} (hZ : 4000 < Z) (hI : Inv M) (ha : a + 6 ≤ L) (hL : L ≤ 3072) (hj : ∀ M1, Inv M1 → j M1 = some ()) : f_law_28 Z L xs M (nI a) j = some () := by
  unfold f_law_28
  simp (disch := omega) only [i1, nI_add, rdX_n]
  generalize xs (a + 1) = p1
  exact (ck_mostUsed hZ hI p1).tail hj
