theorem follow_ok {Z : Nat} {M : Mem} {N : Nat} {m : Nat → Nat} {pc : Nat → Nat → Nat} (h : ChC M N m pc) (hz : Sz N m pc) (hZ : 60 < Z) {w : Nat} {W : Nat → Nat} (hw : w ≠ 16 ∧ w ≠ 17 ∧ w ≠ 18) (hW : ∀ r, r < 3 * N → gI M w r = nI (W r)) (hW10 : ∀ r, W r ≤ 10) {st H : Nat} (hst : st < N) (hH : H ≤ 5) (hTs : ∀ x, x < N → sm N (Tp m pc W x) ≤ 1000) :
    OK (f_X1_follow Z M w (nI st) (nI H)) (fun _ M' => fr [16, 17, 18] M M' ∧ gI M' 16 1 = nI st ∧ gI M' 16 2 = nI H ∧ MT 17 M' (fun x y => if x < N ∧ y < N then lN (Tp m pc W x y) else 0) ∧ MT 18 M' (fun t x => if t ≤ H ∧ x < N then lN (Fl N (Tp m pc W) st t x) else 0)) := by
  have hN := hz.1
  unfold f_X1_follow
  simp only [bd_eq]
  have f0 : fr [16, 17, 18] M (sI (sI M 16 1 (nI st)) 16 2 (nI H)) := fr_sI (fr_sI fr.rfl (by decide)) (by decide)
  have h0 : ChC (sI (sI M 16 1 (nI st)) 16 2 (nI H)) N m pc := h.fr f0 (by decide) (by decide) (by decide)
  obtain ⟨_, M1, e1, hf1, hv1⟩ := fillParts_ok (Z := Z) h0 hz (by omega) (w := w) (W := W) hw.2.1 (fun r hr => by rw [f0.I (by simp; omega)]; exact hW r hr) hW10
  rw [e1, cl_some]
  obtain ⟨_, M2, e2, hf2, hv2⟩ := fill_d_ok (Z := Z) (M := M1) (a := 18) (na := 36) (v := 0) (by decide) (by omega)
  rw [e2, cl_some]
  have s1 : gI M2 16 1 = nI st := by
    rw [hf2.I (by decide), hf1.I (by decide), gI_sI, gI_sI]
    rfl
  have s2 : gI M2 16 2 = nI H := by
    rw [hf2.I (by decide), hf1.I (by decide), gI_sI]
    rfl
  have f2 : fr [16, 17, 18] M M2 := (f0.trans (hf1.mono (by decide))).trans (hf2.mono (by decide))
  have hT2 : MT 17 M2 (fun x y => if x < N ∧ y < N then lN (Tp m pc W x y) else 0) := hv1.congr (hf2.L (by decide)) (fun _ _ _ _ => rfl)
  rw [s1]
  simp (disch := omega) only [bd_eq, jn_eq, cl_some, i0, i1, i2, i3, i4, i5, i6, i8, i10, i14, i36, i86, nI_add, nI_mul, rdI_n, rdL_n, wrI_n, wrL_n, nI_ile, nI_ilt]
  refine lpS (fun n i M1 => f_X1_follow_L36 Z n (nI i) M1) (fun x => OK x _) (fun i M3 => fr [18] M2 M3 ∧ MT 18 M3 (fun t x => if t ≤ i ∧ x < N then lN (Fl N (Tp m pc W) st t x) else 0)) 0 H (by omega) (by omega) ⟨fr_sL fr.rfl List.mem_cons_self, fun t ht x hx => ?_⟩ ?_ ?_
  · rw [gL_sL, hv2 _ (by omega)]
    dsimp only
    by_cases c : t = 0
    · subst c
      by_cases d : x = st
      · subst d
        simp [Fl, hst, l1]
      · have : ¬ (0 * 6 + x = st) := by omega
        simp [this, Fl, d]
        intro _
        rfl
    · rw [if_neg (by omega), if_neg (by omega)]
  · intro n t M3 _ ht ⟨hf3, hv3⟩ K
    have g3 : gI M3 16 2 = nI H := by rw [hf3.I (by decide)]; exact s2
    have h33 : gI M3 3 0 = nI N := by rw [hf3.I (by decide), f2.I (by decide)]; exact h.1
    have hT3 : MT 17 M3 (fun x y => if x < N ∧ y < N then lN (Tp m pc W x y) else 0) := hT2.congr (hf3.L (by decide)) (fun _ _ _ _ => rfl)
    rw [f_X1_follow_L36, bd_eq, g3]
    simp (disch := omega) only [if_neg (show ¬ H ≤ t by omega), bd_eq, jn_eq, cl_some, i0, i1, i2, i3, i4, i5, i6, i8, i10, i14, i36, i86, nI_add, nI_mul, rdI_n, rdL_n, wrI_n, wrL_n, nI_ile, nI_ilt]
    obtain ⟨_, M4, e4, hf4, hv4⟩ := spread_ok (Z := Z) (M := M3) (N := N) h33 hN (by omega) (T := Tp m pc W) hT3 (w := 18) (t := t) (by decide) (by omega) (F := fun x => if x < N then Fl N (Tp m pc W) st t x else 0) hv3 (fun x hx => by rw [if_pos ⟨Nat.le_refl _, hx⟩, if_pos hx]) (fun x => by
      split
      · rename_i hx
        have := Fl_lt (st := st) hTs (t := t) hx (by omega)
        omega
      · decide) (fun y hy => by rw [if_neg (by omega)]) (by decide)
    rw [e4, cl_some]
    refine K M4 ⟨hf3.trans hf4, hv4.congr rfl (fun t' _ x _ => ?_)⟩
    by_cases c : t' = t + 1 ∧ x < N
    · rw [if_pos c, if_pos ⟨by omega, c.2⟩, c.1]
      show lN (sm N _) = lN (sm N _)
      exact congrArg lN (sm_congr (fun i hi => by rw [if_pos hi]))
    · rw [if_neg c]
      by_cases d : t' ≤ t ∧ x < N
      · rw [if_pos d, if_pos ⟨by omega, d.2⟩]
      · rw [if_neg d, if_neg (by omega)]
  · intro n M3 ⟨hf3, hv3⟩
    have g3 : gI M3 16 2 = nI H := by rw [hf3.I (by decide)]; exact s2
    rw [f_X1_follow_L36, bd_eq, g3]
    simp only [ge_self, if_true]
    refine OK.ret ⟨f2.trans (hf3.mono (by decide)), ?_, g3, hT2.congr (hf3.L (by decide)) (fun _ _ _ _ => rfl), hv3⟩
    rw [hf3.I (by decide)]
    exact s1
/-- the settings in the reference: start, horizon, weights -/
def SR (M : Mem) (st H : Nat) (W : Nat → Nat) : Prop := gI M 109 0 = nI st ∧ gI M 109 1 = nI H ∧ ∀ r, r < 18 → gI M 109 (4 + r) = nI (W r)
theorem ChR.fr {l : List Nat} {M M' : Mem} {N : Nat} {m : Nat → Nat} {pc : Nat → Nat → Nat} (h : ChR M N m pc) (hf : fr l M M') (h3 : 112 ∉ l) : ChR M' N m pc := by
  unfold ChR
  rw [hf.I h3]
  exact h
theorem SR.fr {l : List Nat} {M M' : Mem} {st H : Nat} {W : Nat → Nat} (h : SR M st H W) (hf : fr l M M') (h3 : 109 ∉ l) : SR M' st H W := by
  unfold SR
  rw [hf.I h3]
  exact h
theorem weightOf_eq {Z : Nat} {M : Mem} {st H : Nat} {W : Nat → Nat} (h : SR M st H W) {x a : Nat} (hr : x * 3 + a < 18) : f_X12_weightOf Z M (nI x) (nI a) = some (nI (W (x * 3 + a)), M) := by
  unfold f_X12_weightOf
  simp (disch := omega) only [bd_eq, jn_eq, cl_some, i0, i1, i2, i3, i4, i5, i6, i8, i10, i14, i36, i86, nI_add, nI_mul, rdI_n, rdL_n, wrI_n, wrL_n, nI_ile, nI_ilt, mc3]
  rw [Nat.add_assoc, h.2.2 _ hr]
theorem percentBy_eq {Z : Nat} {M : Mem} {N : Nat} {m : Nat → Nat} {pc : Nat → Nat → Nat} (h : ChR M N m pc) {x a y : Nat} (hr : x * 3 + a < 18) (hy : y < 6) : f_X12_percentBy Z M (nI x) (nI a) (nI y) = some (nI (pc (x * 3 + a) y), M) := by
  unfold f_X12_percentBy
  simp (disch := omega) only [bd_eq, jn_eq, cl_some, i0, i1, i2, i3, i4, i5, i6, i8, i10, i14, i36, i86, nI_add, nI_mul, rdI_n, rdL_n, wrI_n, wrL_n, nI_ile, nI_ilt, mc3, mc6]
  rw [h.2.2 _ hr y hy]
theorem stepOf_eq {Z : Nat} {M : Mem} {N : Nat} {m : Nat → Nat} {pc : Nat → Nat → Nat} (h : ChR M N m pc) (hz : Sz N m pc) (hZ : 10 < Z) {st H : Nat} {W : Nat → Nat} (hS : SR M st H W) {x y : Nat} (hx : x < 6) (hy : y < 6) : f_X12_stepOf Z M (nI x) (nI y) = some (nI (Tp m pc W x y), M) := by
  have hm := hz.2.1 x
  unfold f_X12_stepOf
  rw [i0]
  refine lpS (σ := Unit) (fun n i _ => f_X12_stepOf_L5 Z (nI x) (nI y) n (nI (sm i (fun a => W (x * 3 + a) * pc (x * 3 + a) y))) (nI i) M) (fun r => r = some (nI (Tp m pc W x y), M)) (fun _ _ => True) 0 (m x) (s := ()) (by omega) (by omega) trivial ?_ ?_
  · intro n a _ _ ha _ K
    rw [f_X12_stepOf_L5]
    simp (disch := omega) only [h.2.1 x hx, if_neg (show ¬ m x ≤ a by omega), weightOf_eq hS, percentBy_eq h, bd_eq, jn_eq, cl_some, i0, i1, i2, i3, i4, i5, i6, i8, i10, i14, i36, i86, nI_add, nI_mul, rdI_n, rdL_n, wrI_n, wrL_n, nI_ile, nI_ilt]
    exact K () trivial
  · intro n _ _
    rw [f_X12_stepOf_L5]
    simp (disch := omega) only [h.2.1 x hx, ge_self, if_true, bd_eq, jn_eq, cl_some, i0, i1, i2, i3, i4, i5, i6, i8, i10, i14, i36, i86, nI_add, nI_mul, rdI_n, rdL_n, wrI_n, wrL_n, nI_ile, nI_ilt]
    rfl
theorem lays_ok {Z : Nat} {M : Mem} {N : Nat} {m : Nat → Nat} {pc : Nat → Nat → Nat} (h : ChR M N m pc) (hz : Sz N m pc) (hZ : 60 < Z) {st H : Nat} {W : Nat → Nat} (hS : SR M st H W) (hst : st < N) (hH : H ≤ 5) (hTb : ∀ x y, x < N → y < N → Tp m pc W x y ≤ 1000) (bt : Int32) :
    OK (f_X12_lays Z M bt) (fun _ M' => fr [116] M M' ∧ MT 116 M' (fun t x => if t ≤ H ∧ x < N then lN (Fl N (fun x y => if nI x = bt then 0 else Tp m pc W x y) st t x) else 0)) := by
  have hN := hz.1
  unfold f_X12_lays
  rw [i0]
  refine lpS (fun n i M1 => f_X12_lays_L2 Z bt (fun (M4 : Mem) => rdI M4 109 54 (nI 0) (fun v5 => wrL M4 116 36 v5 (1 : Int64) (fun M6 => f_X12_lays_L35 Z bt Z (nI 0) M6))) n (nI i) M1) (fun x => OK x _) (fun i M1 => fr [116] M M1 ∧ ∀ j, j < i → gL M1 116 j = 0) 0 36 (by omega) (by omega) ⟨fr.rfl, fun j hj => absurd hj (by omega)⟩ ?_ ?_
  · intro n x M1 _ hi ⟨hf, hv⟩ K
    rw [f_X12_lays_L2]
    simp (disch := omega) only [if_neg (show ¬ 36 ≤ x by omega), bd_eq, jn_eq, cl_some, i0, i1, i2, i3, i4, i5, i6, i8, i10, i14, i36, i86, nI_add, nI_mul, rdI_n, rdL_n, wrI_n, wrL_n, nI_ile, nI_ilt]
    refine K _ ⟨fr_sL hf List.mem_cons_self, fun j hj => ?_⟩
    rw [gL_sL]
    by_cases c : j = x
    · rw [if_pos ⟨rfl, c⟩]
    · rw [if_neg (fun z => c z.2)]
      exact hv j (by omega)
  · intro n M1 ⟨hf, hv⟩
    have hS1 := hS.fr hf (by decide)
    rw [f_X12_lays_L2]
    simp (disch := omega) only [if_pos (Nat.le_refl 36), hS1.1, bd_eq, jn_eq, cl_some, i0, i1, i2, i3, i4, i5, i6, i8, i10, i14, i36, i86, nI_add, nI_mul, rdI_n, rdL_n, wrI_n, wrL_n, nI_ile, nI_ilt]
    refine lpS (fun n i M1 => f_X12_lays_L35 Z bt n (nI i) M1) (fun x => OK x _) (fun i M3 => fr [116] M M3 ∧ MT 116 M3 (fun t x => if t ≤ i ∧ x < N then lN (Fl N (fun x y => if nI x = bt then 0 else Tp m pc W x y) st t x) else 0)) 0 H (by omega) (by omega) ⟨fr_sL hf List.mem_cons_self, fun t ht x hx => ?_⟩ ?_ ?_
    · rw [gL_sL, hv _ (by omega)]
      dsimp only
      by_cases c : t = 0
      · subst c
        by_cases d : x = st
        · subst d
          simp [Fl, hst, l1]
        · have : ¬ (0 * 6 + x = st) := by omega
          simp [this, Fl, d]
          intro _
          rfl
      · rw [if_neg (by omega), if_neg (by omega)]
    · intro n' t M3 _ ht ⟨hf3, hv3⟩ K
      have hS3 := hS.fr hf3 (by decide)
      rw [f_X12_lays_L35]
      simp (disch := omega) only [if_neg (show ¬ H ≤ t by omega), hS3.2.1, bd_eq, jn_eq, cl_some, i0, i1, i2, i3, i4, i5, i6, i8, i10, i14, i36, i86, nI_add, nI_mul, rdI_n, rdL_n, wrI_n, wrL_n, nI_ile, nI_ilt]
      refine lpS (fun n'' i M1 => f_X12_lays_L47 Z bt (nI t) (fun M23 => f_X12_lays_L35 Z bt n' (nI (t + 1)) M23) n'' (nI i) M1) (fun x => OK x _) (fun i M4 => fr [116] M M4 ∧ MT 116 M4 (fun a b => if a = t + 1 ∧ b < N then lN (sm i (fun x => Fl N (fun x y => if nI x = bt then 0 else Tp m pc W x y) st t x * (if nI x = bt then 0 else Tp m pc W x b))) else if a ≤ t ∧ b < N then lN (Fl N (fun x y => if nI x = bt then 0 else Tp m pc W x y) st a b) else 0)) 0 N (by omega) (by omega) ⟨hf3, hv3.congr rfl (fun a _ b _ => ?_)⟩ ?_ ?_
      · by_cases c : a = t + 1 ∧ b < N
        · rw [if_pos c, if_neg (by omega)]
          rfl
        · rw [if_neg c]
      · intro n'' x M4 _ hx ⟨hf4, hv4⟩ K4
        have h4 := h.fr hf4 (by decide)
        rw [f_X12_lays_L47]
        simp (disch := omega) only [if_neg (show ¬ N ≤ x by omega), h4.1, bd_eq, jn_eq, cl_some, i0, i1, i2, i3, i4, i5, i6, i8, i10, i14, i36, i86, nI_add, nI_mul, rdI_n, rdL_n, wrI_n, wrL_n, nI_ile, nI_ilt]
        by_cases hb : nI x = bt
        · -- none goes on from this state
          obtain ⟨n9, hn9⟩ : ∃ n9, Z = n9 + 1 := ⟨Z - 1, by omega⟩
          have hN1 : ¬ N ≤ 0 := by omega
          have h40 := h4.1
          have e9 : f_X12_lays_L60 Z bt (nI t) (nI x) (fun M22 => f_X12_lays_L47 Z bt (nI t) (fun M23 => f_X12_lays_L35 Z bt n' (nI (t + 1)) M23) n'' (nI (x + 1)) M22) Z (nI 0) M4 = f_X12_lays_L47 Z bt (nI t) (fun M23 => f_X12_lays_L35 Z bt n' (nI (t + 1)) M23) n'' (nI (x + 1)) M4 := by
            generalize f_X12_lays_L47 Z bt (nI t) (fun M23 => f_X12_lays_L35 Z bt n' (nI (t + 1)) M23) n'' (nI (x + 1)) = kk
            rw [show f_X12_lays_L60 Z bt (nI t) (nI x) (fun M22 => kk M22) Z = f_X12_lays_L60 Z bt (nI t) (nI x) (fun M22 => kk M22) (n9 + 1) by rw [← hn9], f_X12_lays_L60]
            simp (disch := omega) only [if_neg hN1, if_pos hb, h40, bd_eq, jn_eq, cl_some, i0, i1, i2, i3, i4, i5, i6, i8, i10, i14, i36, i86, nI_add, nI_mul, rdI_n, rdL_n, wrI_n, wrL_n, nI_ile, nI_ilt]
          rw [e9]
          refine K4 M4 ⟨hf4, hv4.congr rfl (fun a _ b _ => ?_)⟩
          by_cases c : a = t + 1 ∧ b < N
          · rw [if_pos c, if_pos c]
            show lN (sm x _ + _ * (if nI x = bt then 0 else _)) = _
            rw [if_pos hb, Nat.mul_zero, Nat.add_zero]
          · rw [if_neg c, if_neg c]
        · refine lpS (fun n9 i M1 => f_X12_lays_L60 Z bt (nI t) (nI x) (fun M22 => f_X12_lays_L47 Z bt (nI t) (fun M23 => f_X12_lays_L35 Z bt n' (nI (t + 1)) M23) n'' (nI (x + 1)) M22) n9 (nI i) M1) (fun x => OK x _) (fun i M5 => fr [116] M M5 ∧ MT 116 M5 (fun a b => if a = t + 1 ∧ b < N then lN (sm x (fun x => Fl N (fun x y => if nI x = bt then 0 else Tp m pc W x y) st t x * (if nI x = bt then 0 else Tp m pc W x b)) + (if b < i then Fl N (fun x y => if nI x = bt then 0 else Tp m pc W x y) st t x * Tp m pc W x b else 0)) else if a ≤ t ∧ b < N then lN (Fl N (fun x y => if nI x = bt then 0 else Tp m pc W x y) st a b) else 0)) 0 N (by omega) (by omega) ⟨hf4, hv4.congr rfl (fun a _ b _ => by rw [if_neg (Nat.not_lt_zero b)]; rfl)⟩ ?_ ?_
          · intro n9 y M5 _ hy ⟨hf5, hv5⟩ K5
            have h5 := h.fr hf5 (by decide)
            have hS5 := hS.fr hf5 (by decide)
            have hs5 := stepOf_eq (Z := Z) h5 hz (by omega) hS5 (x := x) (y := y) (by omega) (by omega)
            have c1 : gL M5 116 ((t + 1) * 6 + y) = lN (sm x (fun x => Fl N (fun x y => if nI x = bt then 0 else Tp m pc W x y) st t x * (if nI x = bt then 0 else Tp m pc W x y))) := by
              rw [hv5 (t + 1) (by omega) y (by omega)]
              dsimp only
              rw [if_pos ⟨rfl, hy⟩, if_neg (Nat.lt_irrefl y), Nat.add_zero]
            have c2 : gL M5 116 (t * 6 + x) = lN (Fl N (fun x y => if nI x = bt then 0 else Tp m pc W x y) st t x) := by
              rw [hv5 t (by omega) x (by omega)]
              dsimp only
              rw [if_neg (by omega), if_pos ⟨Nat.le_refl _, hx⟩]
            have hb5 := hTb x y hx hy
            rw [f_X12_lays_L60]
            simp (disch := omega) only [if_neg (show ¬ N ≤ y by omega), if_neg hb, h5.1, hs5, mc6, c1, c2, nI_l, lN_mul, lN_add, bd_eq, jn_eq, cl_some, i0, i1, i2, i3, i4, i5, i6, i8, i10, i14, i36, i86, nI_add, nI_mul, rdI_n, rdL_n, wrI_n, wrL_n, nI_ile, nI_ilt]
            refine K5 _ ⟨fr_sL hf5 List.mem_cons_self, (hv5.set (x := t + 1) (y := y) (by omega)).congr rfl (fun a _ b _ => ?_)⟩
            dsimp only [mst]
            by_cases d : b = y
            · subst d
              by_cases c : a = t + 1
              · simp [c, hy]
              · simp [c]
            · have e1 : (b < y + 1) = (b < y) := propext ⟨fun h => by omega, fun h => by omega⟩
              simp only [d, and_false, if_false, e1]
          · intro n9 M5 ⟨hf5, hv5⟩
            have h5 := h.fr hf5 (by decide)
            rw [f_X12_lays_L60]
            simp (disch := omega) only [if_pos (Nat.le_refl N), h5.1, bd_eq, jn_eq, cl_some, i0, i1, i2, i3, i4, i5, i6, i8, i10, i14, i36, i86, nI_add, nI_mul, rdI_n, rdL_n, wrI_n, wrL_n, nI_ile, nI_ilt]
            refine K4 M5 ⟨hf5, hv5.congr rfl (fun a _ b _ => ?_)⟩
            by_cases c : a = t + 1 ∧ b < N
            · rw [if_pos c, if_pos c, if_pos c.2]
              show lN (sm x _ + _ * (if nI x = bt then 0 else _)) = _
              rw [if_neg hb]
            · rw [if_neg c, if_neg c]
      · intro n'' M4 ⟨hf4, hv4⟩
        have h4 := h.fr hf4 (by decide)
        rw [f_X12_lays_L47]
        simp (disch := omega) only [if_pos (Nat.le_refl N), h4.1, bd_eq, jn_eq, cl_some, i0, i1, i2, i3, i4, i5, i6, i8, i10, i14, i36, i86, nI_add, nI_mul, rdI_n, rdL_n, wrI_n, wrL_n, nI_ile, nI_ilt]
        refine K M4 ⟨hf4, hv4.congr rfl (fun a _ b _ => ?_)⟩
        by_cases c : a = t + 1 ∧ b < N
        · rw [if_pos c, if_pos ⟨by omega, c.2⟩, c.1]
          rfl
        · rw [if_neg c]
          by_cases d : a ≤ t ∧ b < N
          · rw [if_pos d, if_pos ⟨by omega, d.2⟩]
          · rw [if_neg d, if_neg (by omega)]
    · intro n' M3 ⟨hf3, hv3⟩
      have hS3 := hS.fr hf3 (by decide)
      rw [f_X12_lays_L35]
      simp (disch := omega) only [if_pos (Nat.le_refl H), hS3.2.1, bd_eq, jn_eq, cl_some, i0, i1, i2, i3, i4, i5, i6, i8, i10, i14, i36, i86, nI_add, nI_mul, rdI_n, rdL_n, wrI_n, wrL_n, nI_ile, nI_ilt]
      exact OK.ret ⟨hf3, hv3⟩
