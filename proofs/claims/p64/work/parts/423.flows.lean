theorem follow_ok {Z : Nat} {M : Mem} {N : Nat} {m : Nat → Nat} {pc : Nat → Nat → Nat} (h : ChC M N m pc) (hz : Sz N m pc) (hZ : 60 < Z) {w : Nat} {W : Nat → Nat} (hw : w ≠ 16 ∧ w ≠ 17 ∧ w ≠ 18) (hW : ∀ r, r < 3 * N → gI M w r = nI (W r)) (hW10 : ∀ r, W r ≤ 10) {st H : Nat} (hst : st < N) (hH : H ≤ 5) (hTs : ∀ x, x < N → sm N (Tp m pc W x) ≤ 1000) :
    OK (f_X1_follow Z M w (nI st) (nI H)) (fun _ M' => fr [16, 17, 18] M M' ∧ gI M' 16 1 = nI st ∧ gI M' 16 2 = nI H ∧ MT 17 M' (fun x y => if x < N ∧ y < N then lN (Tp m pc W x y) else 0) ∧ MT 18 M' (fun t x => if t ≤ H ∧ x < N then lN (Fl N (Tp m pc W) st t x) else 0)) := by
  have hN := hz.1
  unfold f_X1_follow
  simp only [bd_eq]
  have f0 : fr [16, 17, 18] M (sI (sI M 16 1 (nI st)) 16 2 (nI H)) := fr_sI (fr_sI fr.rfl (by decide)) (by decide)
  have h0 : ChC (sI (sI M 16 1 (nI st)) 16 2 (nI H)) N m pc := h.fr f0 (by decide) (by decide) (by decide)
  obtain ⟨_, M1, e1, hf1, hv1⟩ := fillParts_ok (Z := Z) h0 hz (by omega) (w := w) (W := W) hw.2.1 (fun r hr => by rw [f0.I (by simp; omega)]; exact hW r hr) hW10
  rw [e1, cl_some]
  obtain ⟨_, M2, e2, hf2, hv2⟩ := fill_d_ok (Z := Z) (M := M1) (a := 18) (na := 36) (v := 0) (by decide) (by omega)
  rw [e2, cl_some]
  have s1 : gI M2 16 1 = nI st := by
    rw [hf2.I (by decide), hf1.I (by decide), gI_sI, gI_sI]
    rfl
  have s2 : gI M2 16 2 = nI H := by
    rw [hf2.I (by decide), hf1.I (by decide), gI_sI]
    rfl
  have f2 : fr [16, 17, 18] M M2 := (f0.trans (hf1.mono (by decide))).trans (hf2.mono (by decide))
  have hT2 : MT 17 M2 (fun x y => if x < N ∧ y < N then lN (Tp m pc W x y) else 0) := hv1.congr (hf2.L (by decide)) (fun _ _ _ _ => rfl)
  rw [s1]
  simp (disch := omega) only [bd_eq, jn_eq, cl_some, i0, i1, i2, i3, i4, i5, i6, i8, i10, i14, i36, i86, nI_add, nI_mul, rdI_n, rdL_n, wrI_n, wrL_n, nI_ile, nI_ilt]
  refine lpS (fun n i M1 => f_X1_follow_L36 Z n (nI i) M1) (fun x => OK x _) (fun i M3 => fr [18] M2 M3 ∧ MT 18 M3 (fun t x => if t ≤ i ∧ x < N then lN (Fl N (Tp m pc W) st t x) else 0)) 0 H (by omega) (by omega) ⟨fr_sL fr.rfl List.mem_cons_self, fun t ht x hx => ?_⟩ ?_ ?_
  · rw [gL_sL, hv2 _ (by omega)]
    dsimp only
    by_cases c : t = 0
    · subst c
      by_cases d : x = st
      · subst d
        simp [Fl, hst, l1]
      · have : ¬ (0 * 6 + x = st) := by omega
        simp [this, Fl, d]
        intro _
        rfl
    · rw [if_neg (by omega), if_neg (by omega)]
  · intro n t M3 _ ht ⟨hf3, hv3⟩ K
    have g3 : gI M3 16 2 = nI H := by rw [hf3.I (by decide)]; exact s2
    have h33 : gI M3 3 0 = nI N := by rw [hf3.I (by decide), f2.I (by decide)]; exact h.1
    have hT3 : MT 17 M3 (fun x y => if x < N ∧ y < N then lN (Tp m pc W x y) else 0) := hT2.congr (hf3.L (by decide)) (fun _ _ _ _ => rfl)
    rw [f_X1_follow_L36, bd_eq, g3]
    simp (disch := omega) only [if_neg (show ¬ H ≤ t by omega), bd_eq, jn_eq, cl_some, i0, i1, i2, i3, i4, i5, i6, i8, i10, i14, i36, i86, nI_add, nI_mul, rdI_n, rdL_n, wrI_n, wrL_n, nI_ile, nI_ilt]
    obtain ⟨_, M4, e4, hf4, hv4⟩ := spread_ok (Z := Z) (M := M3) (N := N) h33 hN (by omega) (T := Tp m pc W) hT3 (w := 18) (t := t) (by decide) (by omega) (F := fun x => if x < N then Fl N (Tp m pc W) st t x else 0) hv3 (fun x hx => by rw [if_pos ⟨Nat.le_refl _, hx⟩, if_pos hx]) (fun x => by
      split
      · rename_i hx
        have := Fl_lt (st := st) hTs (t := t) hx (by omega)
        omega
      · decide) (fun y hy => by rw [if_neg (by omega)]) (by decide)
    rw [e4, cl_some]
    refine K M4 ⟨hf3.trans hf4, hv4.congr rfl (fun t' _ x _ => ?_)⟩
    by_cases c : t' = t + 1 ∧ x < N
    · rw [if_pos c, if_pos ⟨by omega, c.2⟩, c.1]
      show lN (sm N _) = lN (sm N _)
      exact congrArg lN (sm_congr (fun i hi => by rw [if_pos hi]))
    · rw [if_neg c]
      by_cases d : t' ≤ t ∧ x < N
      · rw [if_pos d, if_pos ⟨by omega, d.2⟩]
      · rw [if_neg d, if_neg (by omega)]
  · intro n M3 ⟨hf3, hv3⟩
    have g3 : gI M3 16 2 = nI H := by rw [hf3.I (by decide)]; exact s2
    rw [f_X1_follow_L36, bd_eq, g3]
    simp only [ge_self, if_true]
    refine OK.ret ⟨f2.trans (hf3.mono (by decide)), ?_, g3, hT2.congr (hf3.L (by decide)) (fun _ _ _ _ => rfl), hv3⟩
    rw [hf3.I (by decide)]
    exact s1
/-- the settings in the reference: start, horizon, weights -/
def SR (M : Mem) (st H : Nat) (W : Nat → Nat) : Prop := gI M 109 0 = nI st ∧ gI M 109 1 = nI H ∧ ∀ r, r < 18 → gI M 109 (4 + r) = nI (W r)
theorem ChR.fr {l : List Nat} {M M' : Mem} {N : Nat} {m : Nat → Nat} {pc : Nat → Nat → Nat} (h : ChR M N m pc) (hf : fr l M M') (h3 : 112 ∉ l) : ChR M' N m pc := by
  unfold ChR
  rw [hf.I h3]
  exact h
theorem SR.fr {l : List Nat} {M M' : Mem} {st H : Nat} {W : Nat → Nat} (h : SR M st H W) (hf : fr l M M') (h3 : 109 ∉ l) : SR M' st H W := by
  unfold SR
  rw [hf.I h3]
  exact h
