/-! the class's parser over what an act uses -/
def PA (b : Nat → Nat) (n : Nat) (t : List Nat) (Q : Nat → Int32) (M : Mem) : Prop := AtT b n t M ∧ CQ0 Q M ∧ CQW Q M ∧ VW Q
theorem uses_fwd {Z b9 : Nat} {b : Nat → Nat} {n r nb : Nat} {Q : Nat → Int32} {M : Mem} {u : Nat → Nat} (hZ : 4000 < Z) (hr : r < 18) (hB : cB Q = nb) (hu : ∀ j, j < nb → u j ≤ 60) (hz : ∀ j, j < 3 → pn Q (32 + (r * 3 + j)) = 0) : ∀ c, c ≤ nb → ∀ t, isD (t.headD 0) = false → PA b n (usT u c ++ t) Q M → ∃ M' Q' j, j ≤ c ∧ (∀ k fu, f_X4_parseUses_L2 Z (nI r) k (fu + j) (nI 0) M = f_X4_parseUses_L2 Z (nI r) k fu (nI j) M') ∧ fr lP M M' ∧ PA b n t Q' M' ∧ ∀ i, Q' i = if 32 + r * 3 ≤ i ∧ i < 32 + r * 3 + c then nI (u (i - (32 + r * 3))) else Q i := by
  intro c
  induction c with
  | zero =>
    intro _ t _ h
    exact ⟨M, Q, 0, Nat.le_refl _, fun _ _ => rfl, fr.rfl, h, fun i => (if_neg (by omega)).symm⟩
  | succ c ih =>
    intro hc t ht h
    have hB3 : cB Q ≤ 3 := h.2.2.2.B.2
    by_cases hu0 : u c = 0
    · rw [usT, if_pos hu0, List.append_nil] at h
      obtain ⟨M', Q', j, h1, h2, h3, h4, h5⟩ := ih (by omega) t ht h
      refine ⟨M', Q', j, by omega, h2, h3, h4, fun i => ?_⟩
      rw [h5]
      by_cases ci : i = 32 + r * 3 + c
      · have q0 := h.2.2.2.A (r * 3 + c) (by omega)
        rw [if_neg (by omega), if_pos (by omega), ci, show 32 + r * 3 + c - (32 + r * 3) = c by omega, hu0, show 32 + r * 3 + c = 32 + (r * 3 + c) by omega, q0.1, hz c (by omega)]
      · by_cases c2 : 32 + r * 3 ≤ i ∧ i < 32 + r * 3 + c
        · rw [if_pos c2, if_pos (by omega)]
        · rw [if_neg c2, if_neg (by omega)]
    · have hu60 := hu c (by omega)
      rw [usT, if_neg hu0, WL17] at h
      simp only [List.append_assoc] at h
      obtain ⟨M0, Q0, j, h1, h2, h3, ⟨hA, hq, hw, hW⟩, h5⟩ := ih (by omega) _ (hd_sp1 (t := wL 6 ++ _)).2 h
      have e1 : Q0 1 = Q 1 := by rw [h5, if_neg (by omega)]
      have hB0 : cB Q0 = nb := (pn_c e1).trans hB
      have ez : pn Q0 (32 + (r * 3 + c)) = 0 := (pn_c (by rw [h5, if_neg (by omega)])).trans (hz c (by omega))
      have ew := isA hZ hA (by decide) (l := 6) (by decide) (by rfl)
      obtain ⟨M1, k1, f1, -, a1⟩ := advW hZ hA (by decide) (by rfl)
      have c1 : gI M1 22 1 = nI nb := by rw [f1.1.I (by decide), ← hB0]; exact hq.1.2.1.trans hW.B.1
      have m1 : (nI nb - (1 : Int32)).toInt = (nb : Int) - 1 := ltopI (by omega)
      obtain ⟨M2, k2, f2, g2, a2⟩ := seeA (Z := Z) (i := 1) (lo := 0) (hi := nI nb - 1) a1 (by omega) hd_sp1.2 (by decide) ⟨Nat.zero_le _, by omega⟩
      obtain ⟨M3, k3, f3, -, a3⟩ := advN hZ a2 (by omega) hd_sp1.2
      obtain ⟨M4, k4, f4, g4, a4⟩ := numA (i := 1) (lo := 1) (hi := 99) hZ a3 (by omega) ht (by decide) ⟨by omega, by show (u c : Int) ≤ 99; omega⟩
      have am : f_X0_amountOf Z M2 22 (nI r) (nI c) = some (nI 0, M2) := by
        unfold f_X0_amountOf
        rw [i3, nI_mul, nI_add, rdI_n (by omega) (by decide), ((hq.fP f1).fP f2).1.2.2.2.2.1 _ (by omega), (hW.A _ (by omega)).1, ez]
      have A := ((((hq.fP f1).fP f2).fP f3).fP f4).updA (j := r * 3 + c) (v := nI (u c)) hW.T (by omega)
      have W : CQW (upd Q0 (32 + (r * 3 + c)) (nI (u c))) (sI M4 25 (r * 3 + c) (nI (u c))) := ((((hw.fP f1).fP f2).fP f3).fP f4).updL (by omega) (by rw [gI_sI', if_neg (by decide)])
      refine ⟨sI M4 25 (r * 3 + c) (nI (u c)), upd Q0 (32 + (r * 3 + c)) (nI (u c)), j + 1, by omega, fun k fu => ?_, fr_sI ((((h3.trans f1.p).trans f2.p).trans f3.p).trans f4.p) (by decide), ⟨a4.s (by decide) (by decide), A, W, hW.put (by omega) (by rw [mxA (by omega)]; omega)⟩, fun i => ?_⟩
      · rw [show fu + (j + 1) = (fu + 1) + j by omega, h2, f_X4_parseUses_L2, if_neg (by rw [show (3 : Int32) = nI 3 from rfl, nI_ilt (by decide) (by omega)]; omega), ew, cl_some, if_neg (by decide), k1, cl_some, bd_eq, c1, show f_X4_seeNumber Z M1 (0 : Int32) (nI nb - 1) = some (1, M2) from k2, cl_some, if_neg (by decide), bd_eq, g2, am, cl_some, if_pos (by decide), k3, cl_some, show f_X4_takeNumber Z M3 1 99 = some (1, M4) from k4, cl_some, if_neg (by decide), bd_eq, g4, show (3 : Int32) = nI 3 from rfl, nI_mul, nI_add, wrI_n (by omega) (by decide), show nI j + (1 : Int32) = nI (j + 1) from nI_add j 1]
      · by_cases ci : i = 32 + (r * 3 + c)
        · rw [ci, upd_eq, if_pos (by omega), show 32 + (r * 3 + c) - (32 + r * 3) = c by omega]
        · rw [upd_ne ci, h5]
          by_cases c2 : 32 + r * 3 ≤ i ∧ i < 32 + r * 3 + c
          · rw [if_pos c2, if_pos (by omega)]
          · rw [if_neg c2, if_neg (by omega)]
theorem parseUses_ok {Z : Nat} {b : Nat → Nat} {n r nb : Nat} {Q : Nat → Int32} {M : Mem} {u : Nat → Nat} {t : List Nat} (hZ : 4000 < Z) (hr : r < 18) (hB : cB Q = nb) (hu : ∀ j, j < nb → u j ≤ 60) (hz : ∀ j, j < 3 → pn Q (32 + (r * 3 + j)) = 0) (h : PA b n (usT u nb ++ (sp 1 ++ (wL 7 ++ (sp 1 ++ t)))) Q M) : ∃ M' Q', f_X4_parseUses Z M (nI r) = some (1, M') ∧ fr lP M M' ∧ PA b n (sp 1 ++ (wL 7 ++ (sp 1 ++ t))) Q' M' ∧ ∀ i, Q' i = if 32 + r * 3 ≤ i ∧ i < 32 + r * 3 + nb then nI (u (i - (32 + r * 3))) else Q i := by
  have hB3 : cB Q ≤ 3 := h.2.2.2.B.2
  obtain ⟨M', Q', j, h1, h2, h3, h4, h5⟩ := uses_fwd (b9 := 0) hZ hr hB hu hz nb (Nat.le_refl _) _ hd_sp1.2 h
  refine ⟨M', Q', ?_, h3, h4, h5⟩
  unfold f_X4_parseUses
  obtain ⟨fu, rfl⟩ : ∃ fu, Z = (fu + 1) + j := ⟨Z - 1 - j, by omega⟩
  have ew := isA hZ h4.1 (by decide) (l := 6) (by decide) (by rfl)
  generalize hk : (fun (M25 : Mem) => cl (f_X4_fail ((fu + 1) + j) M25 (3 : Int32)) (fun v26 M27 => (if v26 &&& 1 = v26 then some (v26, M27) else none))) = kk
  have h2' := h2 kk (fu + 1)
  generalize fu + 1 + j = Z at *
  rw [show (0 : Int32) = nI 0 from rfl, h2', f_X4_parseUses_L2, if_neg (by rw [show (3 : Int32) = nI 3 from rfl, nI_ilt (by decide) (by omega)]; omega), ew, cl_some, if_pos (by decide)]
