/-! the states, drawn one after another -/
def SI (w : Nat) : Prop := S8 w ∨ (111 ≤ w ∧ w < 208)
def ZX (M : Mem) (y : Nat) : Prop := (∀ j, gI M (120 + y) j = nI 0) ∧ ∀ b, b < 3 → ∀ j, gI M (128 + 4 * y + b) j = nI 0 ∧ gI M (153 + 4 * y + b) j = nI 0
def J252 (M0 : Mem) (T0 : List Nat) (n nb k0 c0 x : Nat) (M : Mem) (c : Nat) : Prop := (∃ k, gI M 108 1 = nI k ∧ k ≤ k0 + 65 * x) ∧ c ≤ c0 + 130 * x ∧ frS SI M0 M ∧ (∀ y, x ≤ y → y < 6 → ZX M y) ∧ ∃ t, t.length ≤ 244 * x ∧ TB M (T0 ++ t) ∧ StT M n nb x t
theorem SX_SI {x w : Nat} (hx : x < 6) (h : SX x w) : SI w := by
  unfold SX S8 S7 at h
  unfold SI S8 S7
  omega
theorem L252_ok {R : Option (Unit × Mem) → Prop} {Z LX : Nat} {xs : Nat → Int32} (hL : LX < 2147483647) (hZ : 10 ≤ Z) {n nb k0 c0 : Nat} (hn : n ≤ 4) (hn1 : 1 ≤ n) (hnb : nb ≤ 3) {M0 : Mem} {T0 : List Nat} (hR : RW M0) (hRw : RWw M0 (fun x => 120 + x)) (h1 : gI M0 109 1 = nI n) (h2 : gI M0 109 2 = nI nb) (hk0 : k0 < 600000) (hc0 : c0 ≤ 180) (hT0 : T0.length ≤ 100) {k : Mem → Nat → Option (Unit × Mem)} (hK : ∀ M c, J252 M0 T0 n nb k0 c0 n M c → R (k M c)) : ∀ d fu x M c, x + d = n → d < fu → J252 M0 T0 n nb k0 c0 x M c → R (f_X12_init_L252 shL Z LX xs k fu (nI x) M c) := by
  intro d
  induction d with
  | zero =>
    intro fu x M c hb hd hJ
    obtain ⟨fu, rfl⟩ := Nat.exists_eq_succ_of_ne_zero (Nat.ne_of_gt hd)
    obtain rfl : x = n := hb
    have e1 : gI M 109 1 = nI x := by rw [hJ.2.2.1.1 109 (by unfold SI S8 S7; omega)]; exact h1
    rw [f_X12_init_L252]
    refine bd_R ?_
    rw [e1]
    exact ifp_R (Int32.le_refl _) (hK M c hJ)
  | succ d ih =>
    intro fu x M c hb hd hJ
    obtain ⟨fu, rfl⟩ := Nat.exists_eq_succ_of_ne_zero (show fu ≠ 0 by omega)
    obtain ⟨⟨q, hq, hq2⟩, hc, hf, hr, t, htl, hT, hA⟩ := hJ
    have hx : x < 6 := by omega
    have e1 : gI M 109 1 = nI n := by rw [hf.1 109 (by unfold SI S8 S7; omega)]; exact h1
    have e2 : gI M 109 2 = nI nb := by rw [hf.1 109 (by unfold SI S8 S7; omega)]; exact h2
    rw [f_X12_init_L252]
    refine bd_R ?_
    rw [e1]
    refine ifn_R (by rw [nI_ile (by omega) (by omega)]; omega) (ifp_R (by omega) ?_)
    refine next_R hq (by omega) rfl rfl (a := 1) (b := 3) (by decide) (by decide) hL (fun m hm1 hm => ?_)
    refine wrI_R rfl hx (by decide) ?_
    have hf1 : frS (fun w => w = 108 ∨ w = 111) M (sI (sI M 108 1 (nI (q + 1))) 111 x (nI m)) := (frS_sI (.inl rfl)).trans (frS_sI (.inr rfl))
    have hT1 := (hT.wr (o := 108) (k := 1) (v := nI (q + 1)) (by decide) (by decide) (by decide)).wr (o := 111) (k := x) (v := nI m) (by decide) (by decide) (by decide)
    have gq : gI (sI (sI M 108 1 (nI (q + 1))) 111 x (nI m)) 108 1 = nI (q + 1) := by rw [gI_sI, if_neg (show ¬ (108 = 111 ∧ 1 = x) by omega)]; exact gI_same
    have g7 : gI (sI (sI M 108 1 (nI (q + 1))) 111 x (nI m)) 111 x = nI m := gI_same
    have g8 : ∀ y, y < x → gI (sI (sI M 108 1 (nI (q + 1))) 111 x (nI m)) 111 y = gI M 111 y := fun y hy => by rw [gI_sI, if_neg (show ¬ (111 = 111 ∧ y = x) by omega), gI_sI, if_neg (show ¬ (111 = 108 ∧ y = 1) by omega)]
    generalize sI (sI M 108 1 (nI (q + 1))) 111 x (nI m) = M1 at hf1 hT1 gq g7 g8 ⊢
    have zx : ∀ y, x ≤ y → y < 6 → ZX M1 y := fun y hy hy6 => by
      obtain ⟨z1, z2⟩ := hr y hy hy6
      refine ⟨fun j => by rw [hf1.1 (120 + y) (by omega)]; exact z1 j, fun b hb j => ?_⟩
      rw [hf1.1 (128 + 4 * y + b) (by omega), hf1.1 (153 + 4 * y + b) (by omega)]
      exact z2 b hb j
    have e1' : gI M1 109 1 = nI n := by rw [hf1.1 109 (by omega)]; exact e1
    have e2' : gI M1 109 2 = nI nb := by rw [hf1.1 109 (by omega)]; exact e2
    have hR1 : RW M1 := hR.R (hf1.2.2.trans hf.2.2)
    have hRw1 : RWw M1 (fun x => 120 + x) := hRw.R (hf1.2.2.trans hf.2.2)
    refine L274_ok hL hZ hx hn hn1 hnb hm (k0 := q + 1) (c0 := c) (M0 := M1) (T0 := T0 ++ t) hR1 e1' e2' g7 (zx x (Nat.le_refl _) hx).2 (by omega) (by omega) (by rw [List.length_append]; omega) (fun M2 c2 hJ2 => ?_) m Z 0 M1 c (by omega) (by omega) ⟨⟨q + 1, gq, by omega⟩, by omega, frS.rfl, fun _ _ _ => ⟨rfl, rfl⟩, [], by decide, by rw [List.append_nil]; exact hT1, rfl⟩
    obtain ⟨⟨q2, hq3, hq4⟩, hc2, hf2, -, t2, ht2, hT2, hA2⟩ := hJ2
    refine ifp_R (by omega) ?_
    refine cl_R (rule_ok hL hZ hx hm1 hm (hRw1.R hf2.2.2) (by rw [hf2.1 111 (by unfold SX S8 S7; omega)]; exact g7) (fun j => by rw [hf2.1 (120 + x) (by unfold SX S8 S7; omega)]; exact (zx x (Nat.le_refl _) hx).1 j) hq3 (by omega) hT2 (by simp only [List.length_append]; omega)) (fun u M3 h3 => ?_)
    obtain ⟨⟨q5, hq5, hq6⟩, hf3, t3, ht3, hA3, hT3⟩ := h3
    dsimp only at hq5 hf3 hA3 hT3
    rw [i1, nI_add]
    have hfA : frS (fun w => S8 w ∨ w = 111 ∨ SX x w ∨ w = 120 + x) M1 M3 := (hf2.wk (fun w h => .inr (.inr (.inl h)))).trans (hf3.wk (fun w h => by (try dsimp only at h); (try unfold S8 S7 at *); omega))
    have hfB : frS (fun w => S8 w ∨ w = 111 ∨ SX x w ∨ w = 120 + x) M M3 := (hf1.wk (fun w h => by (try dsimp only at h); (try unfold S8 S7 at *); omega)).trans hfA
    refine ih fu (x + 1) M3 _ (by omega) (by omega) ⟨⟨q5, hq5, by omega⟩, by omega, hf.trans (hfB.wk (fun w h => by (try dsimp only at h); (try unfold SI SX at *); (try unfold S8 S7 at *); omega)), fun y hy hy6 => ?_, t ++ (t2 ++ t3), by simp only [List.length_append]; omega, by simp only [← List.append_assoc] at hT3 ⊢; exact hT3, t, t2, t3, m, hA.fr (fun y hy => ?_), ⟨hm1, hm, ?_⟩, hA2.fr (fun b hb => ?_), hA3, rfl⟩
    · obtain ⟨z1, z2⟩ := zx y (by omega) hy6
      refine ⟨fun j => by rw [hfA.1 (120 + y) (by unfold SX S8 S7; omega)]; exact z1 j, fun b hb j => ?_⟩
      rw [hfA.1 (128 + 4 * y + b) (by unfold SX S8 S7; omega), hfA.1 (153 + 4 * y + b) (by unfold SX S8 S7; omega)]
      exact z2 b hb j
    · refine ⟨?_, hfB.1 _ (by unfold SX S8 S7; omega), hfB.1 _ (by unfold SX S8 S7; omega), hfB.1 _ (by unfold SX S8 S7; omega), fun b hb => ⟨hfB.1 _ (by unfold SX S8 S7; omega), hfB.1 _ (by unfold SX S8 S7; omega), hfB.1 _ (by unfold SX S8 S7; omega)⟩⟩
      rw [hf3.1 111 (by unfold S8 S7; omega), hf2.1 111 (by unfold SX S8 S7; omega)]
      exact g8 y hy
    · rw [hf3.1 111 (by unfold S8 S7; omega), hf2.1 111 (by unfold SX S8 S7; omega)]
      exact g7
    · exact ⟨congrFun (hf3.1 _ (by unfold S8 S7; omega)) _, congrFun (hf3.1 _ (by unfold S8 S7; omega)) _, hf3.1 _ (by unfold S8 S7; omega), hf3.1 _ (by unfold S8 S7; omega), hf3.1 _ (by unfold S8 S7; omega)⟩
