/-! the budgets -/
theorem dgs_l1 {v : Nat} (h : v < 10) : (dgs v).length = 1 := by
  unfold dgs
  rw [if_pos h]
  rfl
theorem dgs_l3 {v : Nat} (h : v < 1000) : (dgs v).length ≤ 3 := by
  unfold dgs
  by_cases c1 : v < 10
  · rw [if_pos c1]
    show 1 ≤ 3
    decide
  by_cases c2 : v < 100
  · rw [if_neg c1, if_pos c2]
    show 2 ≤ 3
    decide
  rw [if_neg c1, if_neg c2, if_pos h]
  exact Nat.le_refl 3
def BuT (M : Mem) : Nat → List Nat → Prop
  | 0, t => t = []
  | i + 1, t => ∃ t1 v, BuT M i t1 ∧ v ≤ 150 ∧ gI M 110 i = nI v ∧ t = t1 ++ (WL.getD 13 [] ++ dgs v)
theorem BuT.fr {M M' : Mem} : ∀ {i : Nat} {t : List Nat}, BuT M i t → (∀ j, j < i → gI M' 110 j = gI M 110 j) → BuT M' i t
  | 0, _, h, _ => h
  | i + 1, _, ⟨t1, v, h1, h2, h3, h4⟩, e => ⟨t1, v, h1.fr (fun j hj => e j (by omega)), h2, (e i (by omega)).trans h3, h4⟩
def SB0 (w : Nat) : Prop := S8 w ∨ w = 110
def J203 (M0 : Mem) (T0 : List Nat) (k0 c0 i : Nat) (M : Mem) (c : Nat) : Prop := (∃ k, gI M 108 1 = nI k ∧ k ≤ k0 + i) ∧ c ≤ c0 + 2 * i ∧ frS SB0 M0 M ∧ ∃ t, t.length ≤ 11 * i ∧ TB M (T0 ++ t) ∧ BuT M i t
theorem L203_ok {R : Option (Unit × Mem) → Prop} {Z LX : Nat} {xs : Nat → Int32} (hL : LX < 2147483647) {nb k0 c0 : Nat} (hnb : nb ≤ 3) {M0 : Mem} {T0 : List Nat} (h2 : gI M0 109 2 = nI nb) (hk0 : k0 < 600000) (hc0 : c0 ≤ 180) (hT0 : T0.length ≤ 60) {k : Mem → Nat → Option (Unit × Mem)} (hK : ∀ M c, J203 M0 T0 k0 c0 nb M c → R (k M c)) : ∀ d fu i M c, i + d = nb → d < fu → J203 M0 T0 k0 c0 i M c → R (f_X12_init_L203 shL Z LX xs k fu (nI i) M c) := by
  intro d
  induction d with
  | zero =>
    intro fu i M c hb hd hJ
    obtain ⟨fu, rfl⟩ := Nat.exists_eq_succ_of_ne_zero (Nat.ne_of_gt hd)
    obtain rfl : i = nb := hb
    have e2 : gI M 109 2 = nI i := by rw [hJ.2.2.1.1 109 (by unfold SB0 S8 S7; omega)]; exact h2
    rw [f_X12_init_L203]
    refine bd_R ?_
    rw [e2]
    exact ifp_R (Int32.le_refl _) (hK M c hJ)
  | succ d ih =>
    intro fu i M c hb hd hJ
    obtain ⟨fu, rfl⟩ := Nat.exists_eq_succ_of_ne_zero (show fu ≠ 0 by omega)
    obtain ⟨⟨q, hq, hq2⟩, hc, hf, t, htl, hT, hA⟩ := hJ
    have hi : i < 3 := by omega
    have e2 : gI M 109 2 = nI nb := by rw [hf.1 109 (by unfold SB0 S8 S7; omega)]; exact h2
    rw [f_X12_init_L203]
    refine bd_R ?_
    rw [e2]
    refine ifn_R (by rw [nI_ile (by omega) (by omega)]; omega) (ifp_R (by omega) ?_)
    refine next_R hq (by omega) rfl rfl (a := 0) (b := 150) (by decide) (by decide) hL (fun v _ hv => ?_)
    refine wrI_R rfl hi (by decide) ?_
    have hf1 : frS (fun w => w = 108 ∨ w = 110) M (sI (sI M 108 1 (nI (q + 1))) 110 i (nI v)) := (frS_sI (.inl rfl)).trans (frS_sI (.inr rfl))
    have hT1 := (hT.wr (o := 108) (k := 1) (v := nI (q + 1)) (by decide) (by decide) (by decide)).wr (o := 110) (k := i) (v := nI v) (by decide) (by decide) (by decide)
    have gq : gI (sI (sI M 108 1 (nI (q + 1))) 110 i (nI v)) 108 1 = nI (q + 1) := by rw [gI_sI, if_neg (show ¬ (108 = 110 ∧ 1 = i) by omega)]; exact gI_same
    have g7 : gI (sI (sI M 108 1 (nI (q + 1))) 110 i (nI v)) 110 i = nI v := gI_same
    have g8 : ∀ y, y < i → gI (sI (sI M 108 1 (nI (q + 1))) 110 i (nI v)) 110 y = gI M 110 y := fun y hy => by rw [gI_sI, if_neg (show ¬ (110 = 110 ∧ y = i) by omega), gI_sI, if_neg (show ¬ (110 = 108 ∧ y = 1) by omega)]
    generalize sI (sI M 108 1 (nI (q + 1))) 110 i (nI v) = M1 at hf1 hT1 gq g7 g8 ⊢
    have w13 : (WL.getD 13 []).length = 8 := rfl
    have dl := dgs_l3 (v := v) (by omega)
    refine ifp_R (by omega) ?_
    refine apW_R hT1 (by decide) (by simp only [List.length_append]; omega) (fun M2 hT2 hf2 => ?_)
    refine rdI_R rfl hi (by decide) ?_
    rw [show gI M2 110 i = nI v by rw [hf2.1 110 (by unfold S7; omega)]; exact g7]
    refine ifp_R (by omega) ?_
    refine apI_R hT2 (by omega) (by simp only [List.length_append]; omega) (fun M3 hT3 hf3 => ?_)
    have hf23 := hf2.trans hf3
    rw [i1, nI_add]
    refine ih fu (i + 1) M3 _ (by omega) (by omega) ⟨⟨q + 1, by rw [hf23.1 108 (by unfold S7; omega)]; exact gq, by omega⟩, by omega, hf.trans ((hf1.wk (fun w h => by (try dsimp only at h); (try unfold SB0 at *); (try unfold S8 S7 at *); omega)).trans (hf23.wk (fun w h => .inl (.inr h)))), t ++ (WL.getD 13 [] ++ dgs v), by simp only [List.length_append]; omega, by simp only [← List.append_assoc] at hT3 ⊢; exact hT3, t, v, hA.fr (fun j hj => ?_), hv, ?_, rfl⟩
    · rw [hf23.1 110 (by unfold S7; omega)]
      exact g8 j hj
    · rw [hf23.1 110 (by unfold S7; omega)]
      exact g7
/-! the whole chain, as it is drawn -/
def STX (M : Mem) (n st : Nat) (t : List Nat) : Prop := st < n ∧ gI M 109 5 = nI st ∧ (t = [] ∧ st = 0 ∨ t = WL.getD 20 [] ++ dgs st)
def Ini (M : Mem) (n nb h s st : Nat) (t1 t2 t3 : List Nat) : Prop := ((1 ≤ n ∧ n ≤ 4) ∧ nb ≤ 3 ∧ (1 ≤ h ∧ h ≤ 4) ∧ s ≤ 30010) ∧ (gI M 109 1 = nI n ∧ gI M 109 2 = nI nb ∧ gI M 109 3 = nI h ∧ gI M 109 4 = nI s) ∧ (t1.length ≤ 33 ∧ t2.length ≤ 976 ∧ t3.length ≤ 8) ∧ BuT M nb t1 ∧ StT M n nb n t2 ∧ STX M n st t3 ∧ TB M (WL.getD 10 [] ++ dgs n ++ WL.getD 11 [] ++ dgs h ++ WL.getD 12 [] ++ dgs s ++ t1 ++ t2 ++ t3)
def SIN (w : Nat) : Prop := S8 w ∨ (110 ≤ w ∧ w < 208)
theorem init_ok {Z LX : Nat} {xs : Nat → Int32} (hL : LX < 2147483647) (hZ : 10 ≤ Z) {M : Mem} (hR : RW M) (hRw : RWw M (fun x => 120 + x)) (hz : ∀ o, 109 < o → o < 208 → ∀ j, gI M o j = nI 0) (h5 : gI M 109 5 = nI 0) (hk : gI M 108 1 = nI 0) (hT : TB M (WL.getD 10 [])) : Ok (fun r : Unit × Mem => (∃ k, gI r.2 108 1 = nI k ∧ k ≤ 300) ∧ frS (fun w => SIN w ∨ w = 109) M r.2 ∧ (∀ j, 5 < j → gI r.2 109 j = gI M 109 j) ∧ ∃ n nb h s st t1 t2 t3, Ini r.2 n nb h s st t1 t2 t3) (f_X12_init_t shL Z LX xs M) := by
  unfold f_X12_init_t
  refine ifp_R (by decide) ?_
  refine next_R hk (by decide) rfl rfl (a := 1) (b := 4) (by decide) (by decide) hL (fun n hn1 hn => bd_R ?_)
  refine ifp_R (by decide) ?_
  refine next_R (k := 1) (by rw [gI_sI, if_neg (by decide)]; exact gI_same) (by decide) rfl rfl (a := 1) (b := 4) (by decide) (by decide) hL (fun h hh1 hh => bd_R ?_)
  refine ifp_R (by decide) ?_
  refine next_R (k := 2) (by rw [gI_sI, if_neg (by decide)]; exact gI_same) (by decide) rfl rfl (a := 0) (b := 30010) (by decide) (by decide) hL (fun s _ hs => bd_R (bd_R ?_))
  have w10 : (WL.getD 10 []).length = 13 := rfl
  have w11 : (WL.getD 11 []).length = 9 := rfl
  have w12 : (WL.getD 12 []).length = 6 := rfl
  have w20 : (WL.getD 20 []).length = 7 := rfl
  have ln := dgs_l1 (v := n) (by omega)
  have lh := dgs_l1 (v := h) (by omega)
  have ls := (dgs_len (v := s)).1
  have hf1 : frS (fun w => w = 108 ∨ w = 109) M (sI (sI (sI (sI (sI (sI M 108 1 (nI (0 + 1))) 109 1 (nI n)) 108 1 (nI (1 + 1))) 109 3 (nI h)) 108 1 (nI (2 + 1))) 109 4 (nI s)) := ((frS_sI (.inl rfl)).trans (frS_sI (.inr rfl))).trans (((frS_sI (.inl rfl)).trans (frS_sI (.inr rfl))).trans ((frS_sI (.inl rfl)).trans (frS_sI (.inr rfl))))
  have hT1 : TB (sI (sI (sI (sI (sI (sI M 108 1 (nI (0 + 1))) 109 1 (nI n)) 108 1 (nI (1 + 1))) 109 3 (nI h)) 108 1 (nI (2 + 1))) 109 4 (nI s)) (WL.getD 10 []) := (((((hT.wr (by decide) (by decide) (by decide)).wr (by decide) (by decide) (by decide)).wr (by decide) (by decide) (by decide)).wr (by decide) (by decide) (by decide)).wr (by decide) (by decide) (by decide)).wr (by decide) (by decide) (by decide)
  have g0 : ∀ j, gI (sI (sI (sI (sI (sI (sI M 108 1 (nI (0 + 1))) 109 1 (nI n)) 108 1 (nI (1 + 1))) 109 3 (nI h)) 108 1 (nI (2 + 1))) 109 4 (nI s)) 109 j = if j = 4 then nI s else if j = 3 then nI h else if j = 1 then nI n else gI M 109 j := fun j => by
    by_cases h4 : j = 4
    · rw [gI_sI, if_pos ⟨rfl, h4⟩, if_pos h4]
    rw [gI_sI, if_neg (show ¬ (109 = 109 ∧ j = 4) by omega), if_neg h4, gI_sI, if_neg (show ¬ (109 = 108 ∧ j = 1) by omega)]
    by_cases h3 : j = 3
    · rw [gI_sI, if_pos ⟨rfl, h3⟩, if_pos h3]
    rw [gI_sI, if_neg (show ¬ (109 = 109 ∧ j = 3) by omega), if_neg h3, gI_sI, if_neg (show ¬ (109 = 108 ∧ j = 1) by omega)]
    by_cases h1 : j = 1
    · rw [gI_sI, if_pos ⟨rfl, h1⟩, if_pos h1]
    rw [gI_sI, if_neg (show ¬ (109 = 109 ∧ j = 1) by omega), if_neg h1, gI_sI, if_neg (show ¬ (109 = 108 ∧ j = 1) by omega)]
  have gq : gI (sI (sI (sI (sI (sI (sI M 108 1 (nI (0 + 1))) 109 1 (nI n)) 108 1 (nI (1 + 1))) 109 3 (nI h)) 108 1 (nI (2 + 1))) 109 4 (nI s)) 108 1 = nI 3 := by rw [gI_sI, if_neg (by decide)]; exact gI_same
  generalize sI (sI (sI (sI (sI (sI M 108 1 (nI (0 + 1))) 109 1 (nI n)) 108 1 (nI (1 + 1))) 109 3 (nI h)) 108 1 (nI (2 + 1))) 109 4 (nI s) = M1 at hf1 hT1 g0 gq ⊢
  have g01 : gI M1 109 1 = nI n := by rw [g0]; rfl
  have g03 : gI M1 109 3 = nI h := by rw [g0]; rfl
  have g04 : gI M1 109 4 = nI s := by rw [g0]; rfl
  rw [g01]
  refine ifp_R (by decide) (apI_R hT1 (by omega) (by omega) (fun M2 hT2 hf2 => ?_))
  refine ifp_R (by decide) (apW_R hT2 (by decide) (by simp only [List.length_append]; omega) (fun M3 hT3 hf3 => ?_))
  have hf13 := hf2.trans hf3
  refine bd_R ?_
  rw [hf13.1 109 (by unfold S7; omega), g03]
  refine ifp_R (by decide) (apI_R hT3 (by omega) (by simp only [List.length_append]; omega) (fun M4 hT4 hf4 => ?_))
  refine ifp_R (by decide) (apW_R hT4 (by decide) (by simp only [List.length_append]; omega) (fun M5 hT5 hf5 => ?_))
  have hf15 := hf13.trans (hf4.trans hf5)
  refine bd_R ?_
  rw [hf15.1 109 (by unfold S7; omega), g04]
  refine ifp_R (by decide) (apI_R hT5 (by omega) (by simp only [List.length_append]; omega) (fun M6 hT6 hf6 => ?_))
  have hf16 := hf15.trans hf6
  have gq6 : gI M6 108 1 = nI 3 := by rw [hf16.1 108 (by unfold S7; omega)]; exact gq
  refine ifp_R (by decide) ?_
  refine next_R gq6 (by decide) rfl rfl (a := 0) (b := 3) (by decide) (by decide) hL (fun nb _ hnb => bd_R ?_)
  have hf7 : frS (fun w => w = 108 ∨ w = 109) M6 (sI (sI M6 108 1 (nI (3 + 1))) 109 2 (nI nb)) := (frS_sI (.inl rfl)).trans (frS_sI (.inr rfl))
  have hT7 := (hT6.wr (o := 108) (k := 1) (v := nI (3 + 1)) (by decide) (by decide) (by decide)).wr (o := 109) (k := 2) (v := nI nb) (by decide) (by decide) (by decide)
  have g7 : ∀ j, gI (sI (sI M6 108 1 (nI (3 + 1))) 109 2 (nI nb)) 109 j = if j = 2 then nI nb else if j = 4 then nI s else if j = 3 then nI h else if j = 1 then nI n else gI M 109 j := fun j => by
    by_cases h2 : j = 2
    · rw [gI_sI, if_pos ⟨rfl, h2⟩, if_pos h2]
    rw [gI_sI, if_neg (show ¬ (109 = 109 ∧ j = 2) by omega), if_neg h2, gI_sI, if_neg (show ¬ (109 = 108 ∧ j = 1) by omega), hf16.1 109 (by unfold S7; omega)]
    exact g0 j
  have gq7 : gI (sI (sI M6 108 1 (nI (3 + 1))) 109 2 (nI nb)) 108 1 = nI 4 := by rw [gI_sI, if_neg (by decide)]; exact gI_same
  generalize sI (sI M6 108 1 (nI (3 + 1))) 109 2 (nI nb) = M7 at hf7 hT7 g7 gq7 ⊢
  have hf17 : frS (fun w => S8 w ∨ w = 109) M M7 := (hf1.wk (fun w h => by (try dsimp only at h); (try unfold S8 S7 at *); omega)).trans ((hf16.wk (fun w h => .inl (.inr h))).trans (hf7.wk (fun w h => by (try dsimp only at h); (try unfold S8 S7 at *); omega)))
  have hz7 : ∀ o, 109 < o → o < 208 → ∀ j, gI M7 o j = nI 0 := fun o h1 h2 j => by rw [hf17.1 o (by unfold S8 S7; omega)]; exact hz o h1 h2 j
  have hl7 : (WL.getD 10 [] ++ dgs n ++ WL.getD 11 [] ++ dgs h ++ WL.getD 12 [] ++ dgs s).length ≤ 35 := by simp only [List.length_append]; omega
  refine L203_ok hL hnb (k0 := 4) (c0 := 115) (M0 := M7) (T0 := WL.getD 10 [] ++ dgs n ++ WL.getD 11 [] ++ dgs h ++ WL.getD 12 [] ++ dgs s) (by rw [g7, if_pos rfl]) (by decide) (by decide) (by omega) (fun M8 c8 hJ8 => ?_) nb Z 0 M7 _ (by omega) (by omega) ⟨⟨4, gq7, by omega⟩, by decide, frS.rfl, [], by decide, by rw [List.append_nil]; exact hT7, rfl⟩
  obtain ⟨⟨q8, hq8, hq8b⟩, hc8, hf8, t1, ht1, hT8, hB8⟩ := hJ8
  have g8 : gI M8 109 = gI M7 109 := hf8.1 109 (by unfold SB0 S8 S7; omega)
  refine L252_ok hL hZ hn hn1 hnb (k0 := q8) (c0 := c8) (M0 := M8) (T0 := WL.getD 10 [] ++ dgs n ++ WL.getD 11 [] ++ dgs h ++ WL.getD 12 [] ++ dgs s ++ t1) (hR.R (hf8.2.2.trans hf17.2.2)) (hRw.R (hf8.2.2.trans hf17.2.2)) (by rw [g8, g7]; rfl) (by rw [g8, g7]; rfl) (by omega) (by omega) (by rw [List.length_append]; omega) (fun M9 c9 hJ9 => ?_) n Z 0 M8 c8 (by omega) (by omega) ⟨⟨q8, hq8, by omega⟩, by omega, frS.rfl, fun y _ hy => ⟨fun j => ?_, fun b hb j => ⟨?_, ?_⟩⟩, [], by decide, by rw [List.append_nil]; exact hT8, rfl⟩
  rotate_left
  · rw [hf8.1 (120 + y) (by unfold SB0 S8 S7; omega)]; exact hz7 _ (by omega) (by omega) j
  · rw [hf8.1 (128 + 4 * y + b) (by unfold SB0 S8 S7; omega)]; exact hz7 _ (by omega) (by omega) j
  · rw [hf8.1 (153 + 4 * y + b) (by unfold SB0 S8 S7; omega)]; exact hz7 _ (by omega) (by omega) j
  obtain ⟨⟨q9, hq9, hq9b⟩, hc9, hf9, -, t2, ht2, hT9, hS9⟩ := hJ9
  have g9 : gI M9 109 = gI M7 109 := (hf9.1 109 (by unfold SI S8 S7; omega)).trans g8
  have e9 : gI M9 110 = gI M8 110 := hf9.1 110 (by unfold SI S8 S7; omega)
  have hfa : frS (fun w => SIN w ∨ w = 109) M M9 := (hf17.wk (fun w h => by (try dsimp only at h); (try unfold SIN at *); (try unfold S8 S7 at *); omega)).trans ((hf8.wk (fun w h => by (try dsimp only at h); (try unfold SIN SB0 at *); (try unfold S8 S7 at *); omega)).trans (hf9.wk (fun w h => by (try dsimp only at h); (try unfold SIN SI at *); (try unfold S8 S7 at *); omega)))
  refine ifp_R (by omega) ?_
  refine next_R hq9 (by omega) rfl rfl (a := 0) (b := 1) (by decide) (by decide) hL (fun v _ hv => ?_)
  have hfb : frS (fun w => w = 108) M9 (sI M9 108 1 (nI (q9 + 1))) := frS_sI rfl
  have hTb := hT9.wr (o := 108) (k := 1) (v := nI (q9 + 1)) (by decide) (by decide) (by decide)
  have gqb : gI (sI M9 108 1 (nI (q9 + 1))) 108 1 = nI (q9 + 1) := gI_same
  generalize sI M9 108 1 (nI (q9 + 1)) = M10 at hfb hTb gqb ⊢
  have g10 : gI M10 109 = gI M7 109 := (hfb.1 109 (by omega)).trans g9
  have hfc : frS (fun w => SIN w ∨ w = 109) M M10 := hfa.trans (hfb.wk (fun w h => by (try dsimp only at h); (try unfold SIN at *); (try unfold S8 S7 at *); omega))
  have hBb : BuT M10 nb t1 := hB8.fr (fun j _ => by rw [hfb.1 110 (by omega), e9])
  have hSb : StT M10 n nb n t2 := hS9.fr (fun y hy => ⟨by rw [hfb.1 _ (by omega)], hfb.1 _ (by omega), hfb.1 _ (by omega), hfb.1 _ (by omega), fun b hb => ⟨hfb.1 _ (by omega), hfb.1 _ (by omega), hfb.1 _ (by omega)⟩⟩)
  have hT0 : ∀ j, 5 < j → gI M10 109 j = gI M 109 j := fun j hj => by rw [g10, g7, if_neg (by omega), if_neg (by omega), if_neg (by omega), if_neg (by omega)]
  by_cases hv0 : v = 0
  · subst hv0
    refine ifp_R rfl (ifp_R (by omega) (Ok.some ⟨⟨_, gqb, by omega⟩, hfc, hT0, n, nb, h, s, 0, t1, t2, [], ⟨⟨hn1, hn⟩, hnb, ⟨hh1, hh⟩, hs⟩, ⟨by rw [g10, g7]; rfl, by rw [g10, g7]; rfl, by rw [g10, g7]; rfl, by rw [g10, g7]; rfl⟩, ⟨by omega, by omega, by decide⟩, hBb, hSb, ⟨by omega, by rw [g10, g7]; exact h5, .inl ⟨rfl, rfl⟩⟩, ?_⟩))
    rw [List.append_nil]
    exact hTb
  · refine ifn_R (nI_ne0 (by omega) (by omega)) (bd_R ?_)
    rw [g10, show gI M7 109 1 = nI n by rw [g7]; rfl]
    refine ifp_R (by omega) ?_
    refine next_R gqb (by omega) rfl (by rw [i1, nI_sub hn1]) (a := 0) (b := n - 1) (by omega) (by omega) hL (fun st _ hst => bd_R ?_)
    have hfd : frS (fun w => w = 108 ∨ w = 109) M10 (sI (sI M10 108 1 (nI (q9 + 1 + 1))) 109 5 (nI st)) := (frS_sI (.inl rfl)).trans (frS_sI (.inr rfl))
    have hTd := (hTb.wr (o := 108) (k := 1) (v := nI (q9 + 1 + 1)) (by decide) (by decide) (by decide)).wr (o := 109) (k := 5) (v := nI st) (by decide) (by decide) (by decide)
    have gd : ∀ j, gI (sI (sI M10 108 1 (nI (q9 + 1 + 1))) 109 5 (nI st)) 109 j = if j = 5 then nI st else gI M10 109 j := fun j => by
      by_cases h2 : j = 5
      · rw [gI_sI, if_pos ⟨rfl, h2⟩, if_pos h2]
      rw [gI_sI, if_neg (show ¬ (109 = 109 ∧ j = 5) by omega), if_neg h2, gI_sI, if_neg (show ¬ (109 = 108 ∧ j = 1) by omega)]
    have gqd : gI (sI (sI M10 108 1 (nI (q9 + 1 + 1))) 109 5 (nI st)) 108 1 = nI (q9 + 1 + 1) := by rw [gI_sI, if_neg (by decide)]; exact gI_same
    generalize sI (sI M10 108 1 (nI (q9 + 1 + 1))) 109 5 (nI st) = M11 at hfd hTd gd gqd ⊢
    have lst := dgs_l1 (v := st) (by omega)
    refine ifp_R (by omega) (apW_R hTd (by decide) (by simp only [List.length_append] at hl7 ⊢; omega) (fun M12 hT12 hf12 => bd_R ?_))
    rw [show gI M12 109 5 = nI st by rw [hf12.1 109 (by unfold S7; omega), gd, if_pos rfl]]
    refine ifp_R (by omega) (apI_R hT12 (by omega) (by simp only [List.length_append] at hl7 ⊢; omega) (fun M13 hT13 hf13b => ?_))
    have hfe : frS (fun w => S8 w ∨ w = 109) M10 M13 := (hfd.wk (fun w h => by (try dsimp only at h); (try unfold S8 S7 at *); omega)).trans ((hf12.trans hf13b).wk (fun w h => .inl (.inr h)))
    have hfs := hf12.trans hf13b
    have g13 : ∀ j, gI M13 109 j = if j = 5 then nI st else gI M10 109 j := fun j => by rw [hfs.1 109 (by unfold S7; omega)]; exact gd j
    refine ifp_R (by omega) (Ok.some ⟨⟨q9 + 1 + 1, by show gI M13 108 1 = _; rw [hfs.1 108 (by unfold S7; omega)]; exact gqd, by omega⟩, hfc.trans (hfe.wk (fun w h => by (try dsimp only at h); (try unfold SIN at *); (try unfold S8 S7 at *); omega)), fun j hj => by show gI M13 109 j = _; rw [g13, if_neg (by omega)]; exact hT0 j hj, n, nb, h, s, st, t1, t2, WL.getD 20 [] ++ dgs st, ⟨⟨hn1, hn⟩, hnb, ⟨hh1, hh⟩, hs⟩, ⟨by show gI M13 109 1 = _; rw [g13, if_neg (by decide), g10, g7]; rfl, by show gI M13 109 2 = _; rw [g13, if_neg (by decide), g10, g7]; rfl, by show gI M13 109 3 = _; rw [g13, if_neg (by decide), g10, g7]; rfl, by show gI M13 109 4 = _; rw [g13, if_neg (by decide), g10, g7]; rfl⟩, ⟨by omega, by omega, by rw [List.length_append]; omega⟩, hBb.fr (fun j _ => by show gI M13 110 j = _; rw [hfe.1 110 (by unfold S8 S7; omega)]), hSb.fr (fun y hy => ⟨by show gI M13 _ _ = _; rw [hfe.1 _ (by unfold S8 S7; omega)], hfe.1 _ (by unfold S8 S7; omega), hfe.1 _ (by unfold S8 S7; omega), hfe.1 _ (by unfold S8 S7; omega), fun b hb => ⟨hfe.1 _ (by unfold S8 S7; omega), hfe.1 _ (by unfold S8 S7; omega), hfe.1 _ (by unfold S8 S7; omega)⟩⟩), ⟨by omega, by show gI M13 109 5 = _; rw [g13, if_pos rfl], .inr rfl⟩, ?_⟩)
    simp only [← List.append_assoc] at hT13 ⊢
    exact hT13
