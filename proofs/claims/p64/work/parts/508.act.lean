theorem gaT_len {g : Nat} (h : g ≤ 60) : (gaT g).length ≤ 4 := by
  have : ∀ g, g < 61 → (gaT g).length ≤ 4 := by decide +kernel
  exact this g (by omega)
theorem act_ok {Z LX : Nat} {xs : Nat → Int32} (hL : LX < 2147483647) (hZ : 10 ≤ Z) {x a n nb k0 : Nat} (hx : x < 6) (ha : a < 3) (hn : n ≤ 4) (hn1 : 1 ≤ n) (hnb : nb ≤ 3) {M : Mem} {T : List Nat} (hR : RW M) (h1 : gI M 109 1 = nI n) (h2 : gI M 109 2 = nI nb) (hz : ∀ j, gI M (128 + 4 * x + a) j = nI 0 ∧ gI M (153 + 4 * x + a) j = nI 0) (hk : gI M 108 1 = nI k0) (hk0 : k0 < 800000) (hT : TB M T) (hT0 : T.length + 76 ≤ 1100) : Ok (fun r : Unit × Mem => (∃ k, gI r.2 108 1 = nI k ∧ k ≤ k0 + 20) ∧ frA x a M r.2 ∧ ∃ seg, seg.length ≤ 76 ∧ AS r.2 n nb x a seg ∧ TB r.2 (T ++ seg)) (f_X12_act shL Z LX xs M (nI x) (nI a)) := by
  have sh1 := (shL_rows x hx).1
  have sh2 := (shL_rows x hx).2.2.2.2.2
  unfold f_X12_act
  refine rdQ_R rfl hx (by decide) (hR.1 x hx).1 sh1 ?_
  refine ifp_R (by decide) ?_
  refine next_R hk (by omega) rfl rfl (a := 0) (b := 60) (by decide) (by decide) hL (fun g hg0 hg => ?_)
  refine wrI_R rfl ha (by decide) ?_
  refine rdQ_R rfl hx (by decide) (hR.1 x hx).2.2.2.2 sh2 ?_
  refine wrZ_R rfl ha (by decide) ?_
  have hf0 : frA x a M (sI (sI (sI M 108 1 (nI (k0 + 1))) (113 + x) a (nI g - (20 : Int32))) (202 + x) a (nI 1)) := ⟨((frS_sI (.inl (.inl rfl))).trans (frS_sI (.inr (.inl rfl)))).trans (frS_sI (.inr (.inr (.inl rfl)))), fun j hj => ⟨by
    rw [gI_sI, if_neg (fun z => hj z.2), gI_sI, if_neg (fun z => hj z.2), gI_sI, if_neg (fun z => by omega)], by
    rw [gI_sI, if_neg (fun z => hj z.2), gI_sI, if_neg (fun z => hj z.2), gI_sI, if_neg (fun z => by omega)]⟩⟩
  have q0 : gI (sI (sI (sI M 108 1 (nI (k0 + 1))) (113 + x) a (nI g - (20 : Int32))) (202 + x) a (nI 1)) 108 1 = nI (k0 + 1) := by
    rw [gI_sI, if_neg (fun z => by omega), gI_sI, if_neg (fun z => by omega), gI_same]
  have g0 : gI (sI (sI (sI M 108 1 (nI (k0 + 1))) (113 + x) a (nI g - (20 : Int32))) (202 + x) a (nI 1)) (113 + x) a = nI g - (20 : Int32) := by
    rw [gI_sI, if_neg (fun z => by omega), gI_same]
  have p0 : gI (sI (sI (sI M 108 1 (nI (k0 + 1))) (113 + x) a (nI g - (20 : Int32))) (202 + x) a (nI 1)) (202 + x) a = nI 1 := gI_same
  have hT1 := ((hT.wr (o := 108) (k := 1) (v := nI (k0 + 1)) (by decide) (by decide) (by decide)).wr (o := 113 + x) (k := a) (v := nI g - (20 : Int32)) (by omega) (by omega) (by omega)).wr (o := 202 + x) (k := a) (v := nI 1) (by omega) (by omega) (by omega)
  have hz1 : ∀ j, gI (sI (sI (sI M 108 1 (nI (k0 + 1))) (113 + x) a (nI g - (20 : Int32))) (202 + x) a (nI 1)) (128 + 4 * x + a) j = nI 0 ∧ gI (sI (sI (sI M 108 1 (nI (k0 + 1))) (113 + x) a (nI g - (20 : Int32))) (202 + x) a (nI 1)) (153 + 4 * x + a) j = nI 0 := fun j => ⟨by
    rw [gI_sI, if_neg (fun z => by omega), gI_sI, if_neg (fun z => by omega), gI_sI, if_neg (fun z => by omega)]; exact (hz j).1, by
    rw [gI_sI, if_neg (fun z => by omega), gI_sI, if_neg (fun z => by omega), gI_sI, if_neg (fun z => by omega)]; exact (hz j).2⟩
  generalize sI (sI (sI M 108 1 (nI (k0 + 1))) (113 + x) a (nI g - (20 : Int32))) (202 + x) a (nI 1) = M1 at hf0 q0 g0 p0 hT1 hz1 ⊢
  have hR1 : RW M1 := hR.R hf0.1.2.2
  have w14 : (WL.getD 14 []).length = 5 := rfl
  have w15 : (WL.getD 15 []).length = 2 := rfl
  have w16 : (WL.getD 16 []).length = 1 := rfl
  have d1 : (dgs x).length = 1 := by
    unfold dgs
    rw [if_pos (by omega)]
    rfl
  have hga := gaT_len hg
  refine ifp_R (by decide) ?_
  refine apW_R hT1 (by decide) (by omega) (fun M2 hT2 hf2 => ?_)
  refine ifp_R (by decide) ?_
  refine apI_R hT2 (by omega) (by simp only [List.length_append]; omega) (fun M3 hT3 hf3 => ?_)
  have hf13 := hf2.trans hf3
  have hR3 : RW M3 := hR1.R hf13.2.2
  have hS1 : ¬ S7 (113 + x) := by unfold S7; omega
  have hS2 : ¬ S7 (202 + x) := by unfold S7; omega
  have g3 : gI M3 (113 + x) a = nI g - (20 : Int32) := by rw [hf13.1 _ hS1]; exact g0
  refine rdQ_R rfl hx (by decide) (hR3.1 x hx).1 sh1 ?_
  refine rdI_R rfl ha (by decide) ?_
  obtain ⟨ge, ga⟩ := gain_at g hg
  rw [g3]
  refine jn_R (fun t : Mem × Nat => frS S7 M3 t.1 ∧ t.2 = 3 ∧ TB t.1 (T ++ WL.getD 14 [] ++ dgs x ++ (if g < 20 then WL.getD 15 [] else WL.getD 16 []))) ?_ ?_
  · rintro ⟨M4, c4⟩ ⟨hf4, hc4, hT4⟩
    dsimp only at hf4 hc4 hT4 ⊢
    subst hc4
    have hf14 := hf13.trans hf4
    have hR4 : RW M4 := hR1.R hf14.2.2
    have g4 : gI M4 (113 + x) a = nI g - (20 : Int32) := by rw [hf14.1 _ hS1]; exact g0
    refine rdQ_R rfl hx (by decide) (hR4.1 x hx).1 sh1 ?_
    refine rdI_R rfl ha (by decide) ?_
    rw [g4, ga]
    refine ifp_R (by decide) (ifp_R (by decide) ?_)
    have e5 : T ++ WL.getD 14 [] ++ dgs x ++ (if g < 20 then WL.getD 15 [] else WL.getD 16 []) ++ dgs (if g < 20 then 20 - g else g - 20) = T ++ WL.getD 14 [] ++ dgs x ++ gaT g := by
      unfold gaT
      split <;> rw [List.append_assoc]
    have l5 := congrArg List.length e5
    simp only [List.length_append] at l5
    refine apI_R hT4 (by split <;> omega) (by simp only [List.length_append]; omega) (fun M5 hT5 hf5 => ?_)
    rw [e5] at hT5
    have hf15 := hf14.trans hf5
    have a5 : frA x a M M5 := ⟨hf0.1.trans (hf15.wk (fun _ h => .inl (.inr h))), fun j hj => by rw [hf15.1 _ hS1, hf15.1 _ hS2]; exact hf0.2 j hj⟩
    have q5 : gI M5 108 1 = nI (k0 + 1) := by rw [hf15.1 108 (by unfold S7; omega)]; exact q0
    have z5 : ∀ j, gI M5 (128 + 4 * x + a) j = nI 0 ∧ gI M5 (153 + 4 * x + a) j = nI 0 := fun j => by
      rw [hf15.1 (128 + 4 * x + a) (by unfold S7; omega), hf15.1 (153 + 4 * x + a) (by unfold S7; omega)]
      exact hz1 j
    have hR5 : RW M5 := hR.R a5.1.2.2
    have n5 : gI M5 109 1 = nI n := by rw [a5.1.1 109 (by unfold S8 S7; omega)]; exact h1
    have b5 : gI M5 109 2 = nI nb := by rw [a5.1.1 109 (by unfold S8 S7; omega)]; exact h2
    have gg5 : gI M5 (113 + x) a = nI g - (20 : Int32) := by rw [hf15.1 _ hS1]; exact g0
    have pp5 : gI M5 (202 + x) a = nI 1 := by rw [hf15.1 _ hS2]; exact p0
    refine L79_ok hL hx ha hnb (c0 := 4) (k0 := k0 + 1) (T0 := T ++ WL.getD 14 [] ++ dgs x ++ gaT g) hR5 b5 (by omega) (by decide) (by simp only [List.length_append]; omega) (fun M6 c6 hJ => ?_) nb Z 0 M5 4 (by omega) (by omega) ⟨⟨_, q5, by omega⟩, by omega, by rw [usT, List.append_nil]; exact hT5, frS.rfl, fun j hj => absurd hj (by omega), fun _ _ => rfl⟩
    obtain ⟨⟨q6, hq6, hk6⟩, hc6, hT6, hf6, hu6, hr6⟩ := hJ
    have n6 : gI M6 109 1 = nI n := by rw [hf6.1 109 (by unfold S8 S7; omega)]; exact n5
    have ul := usT_len nb hnb (u := pn (gI M6 (128 + 4 * x + a))) (fun j hj => by
      obtain ⟨u, e1, e2⟩ := hu6 j hj
      unfold pn
      rw [e2, nI_clamp (by omega)]
      exact e1)
    refine bd_R ?_
    refine ifp_R (by omega) ?_
    rw [n6]
    refine next_R hq6 (by omega) rfl (by rw [i1, nI_sub hn1]) (a := 0) (b := n - 1) (by omega) (by omega) hL (fun f hf0' hff => ?_)
    have hf7 : frS S8 M6 (sI M6 108 1 (nI (q6 + 1))) := frS_sI (.inl rfl)
    have hT7 := hT6.wr (o := 108) (k := 1) (v := nI (q6 + 1)) (by decide) (by decide) (by decide)
    have q7 : gI (sI M6 108 1 (nI (q6 + 1))) 108 1 = nI (q6 + 1) := gI_same
    have n7 : gI (sI M6 108 1 (nI (q6 + 1))) 109 1 = nI n := by rw [hf7.1 109 (by unfold S8 S7; omega)]; exact n6
    generalize sI M6 108 1 (nI (q6 + 1)) = M7 at hf7 hT7 q7 n7 ⊢
    have z7 : ∀ j, gI M7 (153 + 4 * x + a) j = nI 0 := fun j => by
      rw [hf7.1 _ (by unfold S8 S7; omega), hf6.1 _ (by unfold S8 S7; omega)]
      exact (z5 j).2
    refine L196_ok hL hx ha hn hn1 (f := f) (c0 := 16) (k0 := q6 + 1) (M0 := M7) (T0 := T ++ WL.getD 14 [] ++ dgs x ++ gaT g ++ usT (pn (gI M6 (128 + 4 * x + a))) nb) (by omega) (hR5.R (hf7.2.2.trans hf6.2.2)) n7 (by omega) (by decide) (by simp only [List.length_append]; omega) (fun m M8 c8 hJ8 => ?_) n Z 0 100 M7 c6 (by omega) (by omega) ⟨⟨⟨_, q7, by omega⟩, by omega, by omega, frS.rfl⟩, by rw [toT, List.append_nil]; exact hT7, ⟨fun j hj => absurd hj (by omega), fun j hj => absurd hj (by omega), fun y _ _ => z7 y⟩, rfl, fun z => by omega⟩
    obtain ⟨⟨⟨q8, hq8, hk8⟩, -, hm8, hf8⟩, hT8, ⟨ho8, hp8, hz8⟩, hs8, -⟩ := hJ8
    have u68 : gI M8 (128 + 4 * x + a) = gI M6 (128 + 4 * x + a) := by rw [hf8.1 _ (by unfold S8 S7; omega), hf7.1 _ (by unfold S8 S7; omega)]
    have hS81 : ¬ S8 (113 + x) := by unfold S8 S7; omega
    have hS82 : ¬ S8 (202 + x) := by unfold S8 S7; omega
    have r58 : ∀ o, ¬ (S8 o ∨ o = 128 + 4 * x + a ∨ o = 153 + 4 * x + a ∨ o = 178 + 4 * x + a) → gI M8 o = gI M5 o := fun o ho => by
      rw [hf8.1 o (fun z => ho (z.imp_right .inr)), hf7.1 o (fun z => ho (.inl z)), hf6.1 o (fun z => ho (z.imp_right .inl))]
    have f58 : frS (fun o => S8 o ∨ o = 128 + 4 * x + a ∨ o = 153 + 4 * x + a ∨ o = 178 + 4 * x + a) M5 M8 := ((hf6.wk (fun _ h => h.imp_right .inl)).trans (hf7.wk (fun _ h => .inl h))).trans (hf8.wk (fun _ h => h.imp_right .inr))
    have e1 : gI M8 (113 + x) = gI M5 (113 + x) := r58 _ (by unfold S8 S7; omega)
    have e2 : gI M8 (202 + x) = gI M5 (202 + x) := r58 _ (by unfold S8 S7; omega)
    have tl := toT_len m (o := fun j => (f + j) % n) (p := pn (gI M8 (153 + 4 * x + a))) (fun j hj => ⟨by have := Nat.mod_lt (f + j) (show 0 < n by omega); omega, by
      obtain ⟨v, -, v1, v2⟩ := hp8 j hj
      show pn _ ((f + j) % n) ≤ 100
      unfold pn
      rw [v2, nI_clamp (by omega)]
      exact v1⟩)
    refine Ok.some ⟨⟨q8, hq8, by omega⟩, ⟨a5.1.trans (f58.wk (fun o h => h.imp_right (fun h => .inr (.inr h)))), fun j hj => by rw [e1, e2]; exact a5.2 j hj⟩, acT nb x g f n m (pn (gI M8 (128 + 4 * x + a))) (pn (gI M8 (153 + 4 * x + a))), ?_, ⟨g, m, f, ⟨hg, by rw [e1]; exact gg5, by rw [e2]; exact pp5⟩, ⟨by rw [u68]; exact hu6, fun b hb => by rw [u68, hr6 b hb]; exact (z5 b).1⟩, ⟨hm8, by omega⟩, ⟨ho8, hp8, hz8⟩, (Nat.zero_add _).symm.trans hs8, rfl⟩, ?_⟩
    · unfold acT
      rw [u68]
      simp only [List.length_append]
      omega
    · unfold acT
      rw [u68]
      simp only [← List.append_assoc] at hT8 ⊢
      exact hT8
  · intro j77 h77
    by_cases h20 : 20 ≤ g
    · refine ifp_R (by rw [ge]; exact h20) (ifp_R (by decide) ?_)
      refine apW_R hT3 (by decide) (by simp only [List.length_append]; omega) (fun M4 hT4 hf4 => h77 _ ⟨hf4, rfl, ?_⟩)
      rw [if_neg (by omega)]
      exact hT4
    · refine ifn_R (by rw [ge]; exact h20) (ifp_R (by decide) ?_)
      refine apW_R hT3 (by decide) (by simp only [List.length_append]; omega) (fun M4 hT4 hf4 => h77 _ ⟨hf4, rfl, ?_⟩)
      rw [if_pos (by omega)]
      exact hT4
