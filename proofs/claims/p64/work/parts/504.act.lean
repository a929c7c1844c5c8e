/-! an act of the law's chain is drawn: its uses -/
def usT (u : Nat → Nat) : Nat → List Nat
  | 0 => []
  | b + 1 => usT u b ++ (if u b = 0 then [] else WL.getD 17 [] ++ dgs b ++ [32] ++ dgs (u b))
theorem usT_c {u w : Nat → Nat} : ∀ b, (∀ j, j < b → u j = w j) → usT u b = usT w b
  | 0, _ => rfl
  | b + 1, h => by rw [usT, usT, usT_c b (fun j hj => h j (by omega)), h b (by omega)]
def J79 (M0 : Mem) (T0 : List Nat) (o k0 c0 b : Nat) (M : Mem) (c : Nat) : Prop := (∃ k, gI M 108 1 = nI k ∧ k ≤ k0 + 2 * b) ∧ c ≤ c0 + 4 * b ∧ TB M (T0 ++ usT (pn (gI M o)) b) ∧ frS (fun w => S8 w ∨ w = o) M0 M ∧ (∀ j, j < b → ∃ u, u ≤ 60 ∧ gI M o j = nI u) ∧ ∀ j, b ≤ j → gI M o j = gI M0 o j
theorem J79.next {M0 M2 M : Mem} {T0 : List Nat} {o k0 c0 b c u k : Nat} (hJ : J79 M0 T0 o k0 c0 b M c) (ho : ¬ S8 o) (hu : u ≤ 60) (hk : gI M2 108 1 = nI k) (hk2 : k ≤ k0 + 2 * b + 2) {c2 : Nat} (hc : c2 ≤ c + 4) (hf : frS (fun w => S8 w ∨ w = o) M M2) (he : ∀ j, gI M2 o j = if j = b then nI u else gI M o j) (hT : TB M2 (T0 ++ usT (pn (gI M o)) b ++ (if u = 0 then [] else WL.getD 17 [] ++ dgs b ++ [32] ++ dgs u))) : J79 M0 T0 o k0 c0 (b + 1) M2 c2 := by
  obtain ⟨-, h2, h3, h4, h5, h6⟩ := hJ
  have e1 : ∀ j, j < b → pn (gI M2 o) j = pn (gI M o) j := fun j hj => by
    unfold pn
    rw [he, if_neg (by omega)]
  have e2 : pn (gI M2 o) b = u := by
    unfold pn
    rw [he, if_pos rfl, nI_clamp (by omega)]
  refine ⟨⟨k, hk, by omega⟩, by omega, ?_, h4.trans hf, fun j hj => ?_, fun j hj => by rw [he, if_neg (by omega), h6 j (by omega)]⟩
  · rw [usT, usT_c b e1, e2, ← List.append_assoc]
    exact hT
  · rw [he]
    by_cases hjb : j = b
    · rw [if_pos hjb]
      exact ⟨u, hu, rfl⟩
    · rw [if_neg hjb]
      exact h5 j (by omega)
theorem usT_len {u : Nat → Nat} : ∀ b, b ≤ 3 → (∀ j, j < b → u j ≤ 60) → (usT u b).length ≤ 10 * b
  | 0, _, _ => Nat.le_refl _
  | b + 1, hb, h => by
    have ih := usT_len b (by omega) (fun j hj => h j (by omega))
    have hu := h b (by omega)
    have d1 : (dgs b).length = 1 := by
      unfold dgs
      rw [if_pos (by omega)]
      rfl
    have d2 : (dgs (u b)).length ≤ 2 := by
      unfold dgs
      split
      · exact Nat.le_succ 1
      · rw [if_pos (by omega)]
        exact Nat.le_refl _
    rw [usT, List.length_append]
    split
    · simp only [List.length_nil]; omega
    · simp only [List.length_append, d1]
      have : (WL.getD 17 []).length = 6 := rfl
      have : ([32] : List Nat).length = 1 := rfl
      omega
theorem L79_ok {R : Option (Unit × Mem) → Prop} {Z LX : Nat} {xs : Nat → Int32} (hL : LX < 2147483647) {x a nb k0 c0 : Nat} (hx : x < 6) (ha : a < 3) (hnb : nb ≤ 3) {M0 : Mem} {T0 : List Nat} (hR : RW M0) (h9 : gI M0 109 2 = nI nb) (hk0 : k0 < 900000) (hc0 : c0 ≤ 20) (hT0 : T0.length + 30 ≤ 1100) {k : Mem → Nat → Option (Unit × Mem)} (hK : ∀ M c, J79 M0 T0 (128 + 4 * x + a) k0 c0 nb M c → R (k M c)) : ∀ d n b M c, b + d = nb → d < n → J79 M0 T0 (128 + 4 * x + a) k0 c0 b M c → R (f_X12_act_L79 shL Z LX xs (nI x) (nI a) k n (nI b) M c) := by
  have hS : ¬ S8 (128 + 4 * x + a) := by unfold S8 S7; omega
  have hS7 : ¬ S7 (128 + 4 * x + a) := fun z => hS (.inr z)
  intro d
  induction d with
  | zero =>
    intro n b M c hb hd hJ
    obtain ⟨n, rfl⟩ := Nat.exists_eq_succ_of_ne_zero (Nat.ne_of_gt hd)
    obtain rfl : b = nb := hb
    have e9 : gI M 109 2 = nI b := by rw [hJ.2.2.2.1.1 109 (by unfold S8 S7; omega)]; exact h9
    rw [f_X12_act_L79]
    refine bd_R ?_
    exact ifp_R (by rw [e9]; exact Int32.le_refl _) (hK M c hJ)
  | succ d ih =>
    intro n b M c hb hd hJ
    obtain ⟨n, rfl⟩ := Nat.exists_eq_succ_of_ne_zero (show n ≠ 0 by omega)
    have hJ9 := hJ
    obtain ⟨⟨q, hq, hq2⟩, hc, hT, hf, hu, hr⟩ := hJ9
    have e9 : gI M 109 2 = nI nb := by rw [hf.1 109 (by unfold S8 S7; omega)]; exact h9
    have hRM : RW M := hR.R hf.2.2
    have hul : (usT (pn (gI M (128 + 4 * x + a))) b).length ≤ 10 * b := usT_len b (by omega) (fun j hj => by
      obtain ⟨u, h1, h2⟩ := hu j hj
      unfold pn
      rw [h2, nI_clamp (by omega)]
      exact h1)
    have sh1 := (shL_rows x hx).2.2.1
    have sh2 := (shL_rows2 x hx a ha).1
    rw [f_X12_act_L79]
    refine bd_R (ifn_R (by rw [e9, nI_ile (by omega) (by omega)]; omega) ?_)
    refine rdQ_R rfl hx (by decide) (hRM.1 x hx).2.1 sh1 ?_
    refine rdQ_R rfl ha (by decide) (hRM.2 x hx a ha).1 sh2 ?_
    refine ifp_R (by omega) ?_
    refine next_R hq (by omega) rfl rfl (a := 0) (b := 2) (by decide) (by decide) hL (fun v hv1 hv2 => ?_)
    refine jn_R (fun t : Int32 × Mem => (∃ u, u ≤ 60 ∧ t.1 = nI u) ∧ (∃ q', gI t.2 108 1 = nI q' ∧ q' ≤ k0 + 2 * b + 2) ∧ frS (fun w => w = 108) M t.2 ∧ TB t.2 (T0 ++ usT (pn (gI M (128 + 4 * x + a))) b)) ?_ ?_
    · rintro ⟨v1, M1⟩ ⟨⟨u, hu1, hu2⟩, ⟨q1, hq1, hq3⟩, hf1, hT1⟩
      dsimp only at hu2 hq1 hf1 hT1 ⊢
      subst hu2
      have hf2 : frS (fun w => w = 108 ∨ w = 128 + 4 * x + a) M (sI M1 (128 + 4 * x + a) b (nI u)) := (hf1.wk (fun _ h => .inl h)).trans (frS_sI (.inr rfl))
      have hR2 : RW (sI M1 (128 + 4 * x + a) b (nI u)) := hRM.R hf2.2.2
      have g2 : ∀ j, gI (sI M1 (128 + 4 * x + a) b (nI u)) (128 + 4 * x + a) j = if j = b then nI u else gI M (128 + 4 * x + a) j := fun j => by
        rw [gI_sI, hf1.1 _ (by omega)]
        by_cases hj : j = b
        · rw [if_pos ⟨rfl, hj⟩, if_pos hj]
        · rw [if_neg (fun z => hj z.2), if_neg hj]
      refine wrI_R rfl (by omega) (by decide) ?_
      refine rdQ_R rfl hx (by decide) (hR2.1 x hx).2.1 sh1 ?_
      refine rdQ_R rfl ha (by decide) (hR2.2 x hx a ha).1 sh2 ?_
      refine rdI_R rfl (by omega) (by decide) ?_
      have hT2 := hT1.wr (o := 128 + 4 * x + a) (k := b) (v := nI u) (by omega) (by omega) (by omega)
      have g3 := (g2 b).trans (if_pos rfl)
      have gq : gI (sI M1 (128 + 4 * x + a) b (nI u)) 108 1 = nI q1 := by rw [gI_sI, if_neg (fun z => by omega)]; exact hq1
      generalize sI M1 (128 + 4 * x + a) b (nI u) = M2 at hf2 hR2 g2 hT2 g3 gq ⊢
      have hw : ∀ w, (w = 108 ∨ w = 128 + 4 * x + a) → (S8 w ∨ w = 128 + 4 * x + a) := fun w h => h.elim (fun h => .inl (.inl h)) .inr
      refine jn_R (fun t : Mem × Nat => J79 M0 T0 (128 + 4 * x + a) k0 c0 (b + 1) t.1 t.2) ?_ ?_
      · rintro ⟨M3, c3⟩ h3
        rw [i1, nI_add]
        exact ih n (b + 1) M3 c3 (by omega) (by omega) h3
      · intro j31 h31
        rw [g3]
        by_cases hu0 : u = 0
        · subst hu0
          refine ifp_R (by decide) (h31 _ ?_)
          exact hJ.next hS hu1 gq hq3 (by omega) (hf2.wk hw) g2 (by rw [if_pos rfl, List.append_nil]; exact hT2)
        · refine ifn_R (by rw [i0, nI_ile (by omega) (by omega)]; omega) ?_
          refine ifp_R (by omega) ?_
          have d1 : (dgs b).length = 1 := by
            unfold dgs
            rw [if_pos (by omega)]
            rfl
          have d2 : (dgs u).length ≤ 2 := by
            unfold dgs
            split
            · exact Nat.le_succ 1
            · rw [if_pos (by omega)]
              exact Nat.le_refl _
          have w17 : (WL.getD 17 []).length = 6 := rfl
          have s1 : ([32] : List Nat).length = 1 := rfl
          refine apW_R hT2 (by decide) (by simp only [List.length_append]; omega) (fun M3 hT3 hf3 => ?_)
          refine ifp_R (by omega) ?_
          refine apI_R hT3 (by omega) (by simp only [List.length_append]; omega) (fun M4 hT4 hf4 => ?_)
          refine ifp_R (by omega) ?_
          refine apK_R hT4 (by decide) (by simp only [List.length_append]; omega) (fun M5 hT5 hf5 => ?_)
          have hf25 := (hf3.trans hf4).trans hf5
          have hR5 : RW M5 := hR2.R hf25.2.2
          refine rdQ_R rfl hx (by decide) (hR5.1 x hx).2.1 sh1 ?_
          refine rdQ_R rfl ha (by decide) (hR5.2 x hx a ha).1 sh2 ?_
          refine rdI_R rfl (by omega) (by decide) ?_
          rw [hf25.1 _ hS7, g3]
          refine ifp_R (by omega) ?_
          refine apI_R hT5 (by omega) (by simp only [List.length_append]; omega) (fun M6 hT6 hf6 => ?_)
          have hf26 := hf25.trans hf6
          refine h31 _ ?_
          refine hJ.next hS hu1 (u := u) (k := q1) ?_ hq3 (by omega) ((hf2.wk hw).trans (hf26.wk (fun _ h => .inl (.inr h)))) (fun j => by rw [hf26.1 _ hS7]; exact g2 j) ?_
          · rw [hf26.1 108 (by unfold S7; omega)]
            exact gq
          · rw [if_neg hu0]
            simp only [← List.append_assoc] at hT6 ⊢
            exact hT6
    · intro j39 h39
      have hf0 : frS (fun w => w = 108) M (sI M 108 1 (nI (q + 1))) := frS_sI rfl
      have hT9 := hT.wr (o := 108) (k := 1) (v := nI (q + 1)) (by decide) (by decide) (by decide)
      have g0 : gI (sI M 108 1 (nI (q + 1))) 108 1 = nI (q + 1) := gI_same
      by_cases hv : v = 0
      · subst hv
        refine ifp_R rfl (h39 _ ⟨⟨0, by decide, rfl⟩, ⟨q + 1, g0, by omega⟩, hf0, hT9⟩)
      · refine ifn_R (nI_ne0 (by omega) (by omega)) ?_
        refine ifp_R (by omega) ?_
        refine next_R g0 (by omega) rfl rfl (a := 1) (b := 60) (by decide) (by decide) hL (fun v2 hv3 hv4 => ?_)
        exact h39 _ ⟨⟨v2, hv4, rfl⟩, ⟨q + 1 + 1, gI_same, by omega⟩, hf0.trans (frS_sI rfl), hT9.wr (by decide) (by decide) (by decide)⟩
