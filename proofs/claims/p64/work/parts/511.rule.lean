theorem rule_ok {Z LX : Nat} {xs : Nat → Int32} (hL : LX < 2147483647) (hZ : 10 ≤ Z) {x m k0 : Nat} (hx : x < 6) (hm1 : 1 ≤ m) (hm : m ≤ 3) {M : Mem} {T : List Nat} (hR : RWw M (fun x => 120 + x)) (h7 : gI M 111 x = nI m) (hz : ∀ j, gI M (120 + x) j = nI 0) (hk : gI M 108 1 = nI k0) (hk0 : k0 < 800000) (hT : TB M T) (hT0 : T.length + 16 ≤ 1100) : Ok (fun r : Unit × Mem => (∃ k, gI r.2 108 1 = nI k ∧ k ≤ k0 + 4) ∧ frS (fun w => S8 w ∨ w = 120 + x) M r.2 ∧ ∃ seg, seg.length ≤ 16 ∧ RuS r.2 (120 + x) m x seg ∧ TB r.2 (T ++ seg)) (f_X12_rule shL Z LX xs M (nI x)) := by
  have sh1 := (shL_rows x hx).2.1
  have hS : ¬ S7 (120 + x) := by unfold S7; omega
  unfold f_X12_rule
  refine rdQ_R rfl hx (by decide) (hR x hx) sh1 ?_
  refine wrI_R i0 (by decide) (by decide) ?_
  refine ifp_R (by decide) ?_
  have q0 : gI (sI M (120 + x) 0 (10 : Int32)) 108 1 = nI k0 := by rw [gI_sI, if_neg (show ¬ (108 = 120 + x ∧ 1 = 0) by omega)]; exact hk
  refine next_R q0 (by omega) rfl rfl (a := 0) (b := 2) (by decide) (by decide) hL (fun v hv0 hv => ?_)
  have hf : frS (fun w => w = 108 ∨ w = 120 + x) M (sI (sI M (120 + x) 0 (10 : Int32)) 108 1 (nI (k0 + 1))) := (frS_sI (.inr rfl)).trans (frS_sI (.inl rfl))
  have hT1 := (hT.wr (o := 120 + x) (k := 0) (v := (10 : Int32)) (by omega) (by omega) (by omega)).wr (o := 108) (k := 1) (v := nI (k0 + 1)) (by decide) (by decide) (by decide)
  have g1 : ∀ j, gI (sI (sI M (120 + x) 0 (10 : Int32)) 108 1 (nI (k0 + 1))) (120 + x) j = if j = 0 then nI 10 else nI 0 := fun j => by
    rw [gI_sI, if_neg (show ¬ (120 + x = 108 ∧ j = 1) by omega), gI_sI]
    by_cases hj : j = 0
    · rw [if_pos ⟨rfl, hj⟩, if_pos hj, i10]
    · rw [if_neg (fun z => hj z.2), if_neg hj]
      exact hz j
  have gq : gI (sI (sI M (120 + x) 0 (10 : Int32)) 108 1 (nI (k0 + 1))) 108 1 = nI (k0 + 1) := gI_same
  generalize sI (sI M (120 + x) 0 (10 : Int32)) 108 1 (nI (k0 + 1)) = M1 at hf hT1 g1 gq ⊢
  have pe : ∀ j, pn (gI M1 (120 + x)) j = if j = 0 then 10 else 0 := fun j => by
    rw [show pn (gI M1 (120 + x)) j = (gI M1 (120 + x) j).toNatClampNeg from rfl, g1]
    split <;> exact nI_clamp (by decide)
  have hW : ∀ m, 1 ≤ m → WS M1 (120 + x) m := fun m hm => ⟨fun a _ => by
    rw [pe, g1]
    split <;> rfl, by
    obtain ⟨m, rfl⟩ := Nat.exists_eq_succ_of_ne_zero (show m ≠ 0 by omega)
    clear hm
    induction m with
    | zero =>
      rw [sm, sm, pe, if_pos rfl]
    | succ m ih =>
      rw [sm, ih, pe, if_neg (by omega)], fun a ha _ => by
    rw [g1, if_neg (by omega)]⟩
  have hR1 : RWw M1 (fun x => 120 + x) := hR.R hf.2.2
  have hw8 : ∀ w, (w = 108 ∨ w = 120 + x) → (S8 w ∨ w = 120 + x) := fun w h => h.imp_left (fun h => .inl h)
  have e7 : gI M1 111 x = nI m := by rw [hf.1 111 (by omega)]; exact h7
  by_cases hv9 : v = 0
  · subst hv9
    refine ifp_R rfl (ifp_R (by decide) (Ok.some ⟨⟨_, gq, by omega⟩, hf.wk hw8, [], by decide, ⟨hW m hm1, .inl ⟨rfl, by show pn (gI M1 (120 + x)) 0 = 10; rw [pe, if_pos rfl]⟩⟩, by rw [List.append_nil]; exact hT1⟩))
  · refine ifn_R (nI_ne0 (by omega) (by omega)) ?_
    refine L22_ok hL hx hm (k0 := k0 + 1) (M0 := M1) (T := T) hR1 e7 (by omega) (fun M2 hJ => ?_) (m - 1) Z 0 M1 (by omega) (by omega) ⟨⟨_, gq, by omega⟩, hT1, frS.rfl, hW 1 (by decide)⟩
    obtain ⟨⟨q, hq, hq2⟩, hT2, hf2, hW2⟩ := hJ
    rw [show m - 1 + 1 = m by omega] at hW2
    have w19 : (WL.getD 19 []).length = 6 := rfl
    have d1 : (dgs x).length = 1 := by
      unfold dgs
      rw [if_pos (by omega)]
      rfl
    refine ifp_R (by decide) ?_
    refine apW_R hT2 (by decide) (by omega) (fun M3 hT3 hf3 => ?_)
    refine ifp_R (by decide) ?_
    refine apI_R hT3 (by omega) (by simp only [List.length_append]; omega) (fun M4 hT4 hf4 => ?_)
    have hf24 := hf3.trans hf4
    have e24 : gI M4 (120 + x) = gI M2 (120 + x) := hf24.1 _ hS
    have hW4 : WS M4 (120 + x) m := hW2.wp e24
    refine L100_ok hx hm (M0 := M4) (c0 := 2) (T := T ++ WL.getD 19 [] ++ dgs x) (hR1.R (hf24.2.2.trans hf2.2.2)) (by rw [hf24.1 111 (by unfold S7; omega), hf2.1 111 (by omega)]; exact e7) (by decide) (by simp only [List.length_append]; omega) hW4 (fun M5 hT5 hf5 => ?_) m Z 0 M4 2 (by omega) (by omega) (by rw [ruT, List.append_nil]; exact hT4) frS.rfl (by omega)
    have e45 : gI M5 (120 + x) = gI M4 (120 + x) := hf5.1 _ hS
    have hf25 := hf24.trans hf5
    have hl := ruT_len (w := pn (gI M4 (120 + x))) m (fun j hj => WS_le hW4 hm j (by omega))
    refine Ok.some ⟨⟨q, by show gI M5 108 1 = nI q; rw [hf25.1 108 (by unfold S7; omega)]; exact hq, by omega⟩, ((hf.trans hf2).wk hw8).trans (hf25.wk (fun _ h => .inl (.inr h))), WL.getD 19 [] ++ dgs x ++ ruT (pn (gI M4 (120 + x))) m, by simp only [List.length_append]; omega, ⟨hW4.wp e45, .inr (by show _ = WL.getD 19 [] ++ dgs x ++ ruT (pn (gI M5 (120 + x))) m; rw [e45])⟩, ?_⟩
    simp only [← List.append_assoc] at hT5 ⊢
    exact hT5
