theorem hitOf_ok {Z : Nat} {M : Mem} {N : Nat} (h3 : gI M 3 0 = nI N) (hN : N ≤ 6) (hZ : 60 < Z) {T : Nat → Nat → Nat} (hT : MT 17 M (fun x y => if x < N ∧ y < N then lN (T x y) else 0)) (hTs : ∀ x, x < N → sm N (T x) ≤ 1000) {st H x : Nat} (h1 : gI M 16 1 = nI st) (h2 : gI M 16 2 = nI H) (hst : st < N) (hH : H ≤ 5) (hx : x < N) :
    OK (f_X1_hitOf Z M (nI x)) (fun v M' => fr [19] M M' ∧ v = hor (fun t => lN (Fl N (fun a y => if a = x then 0 else T a y) st t x)) (H + 1)) := by
  have hTs' : ∀ a, a < N → sm N ((fun a y => if a = x then 0 else T a y) a) ≤ 1000 := fun a ha => by
    by_cases c : a = x
    · simp only [if_pos c, sm_zero]
      omega
    · simp only [if_neg c]
      exact hTs a ha
  unfold f_X1_hitOf
  obtain ⟨_, M1, e1, f1, v1⟩ := fill_d_ok (Z := Z) (M := M) (a := 19) (na := 36) (v := 0) (by decide) (by omega)
  rw [e1, cl_some, bd_eq, f1.I (show 16 ∉ [19] by decide), h1, wrL_n (by omega) (by decide), i0, show (0 : Int64) = hor (fun t => lN (Fl N (fun a y => if a = x then 0 else T a y) st t x)) 0 from rfl]
  refine lpS (fun n i M2 => f_X1_hitOf_L23 Z (nI x) n (hor (fun t => lN (Fl N (fun a y => if a = x then 0 else T a y) st t x)) i) (nI i) M2) (fun r => OK r _) (fun i M2 => fr [19] M M2 ∧ MT 19 M2 (fun t y => if y = x ∧ t < i then 0 else if t ≤ i ∧ t ≤ H ∧ y < N then lN (Fl N (fun a y => if a = x then 0 else T a y) st t y) else 0)) 0 (H + 1) (by omega) (by omega) ⟨fr_sL f1 List.mem_cons_self, fun t ht y hy => ?_⟩ ?_ ?_
  · rw [gL_sL, v1 _ (by omega)]
    by_cases c : t = 0
    · subst c
      by_cases d : y = st
      · subst d
        simp [Fl, hst, l1]
      · have : ¬ (0 * 6 + y = st) := by omega
        simp [this, Fl, d]
        intro _
        rfl
    · dsimp only
      rw [if_neg (by omega), if_neg (by omega), if_neg (by omega)]
  · intro n i M2 _ hi ⟨f2, t2⟩ K
    have g2 : gI M2 16 2 = nI H := by rw [f2.I (by decide)]; exact h2
    have c1 : gL M2 19 (i * 6 + x) = lN (Fl N (fun a y => if a = x then 0 else T a y) st i x) := by
      rw [t2 i (by omega) x (by omega)]
      simp only []
      rw [if_neg (by omega), if_pos ⟨Nat.le_refl _, by omega, hx⟩]
    rw [f_X1_hitOf_L23, bd_eq, g2]
    generalize hG : hor (fun t => lN (Fl N (fun a y => if a = x then 0 else T a y) st t x)) = G at K ⊢
    have eG : G i * (1000 : Int64) + lN (Fl N (fun a y => if a = x then 0 else T a y) st i x) = G (i + 1) := by rw [← hG]; rfl
    have f3 : fr [19] M (sL M2 19 (i * 6 + x) 0) := fr_sL f2 List.mem_cons_self
    have g3 : gI (sL M2 19 (i * 6 + x) 0) 16 2 = nI H := by rw [gI_sL']; exact g2
    have t3 : MT 19 (sL M2 19 (i * 6 + x) 0) (fun t y => if y = x ∧ t < i + 1 then 0 else if t ≤ i ∧ t ≤ H ∧ y < N then lN (Fl N (fun a y => if a = x then 0 else T a y) st t y) else 0) := (t2.set (x := i) (y := x) (v := 0) (by omega)).congr rfl (fun t _ y _ => by
      dsimp only [mst]
      by_cases c : t = i ∧ y = x
      · rw [if_pos c, if_pos ⟨c.2, by omega⟩]
      · rw [if_neg c]
        by_cases d : y = x ∧ t < i + 1
        · rw [if_pos d, if_pos ⟨d.1, by omega⟩]
        · rw [if_neg d, if_neg (show ¬ (y = x ∧ t < i) by omega)])
    simp (disch := omega) only [if_neg (show ¬ H < i by omega), nI_ilt, i1, i6, nI_add, nI_mul, rdL_n, wrL_n, c1, g3, bd_eq, jn_eq, eG, nI_ile]
    by_cases c : H ≤ i
    · rw [if_pos c]
      refine K _ ⟨f3, t3.congr rfl (fun t _ y _ => ?_)⟩
      by_cases d : y = x ∧ t < i + 1
      · rw [if_pos d, if_pos d]
      · rw [if_neg d, if_neg d]
        by_cases g : t ≤ i ∧ t ≤ H ∧ y < N
        · rw [if_pos g, if_pos (by omega)]
        · rw [if_neg g, if_neg (by omega)]
    · rw [if_neg c]
      obtain ⟨_, M4, e4, f4, t4⟩ := spread_ok (Z := Z) (M := sL M2 19 (i * 6 + x) 0) (N := N) (by rw [f3.I (by decide)]; exact h3) hN (by omega) (T := T) (hT.congr (f3.L (by decide)) (fun _ _ _ _ => rfl)) (w := 19) (t := i) (by decide) (by omega) (F := fun a => if a = x ∨ N ≤ a then 0 else Fl N (fun a y => if a = x then 0 else T a y) st i a) t3 (fun a ha => by
          by_cases d : a = x
          · rw [if_pos ⟨d, by omega⟩, if_pos (Or.inl d)]
            rfl
          · rw [if_neg (fun z => d z.1), if_pos ⟨Nat.le_refl _, by omega, ha⟩, if_neg (by omega)]) (fun a => by
          by_cases d : a = x ∨ N ≤ a
          · rw [if_pos d]; decide
          · rw [if_neg d]
            have := Fl_lt (st := st) hTs' (t := i) (x := a) (by omega) (by omega)
            omega) (fun y hy => by rw [if_neg (by omega), if_neg (by omega)]) (by decide)
      rw [e4, cl_some]
      refine K M4 ⟨f3.trans f4, t4.congr rfl (fun t _ y _ => ?_)⟩
      by_cases d : t = i + 1 ∧ y < N
      · rw [if_pos d, if_neg (by omega), if_pos ⟨by omega, by omega, d.2⟩, d.1]
        exact congrArg lN (sm_congr (fun a ha => by
          by_cases g : a = x
          · simp [g]
          · have g2 : ¬ (a = x ∨ N ≤ a) := by omega
            rw [if_neg g2]
            dsimp only
            rw [if_neg g])).symm
      · rw [if_neg d]
        by_cases g : y = x ∧ t < i + 1
        · rw [if_pos g, if_pos g]
        · rw [if_neg g, if_neg g]
          by_cases k : t ≤ i ∧ t ≤ H ∧ y < N
          · rw [if_pos k, if_pos (by omega)]
          · rw [if_neg k, if_neg (by omega)]
  · intro n M2 ⟨f2, t2⟩
    have g2 : gI M2 16 2 = nI H := by rw [f2.I (by decide)]; exact h2
    rw [f_X1_hitOf_L23, bd_eq, g2]
    simp (disch := omega) only [if_pos (show H < H + 1 by omega), nI_ilt]
    exact OK.ret ⟨f2, rfl⟩

