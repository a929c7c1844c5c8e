/-! isLike -/
theorem clT_R {α β : Type} {R : Option β → Prop} {x : Option (Except Nat α × Mem)} {v : α} {M : Mem} {k : α → Mem → Option β} {ke : Nat → Mem → Option β} (h : x = some (.ok v, M)) (K : R (k v M)) : R (clT x k ke) := by
  rw [h]
  exact K
theorem cl_R1 {α β : Type} {R : Option β → Prop} {x : Option (α × Mem)} {v : α} {M : Mem} {k : α → Mem → Option β} (h : x = some (v, M)) (K : R (k v M)) : R (cl x k) := by
  rw [h]
  exact K
theorem rdI_R' {β : Type} {R : Option β → Prop} {M : Mem} {o n j : Nat} {v : Int32} {k : Int32 → Option β} (hj : j < n) (hn : n < 1000) (e : gI M o j = v) (K : R (k v)) : R (rdI M o n (nI j) k) := by
  refine rdI_R rfl hj hn ?_
  rw [e]
  exact K
theorem shQ {wr : Nat → Nat} {b : Nat} {M : Mem} (h : LwR wr b M) (hb : 212 ≤ b) (x : Nat) (hx : x < 6) : shB b (wr x) = some (0, 3) := by
  rcases h.2.2 x hx with c | ⟨c1, c2, c3⟩
  · rw [c]
    exact (shB_rows hb x hx).2.1
  · unfold shB SHF
    rw [if_pos c2, if_neg (by omega), if_neg (by omega)]
    by_cases c : wr x = 300
    · exact absurd c (by omega)
    · rw [if_neg c, if_neg (by omega), if_neg (by omega)]
theorem like59 {sh : Nat → Option SE} {Z : Nat} {P S : Nat → Int32} {wr : Nat → Nat} {M : Mem} {R : Option (Int32 × Mem) → Prop} {k : Mem → Nat → Option (Int32 × Mem)} (hC : HasC P S M) (hP : LwP P M) (hS : LwS P S wr M) (hK : ∀ c, c ≤ 8 → R (k M c)) : ∀ d fu b c, b + d = cB P → d < fu → c ≤ 2 + 2 * b → R (f_L_isLike_L59 sh Z k fu (nI b) M c) := by
  intro d
  have h3 := hC.b.2
  induction d with
  | zero =>
    intro fu b c hb hd hc
    obtain ⟨fu, rfl⟩ := Nat.exists_eq_succ_of_ne_zero (Nat.ne_of_gt hd)
    rw [f_L_isLike_L59]
    refine bd_R ?_
    rw [hP.2.1]
    exact ifp_R (by rw [nI_ile (by omega) (by omega)]; omega) (hK c (by omega))
  | succ d ih =>
    intro fu b c hb hd hc
    obtain ⟨fu, rfl⟩ := Nat.exists_eq_succ_of_ne_zero (show fu ≠ 0 by omega)
    rw [f_L_isLike_L59]
    refine bd_R ?_
    rw [hP.2.1]
    refine ifn_R (by rw [nI_ile (by omega) (by omega)]; omega) (ifp_R (by omega) (clT_R (g_limit hC (by omega)) (rdI_R' (by omega) (by decide) (hS.2.2.2.1 b (by omega)) (ifp_R rfl ?_))))
    rw [show nI b + (1 : Int32) = nI (b + 1) from nI_add b 1]
    exact ih fu (b + 1) _ (by omega) (by omega) (by omega)
theorem like117 {b9 : Nat} {Z x : Nat} {P S : Nat → Int32} {wr : Nat → Nat} {M : Mem} {c0 : Nat} {R : Option (Int32 × Mem) → Prop} {k : Mem → Nat → Option (Int32 × Mem)} (hb9 : 212 ≤ b9) (hC : HasC P S M) (hP : LwP P M) (hS : LwS P S wr M) (hR : LwR wr b9 M) (hx : x < cN P) (hc0 : c0 ≤ 180) (hK : ∀ c, c ≤ c0 + 27 → R (k M c)) : ∀ d fu a c, a + d = cM P x → d < fu → c ≤ c0 + 9 * a → R (f_L_isLike_L117 (shB b9) Z (nI x) k fu (nI a) M c) := by
  intro d
  have hm := hC.z.2.1 x
  have hN := hC.N.2
  obtain ⟨⟨r1, -⟩, r3, -⟩ := id hR
  obtain ⟨s1, s2, s3, s4, s5, s6⟩ := shB_rows hb9 x (by omega)
  induction d with
  | zero =>
    intro fu a c hb hd hc
    obtain ⟨fu, rfl⟩ := Nat.exists_eq_succ_of_ne_zero (Nat.ne_of_gt hd)
    rw [f_L_isLike_L117]
    refine rdI_R' (by omega) (by decide) (hP.2.2.1 x hx) ?_
    exact ifp_R (by rw [nI_ile (by omega) (by omega)]; omega) (hK c (by omega))
  | succ d ih =>
    intro fu a c hb hd hc
    obtain ⟨fu, rfl⟩ := Nat.exists_eq_succ_of_ne_zero (show fu ≠ 0 by omega)
    have ha : a < cM P x := by omega
    rw [f_L_isLike_L117]
    refine rdI_R' (by omega) (by decide) (hP.2.2.1 x hx) ?_
    refine ifn_R (by rw [nI_ile (by omega) (by omega)]; omega) (ifp_R (by omega) (clT_R (g_gain hC hx ha) (rdQ_R rfl (by omega) (by decide) (r1 x (by omega)).1 s1 (rdI_R' (by omega) (by decide) (hP.2.2.2 x hx a ha).1 (ifp_R rfl ?_)))))
    refine ifp_R (by omega) (clT_R (g_weight hC hx ha) (rdQ_R rfl (by omega) (by decide) (r3 x (by omega)) (shQ hR hb9 x (by omega)) (rdI_R' (by omega) (by decide) (hS.2.1 x hx a (by omega)) (ifp_R rfl ?_))))
    refine ifp_R (by omega) (clT_R (g_permits hC hx ha) (rdQ_R rfl (by omega) (by decide) (r1 x (by omega)).2.2.2.2 s6 (rdI_R' (by omega) (by decide) (hS.2.2.1 x hx a ha) (ifp_R rfl ?_))))
    rw [show nI a + (1 : Int32) = nI (a + 1) from nI_add a 1]
    exact ih fu (a + 1) _ (by omega) (by omega) (by omega)
theorem like91 {b9 : Nat} {Z : Nat} {P S : Nat → Int32} {wr : Nat → Nat} {M : Mem} {R : Option (Int32 × Mem) → Prop} {k : Mem → Nat → Option (Int32 × Mem)} (hZ : 10 ≤ Z) (hb9 : 212 ≤ b9) (hC : HasC P S M) (hP : LwP P M) (hS : LwS P S wr M) (hR : LwR wr b9 M) (hN4 : cN P ≤ 4) (hK : ∀ c, c ≤ 124 → R (k M c)) : ∀ d fu x c, x + d = cN P → d < fu → c ≤ 8 + 29 * x → R (f_L_isLike_L91 (shB b9) Z k fu (nI x) M c) := by
  intro d
  induction d with
  | zero =>
    intro fu x c hb hd hc
    obtain ⟨fu, rfl⟩ := Nat.exists_eq_succ_of_ne_zero (Nat.ne_of_gt hd)
    rw [f_L_isLike_L91]
    refine bd_R ?_
    rw [hP.1]
    exact ifp_R (by rw [nI_ile (by omega) (by omega)]; omega) (hK c (by omega))
  | succ d ih =>
    intro fu x c hb hd hc
    obtain ⟨fu, rfl⟩ := Nat.exists_eq_succ_of_ne_zero (show fu ≠ 0 by omega)
    have hx : x < cN P := by omega
    have hm := hC.z.2.1 x
    rw [f_L_isLike_L91]
    refine bd_R ?_
    rw [hP.1]
    refine ifn_R (by rw [nI_ile (by omega) (by omega)]; omega) (ifp_R (by omega) (clT_R (g_actions hC hx) (rdI_R' (by omega) (by decide) (hP.2.2.1 x hx) (ifp_R rfl ?_))))
    refine like117 (c0 := c + 2) hb9 hC hP hS hR hx (by omega) (fun c1 hc1 => ?_) (cM P x) Z 0 (c + 2) (by omega) (by omega) (by omega)
    rw [show nI x + (1 : Int32) = nI (x + 1) from nI_add x 1]
    exact ih fu (x + 1) _ (by omega) (by omega) (by omega)
theorem like194 {sh : Nat → Option SE} {Z n : Nat} {P S : Nat → Int32} {wr : Nat → Nat} {M : Mem} {R : Option (Int32 × Mem) → Prop} {k : Mem → Nat → Option (Int32 × Mem)} (hC : HasC P S M) (hS : LwS P S wr M) (hn : S 3 = nI n) (h5 : n ≤ 5) (hK : ∀ c, c ≤ 160 → R (k M c)) : ∀ d fu t c, t + d = n + 1 → d < fu → c ≤ 124 + 6 * t → R (f_L_isLike_L194 sh Z k fu (nI t) M c) := by
  intro d
  have e14 : gI M 109 14 = nI n := hS.1.2.2.2.trans hn
  obtain ⟨w1, w2⟩ := hS.2.2.2.2 n h5 hn
  induction d with
  | zero =>
    intro fu t c hb hd hc
    obtain ⟨fu, rfl⟩ := Nat.exists_eq_succ_of_ne_zero (Nat.ne_of_gt hd)
    rw [f_L_isLike_L194]
    refine bd_R ?_
    rw [e14]
    exact ifp_R (by rw [nI_ilt (by omega) (by omega)]; omega) (hK c (by omega))
  | succ d ih =>
    intro fu t c hb hd hc
    obtain ⟨fu, rfl⟩ := Nat.exists_eq_succ_of_ne_zero (show fu ≠ 0 by omega)
    rw [f_L_isLike_L194]
    refine bd_R ?_
    rw [e14]
    refine ifn_R (by rw [nI_ilt (by omega) (by omega)]; omega) (ifp_R (by omega) (clT_R (g_walked hC hn h5 (by omega)) (rdI_R' (by omega) (by decide) (w1 t (by omega)) (ifp_R rfl (bd_R ?_)))))
    rw [e14]
    refine jn_R (fun q : Mem × Nat => q.1 = M ∧ q.2 ≤ c + 6) (fun q hq => ?_) (fun j hj => ?_)
    · rw [hq.1, show nI t + (1 : Int32) = nI (t + 1) from nI_add t 1]
      exact ih fu (t + 1) _ (by omega) (by omega) (by omega)
    · by_cases ct : n ≤ t
      · exact ifp_R (by rw [nI_ile (by omega) (by omega)]; exact ct) (hj _ ⟨rfl, by show c + 3 ≤ _; omega⟩)
      · exact ifn_R (by rw [nI_ile (by omega) (by omega)]; exact ct) (ifp_R (by omega) (clT_R (g_walkedBy hC hn h5 (by omega)) (rdI_R' (by omega) (by decide) (w2 t (by omega)) (ifp_R rfl (hj _ ⟨rfl, by show c + 3 + 3 ≤ _; omega⟩)))))
theorem isLike_ok {b9 : Nat} {Z : Nat} {P S : Nat → Int32} {wr : Nat → Nat} {M : Mem} (hZ : 10 ≤ Z) (hb9 : 212 ≤ b9) (hC : HasC P S M) (hP : LwP P M) (hS : LwS P S wr M) (hR : LwR wr b9 M) (hN4 : cN P ≤ 4) : f_L_isLike (shB b9) Z M = some (1, M) := by
  obtain ⟨R, hRR⟩ : ∃ R : Option (Int32 × Mem) → Prop, R = fun x => x = some (1, M) := ⟨_, rfl⟩
  suffices H : R (f_L_isLike (shB b9) Z M) by rw [hRR] at H; exact H
  have hfin : R (some (1, M)) := by rw [hRR]
  have e1 : f_X11_states Z M = some (gI M 109 1, M) := by unfold f_X11_states; rw [bd_eq, hC.c.1, hP.1]
  have e2 : f_X11_budgets Z M = some (gI M 109 2, M) := by unfold f_X11_budgets; rw [bd_eq, hC.b.1, hP.2.1]
  have e3 : f_X11_horizon Z M = some (gI M 109 3, M) := by unfold f_X11_horizon; rw [bd_eq, hC.rs.1.2.1, hS.1.2.1]
  have hb3 := hC.b.2
  clear hRR
  unfold f_L_isLike
  refine ifp_R (by decide) (cl_R1 e1 (bd_R (ifp_R rfl ?_)))
  refine ifp_R (by decide) (cl_R1 e2 (bd_R (ifp_R rfl ?_)))
  refine ifp_R (by decide) (cl_R1 e3 (bd_R (ifp_R rfl ?_)))
  refine ifp_R (by decide) (clT_R (g_seed hC) (bd_R (ifp_R hS.1.2.2.1.symm ?_)))
  refine ifp_R (by decide) (clT_R (g_start hC) (bd_R (ifp_R hS.1.1.symm ?_)))
  refine like59 hC hP hS (fun c hc => ?_) (cB P) Z 0 2 (by omega) (by omega) (by omega)
  refine like91 hZ hb9 hC hP hS hR hN4 (fun c1 hc1 => ?_) (cN P) Z 0 c (by omega) (by omega) (by omega)
  rcases hC.s.2.2.2.2.2.2.2.2.2 with hn | ⟨hn, h1, h5, -⟩
  · have e14 : gI M 109 14 = -1 := hS.1.2.2.2.trans hn
    have hZ1 : ∃ fu, Z = fu + 1 := ⟨Z - 1, by omega⟩
    obtain ⟨fu, hfu⟩ := hZ1
    have key : ∀ (k : Mem → Nat → Option (Int32 × Mem)), R (k M c1) → R (f_L_isLike_L194 (shB b9) Z k Z (0 : Int32) M c1) := fun k hk => by
      rw [hfu, f_L_isLike_L194]
      refine bd_R ?_
      rw [e14]
      exact ifp_R (by decide) hk
    refine key _ (bd_R ?_)
    rw [e14]
    have et : f_L_thrown_14 Z M (0 : Int32) (0 : Int32) (0 : Int32) = some (1, M) := by
      unfold f_L_thrown_14 f_L_calls_14
      rw [g_nowalk hC hn]
      rfl
    refine ifn_R (by decide) (ifp_R (by omega) (cl_R1 et (ifp_R rfl (ifp_R (by omega) hfin))))
  · have e14 : gI M 109 14 = nI (pn S 3) := hS.1.2.2.2.trans hn
    refine like194 hC hS hn h5 (fun c2 hc2 => bd_R ?_) (pn S 3 + 1) Z 0 c1 (by omega) (by omega) (by omega)
    rw [e14]
    exact ifp_R (by rw [show (0 : Int32) = nI 0 from rfl, nI_ile (by decide) (by omega)]; omega) (ifp_R (by omega) hfin)
