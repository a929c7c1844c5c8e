/-! the chain drawn, the class made -/
def Bg (M2 : Mem) : Prop := (∃ k, gI M2 108 1 = nI k ∧ k ≤ 300) ∧ frS (fun w => SIN w ∨ w = 109) (mH mem1) M2 ∧ gI M2 109 14 = -1 ∧ ∃ n nb h s st t1 t2 t3, Ini M2 n nb h s st t1 t2 t3
theorem bg_ok {Z L : Nat} {xs : Nat → Int32} (hL : L < 2147483647) (hZ : 10 ≤ Z) : ∃ u M2, f_X12_init_t shL Z L xs (mH mem1) = some (u, M2) ∧ Bg M2 := by
  obtain ⟨⟨u, M2⟩, e, h1, h2, h3, h4⟩ := init_ok (Z := Z) (LX := L) (xs := xs) hL hZ (mH_RW mem1).1 (mH_RW mem1).2 (fun o h1 h2 j => mH_0 (by omega) (by omega) (by omega) (by omega)) (by rw [mH_gI, if_neg (by decide)]; exact mN_0 (by decide) (by decide) (by decide)) (mH_0 (by decide) (by decide) (by decide) (by decide)) TB_mH
  refine ⟨u, M2, e, h1, h2, ?_, h4⟩
  have := h3 14 (by decide)
  rw [mH_gI, if_pos (by decide)] at this
  exact this
theorem Bg.R {M2 : Mem} (h : Bg M2) : gR M2 = gR (mH mem1) := h.2.1.2.2
theorem Bg.zc {M2 : Mem} (h : Bg M2) : Zc 0 M2 := by
  refine ⟨fun o _ ho => ⟨fun k => ?_, fun k => ?_, fun k => ?_⟩, fun o k j hj => .inr ?_⟩
  · rw [h.2.1.1 o (by unfold SIN S8 S7; omega)]
    exact mH_0 (by omega) (by omega) (by omega) (by omega)
  · rw [h.2.1.2.1 o (by omega) (by omega)]
    exact mH_L0 (by omega) (by omega)
  · rw [h.R]
    exact mH_R0 (.inl ho)
  · rw [h.R] at hj
    exact mH_Rlo hj
theorem Bg.z {M2 : Mem} (h : Bg M2) : ∀ o, 212 ≤ o → o ≠ 300 → zeroM o M2 := fun o h1 h3 => ⟨fun k => by
    rw [h.2.1.1 o (by unfold SIN S8 S7; omega)]
    exact mH_0 (by omega) (by omega) (by omega) (by omega), fun k => by
    rw [h.2.1.2.1 o (by omega) (by omega)]
    exact mH_L0 (by omega) (by omega), fun k => by
    rw [h.R]
    exact mH_R0 (.inr (by omega))⟩
theorem Bg.kb {M2 : Mem} (h : Bg M2) : KB 212 (mmC M2) := by
  obtain ⟨c1, c2, c3⟩ := ceC h.zc
  have hS := mH_R mem1_ZE
  have hz := mH_z mem1_ZE
  have hi : ∀ o, 108 ≤ o → gR (mmC M2) o = gR (mH mem1) o := fun o ho => by rw [(c1 o ho).2.2, h.R]
  refine ⟨⟨fun o k j hj => ?_, fun o k j hj => ?_, ?_, fun z => absurd z (by decide)⟩, fun o k j hj => ?_, fun o k hj => ?_, fun o k hj => ?_⟩
  · obtain ⟨ho, hk⟩ := srT_in hj
    rw [(c2 o ho).2.2, mmC_R o ho k hk (by rw [hj]; rfl), hj]
  · have ho : 108 ≤ o := by
      refine Nat.le_of_not_lt (fun z => ?_)
      unfold srV at hj
      split at hj <;> first | omega | exact nomatch hj
    rw [hi o ho]
    exact hS.1 o k j hj
  · rw [hi 210 (by decide)]
    exact hS.2.1
  · by_cases c : o < 108
    · have := c3 o c k j hj
      omega
    · rw [hi o (by omega)] at hj
      have := hz.2.1 o k j hj
      omega
  · by_cases c : o < 108
    · have := c3 o c k 211 hj
      omega
    · rw [hi o (by omega)] at hj
      exact hS.2.2.1 o k hj
  · by_cases c : o < 108
    · have := c3 o c k 300 hj
      omega
    · rw [hi o (by omega)] at hj
      exact hS.2.2.2 o k hj
theorem StT.many {M : Mem} {n nb : Nat} : ∀ {x : Nat} {t : List Nat}, StT M n nb x t → ∀ y, y < x → gI M 111 y = nI (pn (gI M 111) y) ∧ pn (gI M 111) y ≤ 3
  | 0, _, _, y, hy => absurd hy (by omega)
  | x + 1, _, ⟨t1, t2, t3, m, h1, ⟨hm1, hm3, hm⟩, _⟩, y, hy => by
    by_cases c : y = x
    · subst c
      rw [pn_n hm (by omega)]
      exact ⟨hm, hm3⟩
    · exact h1.many y (by omega)
/-- the class without a chain answers as it must -/
theorem law_a_ok {Z n : Nat} {sh : Nat → Option SE} {M : Mem} {R : Option (Unit × Mem) → Prop} {kx : Int32 → Mem → Nat → Option (Unit × Mem)} {kr : Mem → Option (Unit × Mem)} {mm : Nat → Nat} (hZ : 60 < Z) (h3 : gI M 3 0 = nI 0) (h10 : gI M 10 4 = 0) (h35 : gI M 35 0 = 0) (h105 : gI M 105 1 = 0) (hn : n ≤ 4) (h1 : gI M 109 1 = nI n) (hm : ∀ x, x < n → gI M 111 x = nI (mm x)) (hK : R (kx (nI (sm n mm)) M 262006)) : R (f_law_a sh Z kx kr M 262000) := by
  have t26 : f_L_thrown_26 Z M (0 : Int32) (0 : Int32) (0 : Int32) = some (1, M) := by
    have e : f_X11_start Z M = some (.error 0, M) := by
      unfold f_X11_start
      rw [needChain0 h3]
      rfl
    exact thr_of e (by decide)
  have t0 : f_L_thrown_0 Z M (0 : Int32) (0 : Int32) (0 : Int32) = some (1, M) := by
    have e : f_X11_gain Z M (0 : Int32) (0 : Int32) = some (.error 0, M) := by
      unfold f_X11_gain
      rw [needAction0 h3]
      rfl
    exact thr_of e (by decide)
  have t22 : f_L_thrown_22 Z M (0 : Int32) (0 : Int32) (0 : Int32) = some (1, M) := by
    have e : f_X11_undo Z M = some (.error 0, M) := by
      unfold f_X11_undo
      rw [bd_eq, h35, if_pos rfl]
    exact thr_of e (by decide)
  have t16 : f_L_thrown_16 Z M (0 : Int32) (0 : Int32) (0 : Int32) = some (2, M) := by
    have e : f_X11_reportByte Z M (0 : Int32) = some (.error 1, M) := by
      unfold f_X11_reportByte
      rw [jn_eq, if_neg (by decide), bd_eq, h105, if_neg (by decide)]
    exact thr_of e (by decide)
  have es : f_X11_states Z M = some (0, M) := by unfold f_X11_states; rw [bd_eq, h3]; rfl
  have eh : f_X11_horizon Z M = some (0, M) := by unfold f_X11_horizon; rw [bd_eq, h10]
  have eu : f_X11_undoable Z M = some (0, M) := by unfold f_X11_undoable; rw [bd_eq, h35]
  unfold f_law_a
  refine ifp_R (by decide) (cl_R1 t26 (ifp_R rfl (ifp_R (by decide) (cl_R1 t0 (ifp_R rfl (ifp_R (by decide) (cl_R1 t22 (ifp_R rfl (ifp_R (by decide) (cl_R1 t16 (ifp_R rfl ?_)))))))))))
  refine ifp_R (by decide) (cl_R1 es (ifp_R rfl (ifp_R (by decide) (cl_R1 eh (ifp_R rfl (ifp_R (by decide) (cl_R1 eu (ifp_R rfl ?_))))))))
  rw [i0]
  refine lpS (σ := Nat) (fun m i s => f_L_law_L106 sh Z 262000 M (fun (y23 : Int32) => kx y23 M ((((262000 + 1) + 3) + 1) + 1)) m (nI s) (nI i)) R (fun i s => s = sm i mm) 0 n (s := 0) (by omega) (by omega) rfl ?_ ?_
  · intro m i s _ hi hI K
    rw [f_L_law_L106, bd_eq, h1, if_neg (by rw [nI_ile (by omega) (by omega)]; omega), rdI_n (by omega) (by decide), hm i hi, nI_add, show nI i + (1 : Int32) = nI (i + 1) from nI_add i 1]
    exact K _ (by rw [hI]; rfl)
  · intro m s hI
    rw [f_L_law_L106, bd_eq, h1, if_pos (Int32.le_refl _), hI]
    exact hK
