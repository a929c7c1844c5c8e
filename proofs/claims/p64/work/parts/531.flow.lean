/-! the law's flow -/
def LI0 (b : Nat) (P S : Nat → Int32) (wr : Nat → Nat) (M : Mem) : Prop := (HasC P S M ∧ LwP P M ∧ LwS P S wr M ∧ LwR wr b M) ∧ (cN P ≤ 4 ∧ pn S 1 ≤ 4 ∧ 214 ≤ b ∧ b ≤ 300)
theorem LI.to0 {b K : Nat} {P S : Nat → Int32} {wr : Nat → Nat} {M : Mem} (h : LI b K P S wr M) : LI0 b P S wr M := ⟨h.1, h.2.1⟩
theorem LI0.gg {b : Nat} {P S : Nat → Int32} {wr : Nat → Nat} {M M' : Mem} (h : LI0 b P S wr M) (e1 : gI M' = gI M) (e2 : gR M' = gR M) : LI0 b P S wr M' := by
  unfold LI0 HasC RP RS KeC RoT LwP LwS LwR RW RWw at h ⊢
  rw [e1, e2]
  exact h
theorem l_step0 {Z b x y : Nat} {P S : Nat → Int32} {wr : Nat → Nat} {M : Mem} (hZ : 10 ≤ Z) (h : LI0 b P S wr M) (hx : x < cN P) (hy : y < 6) : f_X12_step (shB b) Z M (nI x) (nI y) = some (nI (TT P S x y), M) := by
  obtain ⟨⟨hC, hP, hS, hR⟩, hN4, -, hb, -⟩ := h
  have hm := hC.z.2.1 x
  unfold f_X12_step
  rw [i0]
  refine lpS (σ := Nat) (fun n a s => f_X12_step_L5 (shB b) Z M (nI x) (nI y) n (nI s) (nI a)) (fun r => r = some (nI (TT P S x y), M)) (fun a s => s = sm a (fun a => sW9 S (x * 3 + a) * cP P (x * 3 + a) y)) 0 (cM P x) (s := 0) (by omega) (by omega) rfl ?_ ?_
  · intro n a s _ ha hI K
    rw [f_X12_step_L5, rdI_n (by omega) (by decide), hP.2.2.1 x hx, if_neg (by rw [nI_ile (by omega) (by omega)]; omega), rdQ_n (by omega) (by decide) (hR.2.1 x (by omega)) (shQ hR (by omega) x (by omega)), rdI_n (by omega) (by decide), hS.2.1 x hx a (by omega), rdQ_n (by omega) (by decide) (hR.1.1 x (by omega)).2.2.1 (shB_rows (by omega) x (by omega)).2.2.2.1, rdQ_n (by omega) (by decide) (hR.1.2 x (by omega) a (by omega)).2.1 (shB_rows2 (by omega) x (by omega) a (by omega)).2.1, rdI_n hy (by decide), (hP.2.2.2 x hx a ha).2.2.1 y hy, nI_mul, nI_add, show nI a + (1 : Int32) = nI (a + 1) from nI_add a 1]
    exact K _ (by rw [hI]; rfl)
  · intro n s hI
    rw [f_X12_step_L5, rdI_n (by omega) (by decide), hP.2.2.1 x hx, if_pos (Int32.le_refl _), hI]
    rfl
def fl9 (P S : Nat → Int32) (t x : Nat) : Nat := Fl (cN P) (TT P S) (pn S 0) t x
def JL (P S : Nat → Int32) (M0 : Mem) (k : Nat) (M : Mem) : Prop := gI M = gI M0 ∧ gR M = gR M0 ∧ (∀ o, (o < 320 ∨ tO (cN P) k < o) → gL M o = gL M0 o) ∧ ∀ x, x < cN P → gL M (tO (cN P) k) x = lN (fl9 P S k x)
/-- one step of all flows -/
theorem flow_i {Z b k c : Nat} {P S : Nat → Int32} {wr : Nat → Nat} {M0 M : Mem} {p0 p1 k9 : Int32} {R : Option (Int64 × Mem) → Prop} {kx : Mem → Option (Int64 × Mem)} (hZ : 10 ≤ Z) (h0 : LI0 b P S wr M0) (hz : ZT M0) (hk : k < 4) (hJ : JL P S M0 k M) (hK : ∀ M1, JL P S M0 (k + 1) M1 → R (kx M1)) : R (f_X12_flow_i (shB b) Z p0 p1 (tO (cN P) k) (cN P) k9 (tO (cN P) (k + 1)) c kx M) := by
  have hN4 := h0.2.1
  obtain ⟨g1, g2, g3, g4⟩ := hJ
  obtain ⟨Q, hQ⟩ : ∃ Q : Nat → Nat → Mem → Prop, Q = fun x y M1 => gI M1 = gI M0 ∧ gR M1 = gR M0 ∧ (∀ o, (o < 320 ∨ tO (cN P) (k + 1) < o) → gL M1 o = gL M0 o) ∧ (∀ x, x < cN P → gL M1 (tO (cN P) k) x = lN (fl9 P S k x)) ∧ ∀ j, j < cN P → gL M1 (tO (cN P) (k + 1)) j = smL (if j < y then x + 1 else x) (fun i => lN (fl9 P S k i) * lN (TT P S i j)) := ⟨_, rfl⟩
  have q0 : Q 0 0 M := by
    rw [hQ]
    refine ⟨g1, g2, fun o ho => g3 o (by unfold tO at *; omega), g4, fun j hj => ?_⟩
    rw [g3 _ (by unfold tO; omega), if_neg (by omega)]
    exact (hz (tO (cN P) (k + 1)) (by unfold tO; omega) (by unfold tO; omega)).2.1 j
  unfold f_X12_flow_i
  rw [i0]
  refine lpS (σ := Mem) (fun n x M1 => f_X12_flow_L34 (shB b) Z p0 p1 (tO (cN P) k) (cN P) k9 (tO (cN P) (k + 1)) c (fun (M14 : Mem) => kx M14) n (nI x) M1) R (fun x M1 => Q x 0 M1) 0 (cN P) (by omega) (by omega) q0 ?_ ?_
  · intro n x M1 _ hx hI K
    have e1 : gI M1 109 1 = nI (cN P) := by rw [hQ] at hI; rw [hI.1]; exact h0.1.2.1.1
    rw [f_X12_flow_L34, bd_eq, e1, if_neg (by rw [nI_ile (by omega) (by omega)]; omega), i0]
    refine lpS (σ := Mem) (fun m y M2 => f_X12_flow_L46 (shB b) Z p0 p1 (tO (cN P) k) (cN P) k9 (tO (cN P) (k + 1)) c (nI x) (fun (M13 : Mem) => f_X12_flow_L34 (shB b) Z p0 p1 (tO (cN P) k) (cN P) k9 (tO (cN P) (k + 1)) c (fun (M14 : Mem) => kx M14) n (nI x + (1 : Int32)) M13) m (nI y) M2) R (fun y M2 => Q x y M2) 0 (cN P) (by omega) (by omega) hI ?_ ?_
    · intro m y M2 _ hy hI2 K2
      rw [hQ] at hI2
      obtain ⟨a1, a2, a3, a4, a5⟩ := hI2
      have e2 : gI M2 109 1 = nI (cN P) := by rw [a1]; exact h0.1.2.1.1
      have ts : TT P S x y ≤ 1000 := Tp_le h0.1.1.1 h0.1.1.s hx hy
      rw [f_X12_flow_L46, bd_eq, e2, if_neg (by rw [nI_ile (by omega) (by omega)]; omega), rdL_n hy (by omega), rdL_n hx (by omega), l_step0 hZ (h0.gg a1 a2) hx (by omega), cl_some, wrL_n hy (by omega), show nI y + (1 : Int32) = nI (y + 1) from nI_add y 1, a5 y hy, a4 x hx, nI_l (by omega), if_neg (by omega)]
      refine K2 _ ?_
      rw [hQ]
      refine ⟨a1, a2, fun o ho => ?_, fun x hx => ?_, fun j hj => ?_⟩
      · rw [gL_sL', if_neg (by unfold tO at *; omega)]
        exact a3 o ho
      · rw [gL_sL, if_neg (by unfold tO; omega)]
        exact a4 x hx
      · rw [gL_sL]
        by_cases cj : j = y
        · rw [if_pos ⟨rfl, cj⟩, if_pos (by omega), cj]
          rfl
        · rw [if_neg (fun z => cj z.2), a5 j hj]
          by_cases c2 : j < y
          · rw [if_pos c2, if_pos (by omega)]
          · rw [if_neg c2, if_neg (by omega)]
    · intro m M2 hI2
      have hI2' := hI2
      rw [hQ] at hI2'
      obtain ⟨a1, a2, a3, a4, a5⟩ := hI2'
      have e2 : gI M2 109 1 = nI (cN P) := by rw [a1]; exact h0.1.2.1.1
      rw [f_X12_flow_L46, bd_eq, e2, if_pos (Int32.le_refl _), show nI x + (1 : Int32) = nI (x + 1) from nI_add x 1]
      refine K M2 ?_
      rw [hQ]
      refine ⟨a1, a2, a3, a4, fun j hj => ?_⟩
      rw [a5 j hj, if_pos hj, if_neg (by omega)]
  · intro n M1 hI
    have e1 : gI M1 109 1 = nI (cN P) := by rw [hQ] at hI; rw [hI.1]; exact h0.1.2.1.1
    rw [f_X12_flow_L34, bd_eq, e1, if_pos (Int32.le_refl _)]
    rw [hQ] at hI
    obtain ⟨a1, a2, a3, a4, a5⟩ := hI
    refine hK M1 ⟨a1, a2, a3, fun j hj => ?_⟩
    rw [a5 j hj, if_neg (by omega)]
    show _ = lN (sm (cN P) (fun i => fl9 P S k i * TT P S i j))
    rw [← lN_smL]
    exact smL_congr (fun i _ => by rw [lN_mul])
theorem zap_back {M M1 : Mem} (hz : ZT M) (e1 : gI M1 = gI M) (e2 : gR M1 = gR M) (e3 : ∀ o, (o < 320 ∨ 360 < o) → gL M1 o = gL M o) : zapT M1 = M := by
  obtain ⟨A, B, C⟩ := M
  obtain ⟨A1, B1, C1⟩ := M1
  have e1' : A1 = A := e1
  have e2' : C1 = C := e2
  subst e1'
  subst e2'
  unfold zapT
  refine Prod.ext (funext fun o => funext fun k => ?_) (Prod.ext (funext fun o => funext fun k => ?_) rfl)
  · show (if 320 ≤ o ∧ o < 361 then (0 : Int32) else A1 o k) = A1 o k
    by_cases c : 320 ≤ o ∧ o < 361
    · rw [if_pos c]
      exact ((hz o c.1 c.2).1 k).symm
    · rw [if_neg c]
  · show (if 320 ≤ o ∧ o < 361 then (0 : Int64) else B1 o k) = B o k
    by_cases c : 320 ≤ o ∧ o < 361
    · rw [if_pos c]
      exact ((hz o c.1 c.2).2.1 k).symm
    · rw [if_neg c]
      exact congrFun (e3 o (by omega)) k
theorem l_flow {Z b x t K : Nat} {P S : Nat → Int32} {wr : Nat → Nat} {M : Mem} (hZ : 10 ≤ Z) (h : LI b K P S wr M) (hx : x < cN P) (ht : t ≤ 4) : f_X12_flow (shB b) Z M (nI x) (nI t) = some (lN (fNow P (sW9 S) (pn S 0) t x), M) := by
  have hz := h.2.2.1
  have hN4 := h.2.1.1
  have hst := h.st
  obtain ⟨R, hR⟩ : ∃ R : Option (Int64 × Mem) → Prop, R = fun q => q = some (lN (fNow P (sW9 S) (pn S 0) t x), M) := ⟨_, rfl⟩
  have key : ∀ d fu k M1, k + d = t → d < fu → JL P S M k M1 → R (f_X12_flow_o (shB b) Z (nI x) (nI t) (cN P) fu M1 k) := by
    intro d
    induction d with
    | zero =>
      intro fu k M1 hk hd hJ
      obtain ⟨fu, rfl⟩ := Nat.exists_eq_succ_of_ne_zero (Nat.ne_of_gt hd)
      obtain rfl : k = t := hk
      obtain ⟨g1, g2, g3, g4⟩ := hJ
      rw [f_X12_flow_o, if_pos (Int32.le_refl _), rdL_n hx (by omega), g4 x hx, zap_back hz g1 g2 (fun o ho => g3 o (by unfold tO; omega)), hR]
      rfl
    | succ d ih =>
      intro fu k M1 hk hd hJ
      obtain ⟨fu, rfl⟩ := Nat.exists_eq_succ_of_ne_zero (show fu ≠ 0 by omega)
      have hJ' := hJ
      obtain ⟨g1, g2, g3, g4⟩ := hJ'
      have zz : zeroM (tO (cN P) (k + 1)) M1 := by
        unfold zeroM
        rw [g1, g2, g3 _ (by unfold tO; omega)]
        exact hz _ (by unfold tO; omega) (by unfold tO; omega)
      rw [f_X12_flow_o, if_neg (by rw [nI_ile (by omega) (by omega)]; omega), if_pos ⟨show k < 4 by omega, by rw [g1]; exact h.P.1, zz⟩]
      exact flow_i hZ h.to0 hz (by omega) hJ (fun M2 hJ2 => ih fu (k + 1) M2 (by omega) (by omega) hJ2)
  have hcl : (gI M 109 1).toNatClampNeg = cN P := by rw [h.P.1, nI_clamp (by omega)]
  unfold f_X12_flow
  rw [if_pos ⟨by rw [h.P.1]; exact nI_nlt0 (by omega), by rw [hcl]; omega, hz⟩, hcl, hst.1, wrL_n hst.2 (by omega)]
  have := key t Z 0 (sL M (tO (cN P) 0) (pn S 0) 1) (by omega) (by omega) ⟨rfl, rfl, fun o ho => by rw [gL_sL', if_neg (by unfold tO at *; omega)], fun y hy => by
    rw [gL_sL]
    show _ = lN (if y = pn S 0 then 1 else 0)
    by_cases c : y = pn S 0
    · rw [if_pos ⟨rfl, c⟩, if_pos c]
      rfl
    · rw [if_neg (fun z => c z.2), if_neg c]
      exact (hz _ (by unfold tO; omega) (by unfold tO; omega)).2.1 y⟩
  rw [hR] at this
  exact this
