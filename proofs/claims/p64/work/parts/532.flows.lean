/-! flows -/
theorem clT_Q {α β : Type} {R : Option β → Prop} {x : Option (Except Nat α × Mem)} {v : α} {Q : Mem → Prop} {k : α → Mem → Option β} {ke : Nat → Mem → Option β} (h : ∃ M', x = some (.ok v, M') ∧ Q M') (K : ∀ M', Q M' → R (k v M')) : R (clT x k ke) := by
  obtain ⟨M', e, q⟩ := h
  rw [e]
  exact K M' q
theorem thr_of {α : Type} {e : Nat} {M : Mem} {x : Option (Except Nat α × Mem)} {k : α → Mem → Option (Except Nat Int64 × Mem)} (h : x = some (.error e, M)) (he : e < 3) : clT (clT x k pr) (fun _ _ => none) (fun e M3 => if e = 0 then some ((1 : Int32), M3) else if e = 1 then some (2, M3) else if e = 2 then some (3, M3) else none) = some (nI (e + 1), M) := by
  rw [h]
  have : e = 0 ∨ e = 1 ∨ e = 2 := by omega
  rcases this with c | c | c <;> subst c <;> rfl
theorem flows82 {Z b x t c0 K : Nat} {P S : Nat → Int32} {wr : Nat → Nat} {x5 t16 : Int32} {x6 : Int64} {R : Option (Int32 × Mem) → Prop} {k : Mem → Nat → Option (Int32 × Mem)} (hZ : 60 < Z) (hx : x < cN P) (ht : t ≤ 4) (hc0 : c0 + 12 ≤ 700) (hK : ∀ M c, LI b K P S wr M → c ≤ c0 + 12 → R (k M c)) : ∀ d fu a M c, a + d = cM P x → d < fu → LI b K P S wr M → c ≤ c0 + 4 * a → R (f_L_flows_L82 (shB b) Z (nI t) x5 x6 (nI x) (lN (fNow P (sW9 S) (pn S 0) t x)) t16 k fu (nI a) M c) := by
  intro d
  induction d with
  | zero =>
    intro fu a M c hb hd h hc
    obtain ⟨fu, rfl⟩ := Nat.exists_eq_succ_of_ne_zero (Nat.ne_of_gt hd)
    have hm := h.C.z.2.1 x
    rw [f_L_flows_L82, h.mny hx]
    exact ifp_R (by rw [nI_ile (by omega) (by omega)]; omega) (hK M c h (by omega))
  | succ d ih =>
    intro fu a M c hb hd h hc
    obtain ⟨fu, rfl⟩ := Nat.exists_eq_succ_of_ne_zero (show fu ≠ 0 by omega)
    have hm := h.C.z.2.1 x
    have hz := h.hz
    rw [f_L_flows_L82, h.mny hx]
    refine ifn_R (by rw [nI_ile (by omega) (by omega)]; omega) (bd_R ?_)
    rw [hz.1]
    by_cases ct : pn S 1 ≤ t
    · exact ifp_R (by rw [nI_ile (by omega) (by omega)]; exact ct) (hK M c h (by omega))
    · refine ifn_R (by rw [nI_ile (by omega) (by omega)]; exact ct) (ifp_R (by omega) (clT_Q (q_use hZ h.C hx (by omega) (by omega)) (fun M1 hf => ?_)))
      have h1 := h.scr (fr3 hf)
      rw [h1.wt hx (by omega), show nI a + (1 : Int32) = nI (a + 1) from nI_add a 1]
      exact ifp_R rfl (ih fu (a + 1) M1 _ (by omega) (by omega) h1 (by omega))
theorem brk_s {f : Nat → Bool} {x : Nat} : brk f (x + 1) = brk f x ||| (if f x = true then (nI 1 <<< (nI x &&& 31)) else 0) := by
  show (if f x then brk f x ||| (nI 1 <<< (nI x &&& 31)) else brk f x) = _
  by_cases c : f x = true
  · rw [if_pos c, if_pos c]
  · rw [if_neg c, if_neg c, Int32.or_zero]
theorem flows21 {Z b t c0 K : Nat} {P S : Nat → Int32} {wr : Nat → Nat} {R : Option (Int32 × Mem) → Prop} {k : Int32 → Int64 → Mem → Nat → Option (Int32 × Mem)} (hZ : 60 < Z) (hN4 : cN P ≤ 4) (ht : t ≤ pn S 1) (hH : pn S 1 ≤ 4) (hc0 : c0 + 100 ≤ 700) (hK : ∀ M c, LI b K P S wr M → c ≤ c0 + 88 → R (k (brk (rF P S t) (cN P)) (lN (sm (cN P) (fl9 P S t))) M c)) : ∀ d fu x M c, x + d = cN P → d < fu → LI b K P S wr M → c ≤ c0 + 22 * x → R (f_L_flows_L21 (shB b) Z (nI t) k fu (brk (rF P S t) x) (lN (sm x (fl9 P S t))) (nI x) M c) := by
  intro d
  induction d with
  | zero =>
    intro fu x M c hb hd h hc
    obtain ⟨fu, rfl⟩ := Nat.exists_eq_succ_of_ne_zero (Nat.ne_of_gt hd)
    obtain rfl : x = cN P := hb
    rw [f_L_flows_L21]
    refine bd_R ?_
    rw [h.P.1]
    exact ifp_R (Int32.le_refl _) (hK M c h (by omega))
  | succ d ih =>
    intro fu x M c hb hd h hc
    obtain ⟨fu, rfl⟩ := Nat.exists_eq_succ_of_ne_zero (show fu ≠ 0 by omega)
    have hx : x < cN P := by omega
    rw [f_L_flows_L21]
    refine bd_R ?_
    rw [h.P.1]
    refine ifn_R (by rw [nI_ile (by omega) (by omega)]; omega) (ifp_R (by omega) (cl_R1 (l_flow (by omega) h hx (by omega)) ?_))
    refine ifp_R (by omega) (clT_Q (q_flow hZ h.C hx ht) (fun M1 hf => ifp_R rfl ?_))
    have h1 := h.scr (fr3 hf)
    have eF : lN (sm x (fl9 P S t)) + lN (fNow P (sW9 S) (pn S 0) t x) = lN (sm (x + 1) (fl9 P S t)) := by rw [lN_add]; rfl
    refine jn_R (fun t16 : Int32 => t16 = if rF P S t x = true then (nI 1 <<< (nI x &&& 31)) else 0) (fun t16 h16 => ?_) (fun j hj => ?_)
    · refine flows82 (c0 := c + 6 + 4) hZ hx (by omega) (by omega) (fun M2 c2 h2 hc2 => ?_) (cM P x) Z 0 M1 (c + 6 + 4) (by omega) (by have := h.C.z.2.1 x; omega) h1 (by omega)
      rw [h16, ← brk_s, eF, show nI x + (1 : Int32) = nI (x + 1) from nI_add x 1]
      exact ih fu (x + 1) M2 c2 (by omega) (by omega) h2 (by omega)
    · by_cases cf : lN (fNow P (sW9 S) (pn S 0) t x) ≤ (0 : Int64)
      · refine ifp_R cf (hj 0 ?_)
        rw [if_neg (show ¬ rF P S t x = true by unfold rF; simp [cf])]
      · refine ifn_R cf (hj _ ?_)
        rw [if_pos (show rF P S t x = true by unfold rF; simp [cf])]
        rfl
theorem flows146 {sh : Nat → Option SE} {Z t : Nat} {y29 : Int32} {y30 : Int64} {M : Mem} {c : Nat} {R : Option (Int32 × Mem) → Prop} {k : Int64 → Option (Int32 × Mem)} (hZ : 60 < Z) (ht : t ≤ 4) (hK : R (k (lN (1000 ^ t)))) : R (f_L_flows_L146 sh Z (nI t) y29 y30 M c k Z (1 : Int64) (0 : Int32)) := by
  rw [i0]
  refine lpS (σ := Int64) (fun m i s => f_L_flows_L146 sh Z (nI t) y29 y30 M c k m s (nI i)) R (fun i s => s = lN (1000 ^ i)) 0 t (s := (1 : Int64)) (by omega) (by omega) (by decide) ?_ ?_
  · intro m i s h1 hi hI K
    rw [f_L_flows_L146, if_neg (by rw [nI_ile (by omega) (by omega)]; omega), show nI i + (1 : Int32) = nI (i + 1) from nI_add i 1]
    refine K _ ?_
    rw [hI, show (1000 : Int64) = lN 1000 from rfl, lN_mul, Nat.pow_succ]
  · intro m s hI
    rw [f_L_flows_L146, if_pos (Int32.le_refl _), hI]
    exact hK
theorem flows2 {Z b K : Nat} {P S : Nat → Int32} {wr : Nat → Nat} {R : Option (Int32 × Mem) → Prop} {k : Mem → Nat → Option (Int32 × Mem)} (hZ : 60 < Z) (hN4 : cN P ≤ 4) (hH : pn S 1 ≤ 4) (hK : ∀ M c, LI b K P S wr M → c ≤ 450 → R (k M c)) : ∀ d fu t M c, t + d = pn S 1 + 1 → d < fu → LI b K P S wr M → c ≤ 90 * t → R (f_L_flows_L2 (shB b) Z k fu (nI t) M c) := by
  intro d
  induction d with
  | zero =>
    intro fu t M c hb hd h hc
    obtain ⟨fu, rfl⟩ := Nat.exists_eq_succ_of_ne_zero (Nat.ne_of_gt hd)
    rw [f_L_flows_L2]
    refine bd_R ?_
    rw [h.hz.1]
    exact ifp_R (by rw [nI_ilt (by omega) (by omega)]; omega) (hK M c h (by omega))
  | succ d ih =>
    intro fu t M c hb hd h hc
    obtain ⟨fu, rfl⟩ := Nat.exists_eq_succ_of_ne_zero (show fu ≠ 0 by omega)
    rw [f_L_flows_L2]
    refine bd_R ?_
    rw [h.hz.1]
    refine ifn_R (by rw [nI_ilt (by omega) (by omega)]; omega) ?_
    refine flows21 (c0 := c) hZ hN4 (by omega) hH (by omega) (fun M1 c1 h1 hc1 => ?_) (cN P) Z 0 M c (by omega) (by omega) h (by omega)
    have hs : sm (cN P) (fl9 P S t) = 1000 ^ t := Fl_1000 h.st.2 (fun x hx => Tp_sum h.C.1 h.C.s x hx) t
    refine flows146 hZ (by omega) (ifp_R (by rw [hs]) (ifp_R (by omega) (clT_Q (q_reach hZ h1.C (by omega)) (fun M2 hf => ifp_R rfl ?_))))
    rw [show nI t + (1 : Int32) = nI (t + 1) from nI_add t 1]
    exact ih fu (t + 1) M2 _ (by omega) (by omega) (h1.scr (fr3 hf)) (by omega)
theorem flows_ok {Z b K : Nat} {P S : Nat → Int32} {wr : Nat → Nat} {M : Mem} (hZ : 60 < Z) (h : LI b K P S wr M) : ∃ M', f_L_flows (shB b) Z M = some (1, M') ∧ LI b K P S wr M' := by
  obtain ⟨R, hRR⟩ : ∃ R : Option (Int32 × Mem) → Prop, R = fun x => ∃ M', x = some (1, M') ∧ LI b K P S wr M' := ⟨_, rfl⟩
  suffices H : R (f_L_flows (shB b) Z M) by rw [hRR] at H; exact H
  have hfin : ∀ M1, LI b K P S wr M1 → R (some (1, M1)) := fun M1 h1 => by rw [hRR]; exact ⟨M1, rfl, h1⟩
  clear hRR
  have hN4 := h.2.1.1
  have hz := h.hz
  unfold f_L_flows
  refine flows2 hZ hN4 hz.2.2 (fun M1 c1 h1 hc1 => bd_R ?_) (pn S 1 + 1) Z 0 M 0 (by omega) (by omega) h (by omega)
  have hz1 := h1.hz
  have hC := h1.C
  have hN := hC.N
  have t4 : f_L_thrown_4 Z M1 (nI (pn S 1 + 1)) (0 : Int32) (0 : Int32) = some (3, M1) := by
    have e : f_X11_reach Z M1 (nI (pn S 1 + 1)) = some (.error 2, M1) := by
      unfold f_X11_reach
      rw [needTime1 hC.c.1 hC.N hC.hz.1 hC.hz.2.2, if_neg (fun z => by
        obtain ⟨a, ha, e⟩ := inR_nI z
        rw [nI_eqx (by omega) (by omega)] at e
        omega)]
      rfl
    exact thr_of e (by decide)
  have t6 : f_L_thrown_6 Z M1 (0 : Int32) (-1 : Int32) (0 : Int32) = some (3, M1) := by
    have e : f_X11_flow Z M1 (0 : Int32) (-1 : Int32) = some (.error 2, M1) := by
      unfold f_X11_flow
      rw [i0, hC.nS (by omega), clT_ok, needTime1 hC.c.1 hC.N hC.hz.1 hC.hz.2.2, if_neg (fun z => by
        obtain ⟨a, ha, e⟩ := inR_nI z
        exact nI_ne_neg (x := a) (by omega) e.symm)]
      rfl
    exact thr_of e (by decide)
  have t7 : f_L_thrown_7 Z M1 (0 : Int32) (0 : Int32) (nI (pn S 1)) = some (3, M1) := by
    have e : f_X11_use Z M1 (0 : Int32) (0 : Int32) (nI (pn S 1)) = some (.error 2, M1) := by
      have hm := hC.1.2.2.2.1 0 (by omega)
      unfold f_X11_use
      rw [i0, hC.nA (x := 0) (a := 0) (by omega) (by omega), clT_ok, bd_eq, hC.hz.1, needRangeN (a := 0) (b := pn S 1 - 1) (by decide) (by rw [show (1 : Int32) = nI 1 from rfl, nI_sub (by omega), nI_toInt (by omega)]), if_neg (fun z => by
        obtain ⟨a, ha, hb, e⟩ := inN_nI z
        rw [nI_eqx (by omega) (by omega)] at e
        omega)]
      rfl
    exact thr_of e (by decide)
  rw [hz1.1, show nI (pn S 1) + (1 : Int32) = nI (pn S 1 + 1) from nI_add _ 1]
  refine ifp_R (by omega) (cl_R1 t4 (ifp_R rfl (ifp_R (by omega) (cl_R1 t6 (ifp_R rfl (bd_R ?_))))))
  rw [hz1.1]
  exact ifp_R (by omega) (cl_R1 t7 (ifp_R rfl (ifp_R (by omega) (hfin M1 h1))))
