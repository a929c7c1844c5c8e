/-! the law, from its first call to its last -/
theorem nInot {N a : Nat} (h : N ≤ a) (ha : a < 2 ^ 31) : ¬ inR (nI a) N := fun z => by
  obtain ⟨b, hb, e⟩ := inR_nI z
  rw [nI_eqx ha (by omega)] at e
  omega
theorem law_e_ok {Z b K c : Nat} {P S : Nat → Int32} {wr : Nat → Nat} {M : Mem} {R : Option (Unit × Mem) → Prop} {kr : Mem → Option (Unit × Mem)} (hZ : 60 < Z) (h : LI b K P S wr M) (hc : c ≤ 280000) (hK : ∀ M', R (kr M')) : R (f_law_e (shB b) Z kr M c) := by
  have hC := h.C
  have hN := hC.N
  have hm0 := hC.1.2.2.2.1 0 (by omega)
  have hm3 := hC.z.2.1 0
  have hB3 := hC.b.2
  have t1 : f_L_thrown_0 Z M (nI (cN P)) (0 : Int32) (0 : Int32) = some (2, M) := by
    have e : f_X11_gain Z M (nI (cN P)) (0 : Int32) = some (.error 1, M) := by
      unfold f_X11_gain
      rw [needActionX hC.c.1 hN (nInot (Nat.le_refl _) (by omega))]
      rfl
    exact thr_of e (by decide)
  have t2 : f_L_thrown_0 Z M (0 : Int32) (nI (cM P 0)) (0 : Int32) = some (2, M) := by
    have e : f_X11_gain Z M (0 : Int32) (nI (cM P 0)) = some (.error 1, M) := by
      unfold f_X11_gain
      rw [i0, needAction1 hC.c hC.z hN.1 (a := 0) (by omega), if_neg (nInot (Nat.le_refl _) (by omega))]
      rfl
    exact thr_of e (by decide)
  have t3 : f_L_thrown_3 Z M (nI (cB P)) (0 : Int32) (0 : Int32) = some (2, M) := by
    have e : f_X11_limit Z M (nI (cB P)) = some (.error 1, M) := by
      unfold f_X11_limit
      rw [needBudget1 hC.c.1 hN hC.b.1 hB3, if_neg (nInot (Nat.le_refl _) (by omega))]
      rfl
    exact thr_of e (by decide)
  have t4 : f_L_thrown_2 Z M (0 : Int32) (0 : Int32) (nI (cN P)) = some (2, M) := by
    have e : f_X11_percent Z M (0 : Int32) (0 : Int32) (nI (cN P)) = some (.error 1, M) := by
      unfold f_X11_percent
      rw [i0, hC.nA (x := 0) (a := 0) (by omega) (by omega), clT_ok, needState1 hC.c.1 hN, if_neg (nInot (Nat.le_refl _) (by omega))]
      rfl
    exact thr_of e (by decide)
  have t5 : f_L_thrown_21 Z M (6 : Int32) (0 : Int32) (0 : Int32) = some (3, M) := by
    have e : f_X11_setHorizon Z M (6 : Int32) = some (.error 2, M) := by
      unfold f_X11_setHorizon
      rw [hC.nC, clT_ok, needRangeN (a := 1) (b := 5) (by decide) (by decide), if_neg (by unfold inN; decide)]
      rfl
    exact thr_of e (by decide)
  have r0 : ∀ {hi : Nat}, hi < 1000 → f_X11_needRange Z M (0 : Int32) (0 : Int32) (nI hi) = some (.ok (), M) := fun {hi} hh => rng (w := 0) (hi := hi) (Nat.zero_le _) hh
  have t6 : f_L_thrown_17 Z M (0 : Int32) (9 : Int32) (0 : Int32) = some (3, M) := by
    have e : f_X11_setRule Z M (0 : Int32) (9 : Int32) (0 : Int32) (0 : Int32) = some (.error 2, M) := by
      unfold f_X11_setRule
      rw [show f_X11_needState Z M (0 : Int32) = some (.ok (), M) from hC.nS (x := 0) (by omega), clT_ok, show f_X11_needRange Z M (9 : Int32) (0 : Int32) (10 : Int32) = some (.ok (), M) from rng (w := 9) (hi := 10) (by decide) (by decide), clT_ok, show (0 : Int32) = nI 0 from rfl, rdI_n (by decide) (by decide), hC.c.2.1 0 (by decide), jnT]
      have s : ∀ t6 : Int32, (t6 = nI 0 ∨ t6 = nI 10) → f_X11_needRange Z M (nI 0) (nI 0) t6 = some (.ok (), M) := fun t6 ht => by
        rcases ht with c | c <;> (rw [c]; exact r0 (by decide))
      have ch : ∀ {p : Prop} [Decidable p], (if p then nI 0 else (10 : Int32)) = nI 0 ∨ (if p then nI 0 else (10 : Int32)) = nI 10 := fun {p} _ => by
        by_cases c : p
        · rw [if_pos c]; exact .inl rfl
        · rw [if_neg c]; exact .inr rfl
      rw [s _ ch, clT_ok, rdI_n (by decide) (by decide), hC.c.2.1 0 (by decide), jnT, s _ ch, clT_ok, if_neg (by decide)]
    exact thr_of e (by decide)
  have t7 : f_L_thrown_17 Z M (0 : Int32) (11 : Int32) (-1 : Int32) = some (3, M) := by
    have e : f_X11_setRule Z M (0 : Int32) (11 : Int32) (-1 : Int32) (0 : Int32) = some (.error 2, M) := by
      unfold f_X11_setRule
      rw [show f_X11_needState Z M (0 : Int32) = some (.ok (), M) from hC.nS (x := 0) (by omega), clT_ok, needRangeN (a := 0) (b := 10) (by decide) (by decide), if_neg (by unfold inN; decide)]
      rfl
    exact thr_of e (by decide)
  have t8 : f_L_thrown_20 Z M (nI (cB P)) (0 : Int32) (0 : Int32) = some (2, M) := by
    have e : f_X11_setLimit Z M (nI (cB P)) (0 : Int32) = some (.error 1, M) := by
      unfold f_X11_setLimit
      rw [needBudget1 hC.c.1 hN hC.b.1 hB3, if_neg (nInot (Nat.le_refl _) (by omega))]
      rfl
    exact thr_of e (by decide)
  have t9 : f_L_thrown_15 Z M (201 : Int32) (0 : Int32) (0 : Int32) = some (3, M) := by
    have e : f_X11_gainOfWalks Z M (201 : Int32) = some (.error 2, M) := by
      unfold f_X11_gainOfWalks
      rw [hC.nC, clT_ok, needRangeN (a := 1) (b := 200) (by decide) (by decide), if_neg (by unfold inN; decide)]
      rfl
    exact thr_of e (by decide)
  have e111 : gI M 111 0 = nI (cM P 0) := h.P.2.2.1 0 (by omega)
  unfold f_law_e
  refine bd_R ?_
  rw [h.P.1]
  refine ifp_R (by omega) (cl_R1 t1 (ifp_R rfl (rdI_R i0 (by decide) (by decide) ?_)))
  rw [e111]
  refine ifp_R (by omega) (cl_R1 t2 (ifp_R rfl (bd_R ?_)))
  rw [h.P.2.1]
  refine ifp_R (by omega) (cl_R1 t3 (ifp_R rfl (bd_R ?_)))
  rw [h.P.1]
  refine ifp_R (by omega) (cl_R1 t4 (ifp_R rfl (ifp_R (by omega) (cl_R1 t5 (ifp_R rfl (ifp_R (by omega) (cl_R1 t6 (ifp_R rfl (ifp_R (by omega) (cl_R1 t7 (ifp_R rfl (bd_R ?_))))))))))))
  rw [h.P.2.1]
  obtain ⟨M1, f1, h1⟩ := flows_ok hZ h
  obtain ⟨M2, f2, h2⟩ := runs_ok hZ h1
  have f3 := isLike_ok (Z := Z) (by omega) (show 212 ≤ b by have := h2.2.1.2.2.1; omega) h2.C h2.P h2.S h2.R h2.2.1.1
  refine ifp_R (by omega) (cl_R1 t8 (ifp_R rfl (ifp_R (by omega) (cl_R1 t9 (ifp_R rfl ?_)))))
  refine ifp_R (by omega) (cl_R1 f1 (ifn_R (by decide) (ifp_R (by omega) (cl_R1 f2 (ifn_R (by decide) (ifp_R (by omega) (cl_R1 f3 (ifn_R (by decide) (ifp_R (by omega) (hK M2))))))))))
theorem nI_prd {t : Nat} : nI (t + 1) + (-1 : Int32) = nI t := by
  rw [show nI (t + 1) = nI t + (1 : Int32) from (nI_add t 1).symm, Int32.add_assoc, show (1 : Int32) + (-1 : Int32) = 0 by decide, Int32.add_zero]
theorem law_l_ok {Z L : Nat} {xs : Nat → Int32} {P : Nat → Int32} (hZ : 60 < Z) (hL : L < 2147483647) : ∀ (t n b K c : Nat) (S : Nat → Int32) (wr : Nat → Nat) (M : Mem), t < n → b + t ≤ 290 → K + 8 * t ≤ 10000 → c + 1700 * t ≤ 280000 → LI b K P S wr M → ∃ rM, f_law_l Z L xs n M b (nI t) c = some rM := by
  intro t
  induction t with
  | zero =>
    intro n b K c S wr M hn hb hK hc h
    obtain ⟨n, rfl⟩ := Nat.exists_eq_succ_of_ne_zero (Nat.ne_of_gt hn)
    have hb1 := h.2.1.2.2.1
    rw [f_law_l, if_pos ⟨hb1, by omega⟩]
    unfold f_law_c
    rw [if_pos (by decide)]
    exact law_e_ok (R := fun x => ∃ rM, x = some rM) hZ h (by omega) (fun M' => ⟨_, rfl⟩)
  | succ t ih =>
    intro n b K c S wr M hn hb hK hc h
    obtain ⟨n, rfl⟩ := Nat.exists_eq_succ_of_ne_zero (show n ≠ 0 by omega)
    have hb1 := h.2.1.2.2.1
    rw [Nat.mul_add, Nat.mul_one] at hc hK
    have ht165 : t ≤ 165 := by omega
    have ht0 : (0 : Nat) < t + 1 := Nat.succ_pos t
    have n0 : ¬ nI (t + 1) ≤ 0 := by
      rw [show (0 : Int32) = nI 0 from rfl, nI_ile (by omega) (by decide)]
      omega
    have key : ∀ k, k ≤ 1700 → c + k ≤ 290000 := fun k hk => Nat.le_trans (Nat.add_le_add_left (Nat.le_trans hk (Nat.le_add_left 1700 (1700 * t))) c) (Nat.le_trans hc (by decide))
    have q1 : c + 700 ≤ 290000 := key 700 (by decide)
    have q2 : c + 700 + 700 ≤ 290000 := by rw [Nat.add_assoc]; exact key _ (by decide)
    have q3 : c + 700 + 700 + 80 ≤ 290000 := by rw [Nat.add_assoc, Nat.add_assoc]; exact key _ (by decide)
    have q4 : c + 700 + 700 + 80 + 220 ≤ 290000 := by rw [Nat.add_assoc, Nat.add_assoc, Nat.add_assoc]; exact key _ (by decide)
    have q5 : c + 700 + 700 + 80 + 220 + 1700 * t ≤ 280000 := by
      rw [show c + 700 + 700 + 80 + 220 + 1700 * t = c + (1700 * t + 1700) from (by
        rw [Nat.add_assoc c, Nat.add_assoc c, Nat.add_assoc c, Nat.add_assoc c, Nat.add_comm (1700 * t)])]
      exact hc
    clear key hc
    obtain ⟨R, hR⟩ : ∃ R : Option (Unit × Mem) → Prop, R = fun x => ∃ rM, x = some rM := ⟨_, rfl⟩
    suffices H : R (f_law_l Z L xs (n + 1) M b (nI (t + 1)) c) by rw [hR] at H; exact H
    have hih : ∀ b K c S wr M, b + t ≤ 290 → K + 8 * t ≤ 10000 → c + 1700 * t ≤ 280000 → LI b K P S wr M → R (f_law_l Z L xs n M b (nI t) c) := fun b K c S wr M h1 h2 h3 h4 => by rw [hR]; exact ih n b K c S wr M (by omega) h1 h2 h3 h4
    clear hR
    obtain ⟨M1, f1, h1⟩ := flows_ok hZ h
    obtain ⟨M2, f2, h2⟩ := runs_ok hZ h1
    obtain ⟨b2, M3, S', wr', f3, g1, g2, h3⟩ := law_act (xs := xs) hZ hL h2 (by omega) (by omega)
    have f4 := isLike_ok (Z := Z) (by omega) (show 212 ≤ b2 by omega) h3.C h3.P h3.S h3.R h3.2.1.1
    rw [f_law_l, if_pos ⟨hb1, by omega⟩]
    unfold f_law_c
    refine ifn_R n0 (ifp_R q1 (cl_R1 f1 (ifn_R (by decide) (ifp_R q2 (cl_R1 f2 (ifn_R (by decide) (ifp_R q3 (cl_R1 f3 (ifp_R ⟨by omega, by omega⟩ ?_)))))))))
    unfold f_law_d
    refine ifn_R (by decide) (ifp_R q4 (cl_R1 f4 (ifn_R (by decide) ?_)))
    rw [nI_prd]
    exact hih b2 (K + 8) (c + 700 + 700 + 80 + 220) S' wr' M3 (by omega) (by omega) q5 h3
theorem layerB (L : Nat) (xs : Nat → Int32) (hL : L ≤ 260) : ∃ Z rM, f_law Z L xs = some rM := by
  have hL2 : L < 2147483647 := by omega
  obtain ⟨Z, hZe⟩ : ∃ Z : Nat, Z = 10000 := ⟨_, rfl⟩
  have hZ : 4000 < Z := by omega
  refine ⟨Z, ?_⟩
  obtain ⟨u, M2, e1, hB⟩ := bg_ok (Z := Z) (L := L) (xs := xs) hL2 (by omega)
  obtain ⟨n, nb, h, s, st, t1, t2, t3, hI⟩ := hB.2.2.2
  have hzc := hB.zc
  obtain ⟨c1, c2, -⟩ := ceC hzc
  obtain ⟨T, hTC, hlen, M', P, eT, p1, p2, hC, hRL, hz, hfr⟩ := tell_ok (sh := shB 214) hZ hB hI
  have hLI := LI.start hB hI hC hRL hz hfr
  obtain ⟨m9, hSB⟩ := hTC.1
  have hcnt : (gI (mmC M2) 210 3).toNatClampNeg = T.length := hSB.cnt
  unfold f_law
  rw [e1, cl_some, if_pos ⟨hzc, hB.kb⟩]
  have hmm := hI.2.2.2.2.1.many
  have k0 := mmC_I
  refine law_a_ok (R := fun x => ∃ rM, x = some rM) (n := n) (mm := pn (gI M2 111)) (by omega) (by rw [(c2 3 (by decide)).1]; exact k0.1) (by rw [(c2 10 (by decide)).1]; exact k0.2.1) (by rw [(c2 35 (by decide)).1]; exact k0.2.2.1) (by rw [(c2 105 (by decide)).1]; exact k0.2.2.2.1) hI.1.1.2 (by rw [(c1 109 (by decide)).1]; exact hI.2.1.1) (fun x hx => by rw [(c1 111 (by decide)).1]; exact (hmm x hx).1) ?_
  have z2 : ∀ o, o = 212 ∨ o = 213 → zeroM o (mmC M2) := fun o ho => by
    have := hB.z o (by omega) (by omega)
    unfold zeroM
    rw [(c1 o (by omega)).1, (c1 o (by omega)).2.1, (c1 o (by omega)).2.2]
    exact this
  rw [if_pos ⟨⟨_, m9, hSB⟩, z2 212 (.inl rfl), z2 213 (.inr rfl), by decide⟩, hcnt]
  have ea4 : nI (sm (cN P) (cM P)) = nI (sm n (pn (gI M2 111))) := by
    rw [hRL.1]
    congr 1
    exact sm_congr (fun x hx => by
      have e := (hRL.2.2.2.2 x hx).1
      have := hC.z.2.1 x
      rw [pn_n e (by omega)])
  have eP : f_X11_parseError Z M' = some (0, M') := by unfold f_X11_parseError; rw [bd_eq, p1]
  have eQ : f_X11_errorPosition Z M' = some (-1, M') := by unfold f_X11_errorPosition; rw [bd_eq, p2]
  have eL := isLike_ok (Z := Z) (by omega) (show 212 ≤ 214 by decide) hLI.C hLI.P hLI.S hLI.R hLI.2.1.1
  obtain ⟨R, hR⟩ : ∃ R : Option (Unit × Mem) → Prop, R = fun x => ∃ rM, x = some rM := ⟨_, rfl⟩
  have hfin : ∀ t M3, t ≤ 7 → LI 214 301 P (S0 P) (fun x => 120 + x) M3 → R (f_law_l Z L xs Z M3 214 (nI t) 263086) := fun t M3 ht h3 => by
    rw [hR]
    exact law_l_ok (by omega) hL2 t Z 214 301 263086 (S0 P) (fun x => 120 + x) M3 (by omega) (by omega) (by omega) (by omega) h3
  suffices H : R (f_law_b (shB 214) Z L xs (nI (sm n (pn (gI M2 111)))) (fun t M5 c5 => f_law_l Z L xs Z M5 214 t c5) (tsM (mmC M2) T.length) (262006 + 400)) by rw [hR] at H; exact H
  unfold f_law_b
  refine ifp_R (by decide) (cl_R1 eT (ifp_R ea4 (ifp_R (by decide) (cl_R1 eP (ifp_R rfl (ifp_R (by decide) (cl_R1 eQ (ifp_R rfl (ifp_R (by decide) (cl_R1 eL (ifn_R (by decide) (ifp_R (by decide) ?_))))))))))))
  exact next_L hLI (by decide) hL2 i1 rfl (a := 1) (c := 7) (by decide) (by decide) (fun t M3 _ ht h3 => hfin t M3 ht h3)
