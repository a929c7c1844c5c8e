/-! runs -/
theorem ord_self {d : FP.Core.Datum} (h : d ≠ .nan) : FP.Core.order d d = some .eq := by
  cases d with
  | nan => exact absurd rfl h
  | inf s => simp [FP.Core.order]
  | fin s c q => simp [FP.Core.order]
theorem fcmp_self {r : UInt32} (h : r.toNat % 2 ^ 31 ≤ 2139095040) : FP.fcmp r r = some .eq := ord_self (dec32 h)
theorem uT_b (a : Int64) {S : Nat → Int32} (h5 : pn S 1 ≤ 5) (h1 : 1 ≤ pn S 1) : (FP.fdiv (FP.l2f a) (FP.l2f (uT S))).toNat % 2 ^ 31 ≤ 2139095040 := fdiv_b a (by omega)
theorem q_mean {Z : Nat} {P S : Nat → Int32} {M : Mem} (hZ : 60 < Z) (h : HasC P S M) : ∃ M', f_X11_meanGain Z M = some (.ok (FP.fdiv (FP.l2f (gRun P (sW9 S) (pn S 0) (pn S 1))) (FP.l2f (uT S))), M') ∧ fr [16, 17, 18] M M' := by
  obtain ⟨M1, e1, q1, hF, h1⟩ := follow_C hZ h
  have hz := h1.hz
  refine ⟨M1, ?_, q1⟩
  unfold f_X11_meanGain
  rw [h.nC, clT_ok, e1, cl_some, gain_C hZ h1 hF, cl_some, bd_eq, hz.1, unitOf_eq (by omega) hz.2.1 hz.2.2, cl_some]
  exact okF_k (uT_b _ hz.2.2 hz.2.1)
theorem l_mean' {Z b K : Nat} {P S : Nat → Int32} {wr : Nat → Nat} {M : Mem} (hZ : 10 ≤ Z) (h : LI b K P S wr M) {p2 : Int32} (hp : p2 = -1 ∨ ∃ q, q < 3 ∧ p2 = nI q) : f_X12_mean (shB b) Z M (nI (pn S 0)) (nI (pn S 1)) p2 = some (mnL (cN P) (TT P S) (gq P S p2) (pn S 1) (pn S 0), M) := l_mean hZ h hp (pn S 1) (by have := h.hz; omega) 8 (pn S 0) (by have := h.hz; omega) h.st.2
theorem runs73 {Z b K : Nat} {P S : Nat → Int32} {wr : Nat → Nat} {R : Option (Int32 × Mem) → Prop} {k : Int32 → Mem → Nat → Option (Int32 × Mem)} (hZ : 60 < Z) (hK : ∀ M c, LI b K P S wr M → c ≤ 16 → R (k (brk (brN P S (sW9 S)) (cB P)) M c)) : ∀ d fu i M c, i + d = cB P → d < fu → LI b K P S wr M → c ≤ 3 + 4 * i → R (f_L_runs_L73 (shB b) Z k fu (brk (brN P S (sW9 S)) i) (nI i) M c) := by
  intro d
  induction d with
  | zero =>
    intro fu i M c hb hd h hc
    obtain ⟨fu, rfl⟩ := Nat.exists_eq_succ_of_ne_zero (Nat.ne_of_gt hd)
    obtain rfl : i = cB P := hb
    have h3 := h.C.b.2
    rw [f_L_runs_L73]
    refine bd_R ?_
    rw [h.P.2.1]
    exact ifp_R (Int32.le_refl _) (hK M c h (by omega))
  | succ d ih =>
    intro fu i M c hb hd h hc
    obtain ⟨fu, rfl⟩ := Nat.exists_eq_succ_of_ne_zero (show fu ≠ 0 by omega)
    have h3 := h.C.b.2
    have hi : i < cB P := by omega
    have hz := h.hz
    have hst := h.st
    have em := l_mean' (Z := Z) (by omega) h (p2 := nI i) (.inr ⟨i, by omega, rfl⟩)
    rw [uRun_mn (by omega) hst.2] at em
    have l9 := h.C.s.2.2.2.2.2.2.2.2.1 i (by omega)
    rw [f_L_runs_L73]
    refine bd_R ?_
    rw [h.P.2.1]
    refine ifn_R (by rw [nI_ile (by omega) (by omega)]; omega) (bd_R (bd_R ?_))
    rw [hst.1, hz.1]
    refine ifp_R (by omega) (cl_R1 em (rdI_R' (by omega) (by decide) (h.S.2.2.2.1 i hi) ?_))
    refine ifp_R (by omega) (cl_R1 (l_unit (by omega) h) ?_)
    refine ifp_R (by omega) (clT_Q (q_used hZ h.C hi) (fun M1 hf1 => ifp_R rfl ?_))
    have h1 := h.scr (fr3 hf1)
    refine ifp_R (by omega) (clT_Q (q_left hZ h1.C hi) (fun M2 hf2 => ifp_R rfl ?_))
    have h2 := h1.scr (fr3 hf2)
    have hW := h.C.s.W
    have ub := uN_lt (b := i) (st := pn S 0) h.C.1 hW h.C.hz.2.1 h.C.hz.2.2
    have u9 := unit_le h.C.hz.2.2
    have p9 : pn S (40 + i) * (10 * 1000 ^ (pn S 1 - 1)) ≤ 9999 * 10 ^ 13 := Nat.mul_le_mul l9.2 u9
    have e0 : ((0 : Int64) ≤ (S (40 + i)).toInt64 * uT S - uRun P (sW9 S) i (pn S 0) (pn S 1)) = (uN P (sW9 S) i (pn S 0) (pn S 1) ≤ pn S (40 + i) * (10 * 1000 ^ (pn S 1 - 1))) := by
      rw [l9.1, nI_l (by omega), uRun_lN]
      unfold uT
      rw [lN_mul, lN_sub0 (by omega) ub]
    refine jn_R (fun t41 : Int32 => t41 = if brN P S (sW9 S) i = true then (nI 1 <<< (nI i &&& 31)) else 0) (fun t41 h41 => ?_) (fun j hj => ?_)
    · rw [h41, ← brk_s, show nI i + (1 : Int32) = nI (i + 1) from nI_add i 1]
      exact ih fu (i + 1) M2 _ (by omega) (by omega) h2 (by omega)
    · by_cases cf : uN P (sW9 S) i (pn S 0) (pn S 1) ≤ pn S (40 + i) * (10 * 1000 ^ (pn S 1 - 1))
      · refine ifp_R (by rw [e0]; exact cf) (hj 0 ?_)
        rw [if_neg (show ¬ brN P S (sW9 S) i = true by unfold brN; simp; omega)]
      · refine ifn_R (by rw [e0]; exact cf) (hj _ ?_)
        rw [if_pos (show brN P S (sW9 S) i = true by unfold brN; simp; omega)]
        rfl
/-- the first time so far -/
def FiT (F : Nat → Int64) (H t : Nat) (v : Int32) : Prop := (v = -1 ∧ fT F (H + 1 - t) t = fT F (H + 1) 0) ∨ ((∃ s, s < 10 ∧ v = nI s) ∧ v = fT F (H + 1) 0)
theorem runs195 {Z b x c0 K : Nat} {P S : Nat → Int32} {wr : Nat → Nat} {y43 x46 x47 x48 : Int32} {M : Mem} {R : Option (Int32 × Mem) → Prop} {k : Int32 → Int64 → Mem → Nat → Option (Int32 × Mem)} (hZ : 60 < Z) (h : LI b K P S wr M) (hx : x < cN P) (hc0 : c0 + 60 ≤ 700) (hK : ∀ c, c ≤ c0 + 60 → R (k (fT (fun t => fTab P S t x) (pn S 1 + 1) 0) (vis P S x) M c)) : ∀ d fu t v c, t + d = pn S 1 + 1 → d < fu → FiT (fun t => fTab P S t x) (pn S 1) t v → c ≤ c0 + 12 * t → R (f_L_runs_L195 (shB b) Z y43 x46 x47 x48 (nI x) k fu v (hor (fun t => fTab P S t x) t) (nI t) M c) := by
  intro d
  have hz := h.hz
  induction d with
  | zero =>
    intro fu t v c hb hd hv hc
    obtain ⟨fu, rfl⟩ := Nat.exists_eq_succ_of_ne_zero (Nat.ne_of_gt hd)
    obtain rfl : t = pn S 1 + 1 := hb
    rw [f_L_runs_L195]
    refine bd_R ?_
    rw [hz.1]
    refine ifp_R (by rw [nI_ilt (by omega) (by omega)]; omega) ?_
    have : v = fT (fun t => fTab P S t x) (pn S 1 + 1) 0 := by
      rcases hv with ⟨h1, h2⟩ | ⟨-, h2⟩
      · rw [Nat.sub_self] at h2
        rw [h1, ← h2]
        rfl
      · exact h2
    rw [this]
    exact hK c (by omega)
  | succ d ih =>
    intro fu t v c hb hd hv hc
    obtain ⟨fu, rfl⟩ := Nat.exists_eq_succ_of_ne_zero (show fu ≠ 0 by omega)
    have ef := l_flow (Z := Z) (by omega) h hx (t := t) (by omega)
    have eF : fTab P S t x = lN (fNow P (sW9 S) (pn S 0) t x) := fTab_in (by omega) hx
    rw [f_L_runs_L195]
    refine bd_R ?_
    rw [hz.1]
    refine ifn_R (by rw [nI_ilt (by omega) (by omega)]; omega) (ifp_R (by omega) (cl_R1 ef ?_))
    refine jn_R (fun q : Int32 × Mem × Nat => q.2.1 = M ∧ q.2.2 ≤ c + 12 ∧ FiT (fun t => fTab P S t x) (pn S 1) (t + 1) q.1) (fun q hq => ?_) (fun j64 hj64 => ?_)
    · rw [hq.1, show nI t + (1 : Int32) = nI (t + 1) from nI_add t 1, show (1000 : Int64) * hor (fun t => fTab P S t x) t + lN (fNow P (sW9 S) (pn S 0) t x) = hor (fun t => fTab P S t x) (t + 1) by
        show _ = hor (fun t => fTab P S t x) t * 1000 + fTab P S t x
        rw [eF, Int64.mul_comm]]
      exact ih fu (t + 1) q.1 _ (by omega) (by omega) hq.2.2 (by omega)
    · refine jn_R (fun q : Mem × Nat => q.1 = M ∧ q.2 ≤ c + 12 ∧ FiT (fun t => fTab P S t x) (pn S 1) (t + 1) v) (fun q hq => hj64 _ ⟨hq.1, hq.2.1, hq.2.2⟩) (fun j66 hj66 => ?_)
      rcases hv with ⟨h1, h2⟩ | ⟨⟨s, hs, h1⟩, h2⟩
      · have hst := fT_step (F := fun t => fTab P S t x) (H := pn S 1) (i := t) (by omega)
        rw [h2] at hst
        refine ifn_R (by rw [h1]; decide) (ifp_R (by omega) (cl_R1 ef ?_))
        by_cases cf : lN (fNow P (sW9 S) (pn S 0) t x) ≤ (0 : Int64)
        · rw [if_pos (show (fun t => fTab P S t x) t ≤ 0 by show fTab P S t x ≤ 0; rw [eF]; exact cf)] at hst
          exact ifp_R cf (hj66 _ ⟨rfl, by show c + 6 + 6 ≤ _; omega, .inl ⟨h1, hst.symm⟩⟩)
        · rw [if_neg (show ¬ (fun t => fTab P S t x) t ≤ 0 by show ¬ fTab P S t x ≤ 0; rw [eF]; exact cf)] at hst
          exact ifn_R cf (hj64 _ ⟨rfl, by show c + 6 + 6 ≤ _; omega, .inr ⟨⟨t, by omega, rfl⟩, hst.symm⟩⟩)
      · exact ifp_R (by rw [h1, show (0 : Int32) = nI 0 from rfl, nI_ile (by decide) (by omega)]; omega) (hj66 _ ⟨rfl, by show c + 6 ≤ _; omega, .inr ⟨⟨s, hs, h1⟩, h2⟩⟩)
/-- the states seen, and the one before -/
def SeN (P S : Nat → Int32) (r : Nat) (v bef : Int32) : Prop := (∃ q, q < 64 ∧ v = nI q ∧ ∀ x, x < 6 → q / 2 ^ x % 2 = if x < cN P ∧ rnk (vis P S) (cN P) x < r then 1 else 0) ∧ ((r = 0 ∧ bef = -1) ∨ ∃ y, y < cN P ∧ rnk (vis P S) (cN P) y + 1 = r ∧ bef = nI y)
theorem bef_of {V : Nat → Int64} {N x y : Nat} (hx : x < N) (h : rnk V N y < rnk V N x) : ¬ V y < V x ∧ (V y = V x → y ≤ x) := by
  have hne : y ≠ x := fun e => by rw [e] at h; omega
  have hb : bef V y x = true := by
    rcases bef_tot (V := V) hne with c | c
    · exact c
    · have := rnk_lt (V := V) (N := N) (x := y) (y := x) hx c
      omega
  unfold bef at hb
  rw [Bool.or_eq_true, Bool.and_eq_true, decide_eq_true_eq, decide_eq_true_eq, decide_eq_true_eq] at hb
  rcases hb with c | ⟨c1, c2⟩
  · refine ⟨fun z => absurd (Int64.lt_trans z c) (Int64.lt_irrefl), fun e => ?_⟩
    rw [e] at c
    exact absurd c (Int64.lt_irrefl)
  · exact ⟨fun z => by rw [c1] at z; exact absurd z (Int64.lt_irrefl), fun _ => by omega⟩
theorem runs169 {Z b K : Nat} {P S : Nat → Int32} {wr : Nat → Nat} {y43 : Int32} {R : Option (Int32 × Mem) → Prop} {k : Int32 → Mem → Nat → Option (Int32 × Mem)} (hZ : 60 < Z) (hN4 : cN P ≤ 4) (hK : ∀ M c v bef, LI b K P S wr M → c ≤ 320 → SeN P S (cN P) v bef → R (k v M c)) : ∀ d fu r v bef M c, r + d = cN P → d < fu → LI b K P S wr M → SeN P S r v bef → c ≤ 16 + 76 * r → R (f_L_runs_L169 (shB b) Z y43 k fu v bef (nI r) M c) := by
  intro d
  induction d with
  | zero =>
    intro fu r v bef M c hb hd h hs hc
    obtain ⟨fu, rfl⟩ := Nat.exists_eq_succ_of_ne_zero (Nat.ne_of_gt hd)
    obtain rfl : r = cN P := hb
    rw [f_L_runs_L169]
    refine bd_R ?_
    rw [h.P.1]
    exact ifp_R (Int32.le_refl _) (hK M c v bef h (by omega) hs)
  | succ d ih =>
    intro fu r v bef M c hb hd h hs hc
    obtain ⟨fu, rfl⟩ := Nat.exists_eq_succ_of_ne_zero (show fu ≠ 0 by omega)
    rw [f_L_runs_L169]
    refine bd_R ?_
    rw [h.P.1]
    refine ifn_R (by rw [nI_ile (by omega) (by omega)]; omega) (ifp_R (by omega) ?_)
    obtain ⟨M1, x, e1, f1, hx, hrk⟩ := q_busy hZ h.C (show r < cN P by omega)
    have h1 := h.scr (fr3 f1)
    refine clT_R e1 ?_
    have hz := h1.hz
    refine runs195 (c0 := c + 2) hZ h1 hx (by omega) (fun c2 hc2 => ?_) (pn S 1 + 1) Z 0 (-1) (c + 2) (by omega) (by omega) (.inl ⟨rfl, rfl⟩) (by omega)
    refine ifp_R (by omega) (clT_Q (q_visits hZ h1.C hx) (fun M2 f2 => ifp_R rfl ?_))
    have h2 := h1.scr (fr3 f2)
    refine ifp_R (by omega) (clT_Q (q_first hZ h2.C hx) (fun M3 f3 => ifp_R rfl ?_))
    have h3 := h2.scr (fr3 f3)
    refine ifp_R (by omega) (clT_Q (q_hit hZ h3.C hx) (fun M4 f4 => bd_R (bd_R ?_)))
    have h4 := h3.scr f4
    rw [h4.st.1, h4.hz.1]
    have eh : f_L_hit (shB b) Z M4 (nI (pn S 0)) (nI x) (nI (pn S 1)) = some (hiC P S x, M4) := by
      have := l_hit (Z := Z) (by omega) h4 hx (pn S 1) (by omega) 8 (pn S 0) (by omega) h4.st.2
      rw [htL_hit hx _ _ h4.st.2] at this
      exact this
    refine ifp_R (by omega) (cl_R1 eh (ifp_R rfl ?_))
    obtain ⟨⟨q, hq, ev, hbit⟩, hbef⟩ := hs
    refine jn_R (fun q9 : Mem × Nat => LI b K P S wr q9.1 ∧ q9.2 ≤ c + 76) (fun q9 hq9 => ?_) (fun j hj => ?_)
    · obtain ⟨q', hq', eo, hb'⟩ := bitOr q hq x (by omega)
      rw [ev, eo, show nI r + (1 : Int32) = nI (r + 1) from nI_add r 1]
      refine ih fu (r + 1) (nI q') (nI x) q9.1 _ (by omega) (by omega) hq9.1 ⟨⟨q', hq', rfl, fun y hy => ?_⟩, .inr ⟨x, hx, by omega, rfl⟩⟩ (by omega)
      rw [hb' y hy, hbit y hy]
      by_cases cy : y = x
      · rw [if_pos cy, if_pos ⟨by omega, by rw [cy, hrk]; omega⟩]
      · rw [if_neg cy]
        by_cases c1 : y < cN P ∧ rnk (vis P S) (cN P) y < r
        · rw [if_pos c1, if_pos ⟨c1.1, by omega⟩]
        · rw [if_neg c1, if_neg (fun z => c1 ⟨z.1, by
            have : rnk (vis P S) (cN P) y ≠ r := fun e => cy (rnk_inj z.1 hx (e.trans hrk.symm))
            omega⟩)]
    · rcases hbef with ⟨-, hb1⟩ | ⟨y, hy, hry, hb1⟩
      · exact ifp_R (by rw [hb1]; decide) (hj _ ⟨h4, by show c2 + 2 + 2 + 2 ≤ _; omega⟩)
      · obtain ⟨n1, n2⟩ := bef_of (V := vis P S) hx (show rnk (vis P S) (cN P) y < rnk (vis P S) (cN P) x by omega)
        refine ifn_R (by rw [hb1]; exact nI_nlt0 (by omega)) (ifp_R (by omega) ?_)
        rw [hb1]
        refine clT_Q (q_visits hZ h4.C hy) (fun M5 f5 => ifn_R n1 ?_)
        have h5 := h4.scr (fr3 f5)
        refine ifp_R (by omega) (clT_Q (q_visits hZ h5.C hy) (fun M6 f6 => ?_))
        have h6 := h5.scr (fr3 f6)
        by_cases ce : vis P S y = vis P S x
        · exact ifp_R ce (ifp_R (by rw [nI_ile (by omega) (by omega)]; exact n2 ce) (hj _ ⟨h6, by show c2 + 2 + 2 + 2 + 2 + 2 ≤ _; omega⟩))
        · exact ifn_R ce (hj _ ⟨h6, by show c2 + 2 + 2 + 2 + 2 + 2 ≤ _; omega⟩)
theorem all_bits : ∀ N, N < 5 → ∀ q, q < 64 → (∀ x, x < 6 → q / 2 ^ x % 2 = if x < N then 1 else 0) → nI q = ((1 : Int32) <<< (nI N &&& 31)) - (1 : Int32) := by decide +kernel
theorem runs_ok {Z b K : Nat} {P S : Nat → Int32} {wr : Nat → Nat} {M : Mem} (hZ : 60 < Z) (h : LI b K P S wr M) : ∃ M', f_L_runs (shB b) Z M = some (1, M') ∧ LI b K P S wr M' := by
  obtain ⟨R, hRR⟩ : ∃ R : Option (Int32 × Mem) → Prop, R = fun x => ∃ M', x = some (1, M') ∧ LI b K P S wr M' := ⟨_, rfl⟩
  suffices H : R (f_L_runs (shB b) Z M) by rw [hRR] at H; exact H
  have hfin : ∀ M1, LI b K P S wr M1 → R (some (1, M1)) := fun M1 h1 => by rw [hRR]; exact ⟨M1, rfl, h1⟩
  clear hRR
  have hN4 := h.2.1.1
  have hst := h.st.2
  have hz5 := h.C.hz
  have em : ∀ M1, LI b K P S wr M1 → f_X12_mean (shB b) Z M1 (nI (pn S 0)) (nI (pn S 1)) (-1 : Int32) = some (gRun P (sW9 S) (pn S 0) (pn S 1), M1) := fun M1 h1 => by
    rw [l_mean' (by omega) h1 (.inl rfl), gRun_mn hst]
  have okb := uT_b (gRun P (sW9 S) (pn S 0) (pn S 1)) hz5.2.2 hz5.2.1
  unfold f_L_runs
  refine ifp_R (by decide) (clT_R (q_unit hZ h.C) (ifp_R (by decide) (cl_R1 (l_unit (by omega) h) (ifp_R rfl ?_))))
  refine ifp_R (by decide) (clT_Q (q_gain hZ h.C) (fun M1 f1 => bd_R (bd_R ?_)))
  have h1 := h.scr (fr3 f1)
  rw [h1.st.1, h1.hz.1]
  refine ifp_R (by decide) (cl_R1 (em M1 h1) (ifp_R rfl ?_))
  refine ifp_R (by decide) (clT_Q (q_mean hZ h1.C) (fun M2 f2 => bd_R (bd_R ?_)))
  have h2 := h1.scr (fr3 f2)
  rw [h2.st.1, h2.hz.1]
  refine ifp_R (by decide) (cl_R1 (em M2 h2) (ifp_R (by decide) (cl_R1 (l_unit (by omega) h2) ?_)))
  rw [okF_k okb]
  refine ifp_R (by rw [fcmp_self okb]; rfl) ?_
  refine runs73 hZ (fun M3 c3 h3 hc3 => ?_) (cB P) Z 0 M2 3 (by omega) (by have := h2.C.b.2; omega) h2 (by omega)
  refine runs169 hZ hN4 (fun M4 c4 v bef h4 hc4 hs4 => ?_) (cN P) Z 0 0 (-1) M3 c3 (by omega) (by omega) h3 ⟨⟨0, by decide, rfl, fun x _ => by rw [if_neg (by omega), Nat.zero_div]⟩, .inl ⟨rfl, rfl⟩⟩ (by omega)
  refine ifp_R (by omega) (clT_Q (q_broken hZ h4.C) (fun M5 f5 => ifp_R rfl (bd_R ?_)))
  have h5 := h4.scr (fr3 f5)
  rw [h5.P.1]
  obtain ⟨⟨q, hq, ev, hb⟩, -⟩ := hs4
  refine ifp_R (by
    rw [ev]
    refine all_bits (cN P) (by omega) q hq (fun x hx => ?_)
    rw [hb x hx]
    by_cases c : x < cN P
    · rw [if_pos c, if_pos ⟨c, rnk_N c⟩]
    · rw [if_neg c, if_neg (fun z => c z.1)]) (bd_R ?_)
  have t8 : f_L_thrown_8 Z M5 (nI (cN P)) (0 : Int32) (0 : Int32) = some (2, M5) := by
    have e : f_X11_busiest Z M5 (nI (cN P)) = some (.error 1, M5) := by
      have hC := h5.C
      have hN := hC.N
      unfold f_X11_busiest
      rw [needState1 hC.c.1 hC.N, if_neg (fun z => by
        obtain ⟨a, ha, e⟩ := inR_nI z
        rw [nI_eqx (by omega) (by omega)] at e
        omega)]
      rfl
    exact thr_of e (by decide)
  exact ifp_R (by omega) (cl_R1 t8 (ifp_R rfl (ifp_R (by omega) (hfin M5 h5))))
