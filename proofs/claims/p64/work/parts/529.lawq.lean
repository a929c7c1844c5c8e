/-! the law's own queries -/
theorem LI.C {b K : Nat} {P S : Nat → Int32} {wr : Nat → Nat} {M : Mem} (h : LI b K P S wr M) : HasC P S M := h.1.1
theorem LI.P {b K : Nat} {P S : Nat → Int32} {wr : Nat → Nat} {M : Mem} (h : LI b K P S wr M) : LwP P M := h.1.2.1
theorem LI.S {b K : Nat} {P S : Nat → Int32} {wr : Nat → Nat} {M : Mem} (h : LI b K P S wr M) : LwS P S wr M := h.1.2.2.1
theorem LI.R {b K : Nat} {P S : Nat → Int32} {wr : Nat → Nat} {M : Mem} (h : LI b K P S wr M) : LwR wr b M := h.1.2.2.2
theorem LI.wt {b K : Nat} {P S : Nat → Int32} {wr : Nat → Nat} {M : Mem} {β : Type} (h : LI b K P S wr M) {x a : Nat} (hx : x < cN P) (ha : a < 3) {k : Int32 → Option β} : rdQ M 119 6 (nI x) (shB b) (0, 3) (fun o => rdI M o 3 (nI a) k) = k (nI (sW9 S (x * 3 + a))) := by
  have hN := h.C.N.2
  have hb := h.2.1.2.2.1
  rw [rdQ_n (by omega) (by decide) (h.R.2.1 x (by omega)) (shQ h.R (by omega) x (by omega)), rdI_n ha (by decide), h.S.2.1 x hx a ha]
theorem LI.pct {b K : Nat} {P S : Nat → Int32} {wr : Nat → Nat} {M : Mem} {β : Type} (h : LI b K P S wr M) {x a y : Nat} (hx : x < cN P) (ha : a < cM P x) (hy : y < 6) {k : Int32 → Option β} : rdQ M 151 6 (nI x) (shB b) (5, 1003) (fun o6 => rdQ M o6 3 (nI a) (shB b) (0, 6) (fun o7 => rdI M o7 6 (nI y) k)) = k (nI (cP P (x * 3 + a) y)) := by
  have hN := h.C.N.2
  have hb := h.2.1.2.2.1
  have hm := h.C.z.2.1 x
  rw [rdQ_n (by omega) (by decide) (h.R.1.1 x (by omega)).2.2.1 (shB_rows (by omega) x (by omega)).2.2.2.1, rdQ_n (by omega) (by decide) (h.R.1.2 x (by omega) a (by omega)).2.1 (shB_rows2 (by omega) x (by omega) a (by omega)).2.1, rdI_n hy (by decide), (h.P.2.2.2 x hx a ha).2.2.1 y hy]
theorem LI.amt {b K : Nat} {P S : Nat → Int32} {wr : Nat → Nat} {M : Mem} {β : Type} (h : LI b K P S wr M) {x a y : Nat} (hx : x < cN P) (ha : a < cM P x) (hy : y < 3) {k : Int32 → Option β} : rdQ M 126 6 (nI x) (shB b) (5, 1003) (fun o6 => rdQ M o6 3 (nI a) (shB b) (0, 3) (fun o7 => rdI M o7 3 (nI y) k)) = k (nI (cA P (x * 3 + a) y)) := by
  have hN := h.C.N.2
  have hb := h.2.1.2.2.1
  have hm := h.C.z.2.1 x
  rw [rdQ_n (by omega) (by decide) (h.R.1.1 x (by omega)).2.1 (shB_rows (by omega) x (by omega)).2.2.1, rdQ_n (by omega) (by decide) (h.R.1.2 x (by omega) a (by omega)).1 (shB_rows2 (by omega) x (by omega) a (by omega)).1, rdI_n hy (by decide), (h.P.2.2.2 x hx a ha).2.1 y hy]
theorem LI.gn {b K : Nat} {P S : Nat → Int32} {wr : Nat → Nat} {M : Mem} {β : Type} (h : LI b K P S wr M) {x a : Nat} (hx : x < cN P) (ha : a < cM P x) {k : Int32 → Option β} : rdQ M 112 6 (nI x) (shB b) (0, 3) (fun o => rdI M o 3 (nI a) k) = k (P (14 + (x * 3 + a))) := by
  have hN := h.C.N.2
  have hb := h.2.1.2.2.1
  have hm := h.C.z.2.1 x
  rw [rdQ_n (by omega) (by decide) (h.R.1.1 x (by omega)).1 (shB_rows (by omega) x (by omega)).1, rdI_n (by omega) (by decide), (h.P.2.2.2 x hx a ha).1]
theorem LI.mny {b K : Nat} {P S : Nat → Int32} {wr : Nat → Nat} {M : Mem} {β : Type} (h : LI b K P S wr M) {x : Nat} (hx : x < cN P) {k : Int32 → Option β} : rdI M 111 6 (nI x) k = k (nI (cM P x)) := by
  have hN := h.C.N.2
  rw [rdI_n (by omega) (by decide), h.P.2.2.1 x hx]
theorem LI.hz {b K : Nat} {P S : Nat → Int32} {wr : Nat → Nat} {M : Mem} (h : LI b K P S wr M) : gI M 109 3 = nI (pn S 1) ∧ 1 ≤ pn S 1 ∧ pn S 1 ≤ 4 := ⟨h.S.1.2.1.trans h.C.s.2.1.1, h.C.hz.2.1, h.2.1.2.1⟩
theorem LI.st {b K : Nat} {P S : Nat → Int32} {wr : Nat → Nat} {M : Mem} (h : LI b K P S wr M) : gI M 109 5 = nI (pn S 0) ∧ pn S 0 < cN P := ⟨h.S.1.1.trans h.C.s.1.1, h.C.st.2⟩
def TT (P S : Nat → Int32) : Nat → Nat → Nat := Tp (cM P) (cP P) (sW9 S)
theorem l_step {Z b x y K : Nat} {P S : Nat → Int32} {wr : Nat → Nat} {M : Mem} (hZ : 10 ≤ Z) (h : LI b K P S wr M) (hx : x < cN P) (hy : y < 6) : f_X12_step (shB b) Z M (nI x) (nI y) = some (nI (TT P S x y), M) := by
  have hm := h.C.z.2.1 x
  unfold f_X12_step
  rw [i0]
  refine lpS (σ := Nat) (fun n a s => f_X12_step_L5 (shB b) Z M (nI x) (nI y) n (nI s) (nI a)) (fun r => r = some (nI (TT P S x y), M)) (fun a s => s = sm a (fun a => sW9 S (x * 3 + a) * cP P (x * 3 + a) y)) 0 (cM P x) (s := 0) (by omega) (by omega) rfl ?_ ?_
  · intro n a s _ ha hI K
    rw [f_X12_step_L5, h.mny hx, if_neg (by rw [nI_ile (by omega) (by omega)]; omega), h.wt hx (by omega), h.pct hx ha hy, nI_mul, nI_add, show nI a + (1 : Int32) = nI (a + 1) from nI_add a 1]
    exact K _ (by rw [hI]; rfl)
  · intro n s hI
    rw [f_X12_step_L5, h.mny hx, if_pos (Int32.le_refl _), hI]
    rfl
theorem l_unit {Z b K : Nat} {P S : Nat → Int32} {wr : Nat → Nat} {M : Mem} (hZ : 10 ≤ Z) (h : LI b K P S wr M) : f_X12_unit (shB b) Z M = some (uT S, M) := by
  have hz := h.hz
  unfold f_X12_unit
  refine lpS (σ := Int64) (fun n i s => f_X12_unit_L6 (shB b) Z M n s (nI i)) (fun r => r = some (uT S, M)) (fun i s => s = lN (10 * 1000 ^ (i - 1))) 1 (pn S 1) (s := (10 : Int64)) hz.2.1 (by omega) (by decide) ?_ ?_
  · intro n i s h1 hi hI K
    rw [f_X12_unit_L6, bd_eq, hz.1, if_neg (by rw [nI_ile (by omega) (by omega)]; omega), show nI i + (1 : Int32) = nI (i + 1) from nI_add i 1]
    refine K _ ?_
    rw [hI, show (1000 : Int64) = lN 1000 from rfl, lN_mul, show i + 1 - 1 = (i - 1) + 1 by omega, Nat.pow_succ, Nat.mul_assoc]
  · intro n s hI
    rw [f_X12_unit_L6, bd_eq, hz.1, if_pos (Int32.le_refl _), hI]
    rfl
/-- the mean of what comes in n steps -/
def mnL (N : Nat) (T : Nat → Nat → Nat) (g : Nat → Int64) : Nat → Nat → Int64
  | 0, _ => 0
  | n + 1, x => g x * lN (1000 ^ n) + smL N (fun y => lN (T x y) * mnL N T g n y)
theorem mnL_0 {N : Nat} {T : Nat → Nat → Nat} {g : Nat → Int64} {x : Nat} : smL N (fun y => lN (T x y) * mnL N T g 0 y) = 0 := by
  rw [smL_congr (G := fun _ => 0) (fun y _ => by show lN (T x y) * 0 = 0; exact Int64.mul_zero)]
  exact smL_zero
/-- gains (-1) or a budget -/
def gq (P S : Nat → Int32) (p2 : Int32) (x : Nat) : Int64 := if p2 = -1 then gNow P (sW9 S) x else uNow P (sW9 S) (p2.toNatClampNeg) x
theorem l_mean {Z b K : Nat} {P S : Nat → Int32} {wr : Nat → Nat} {M : Mem} (hZ : 10 ≤ Z) (h : LI b K P S wr M) {p2 : Int32} (hp : p2 = -1 ∨ ∃ q, q < 3 ∧ p2 = nI q) : ∀ n, n ≤ 5 → ∀ fu x, n < fu → x < cN P → f_X12_mean_R (shB b) Z fu M (nI x) (nI n) p2 = some (mnL (cN P) (TT P S) (gq P S p2) n x, M) := by
  intro n
  have hN := h.C.N.2
  induction n with
  | zero =>
    intro _ fu x hf hx
    obtain ⟨fu, rfl⟩ := Nat.exists_eq_succ_of_ne_zero (Nat.ne_of_gt hf)
    rw [f_X12_mean_R, f_X12_mean_B, if_pos (show nI 0 = (0 : Int32) from rfl)]
    rfl
  | succ n ih =>
    intro hn fu x hf hx
    obtain ⟨fu, rfl⟩ := Nat.exists_eq_succ_of_ne_zero (show fu ≠ 0 by omega)
    have hm := h.C.z.2.1 x
    rw [f_X12_mean_R, f_X12_mean_B, if_neg (by rw [show (0 : Int32) = nI 0 from rfl, nI_eqx (by omega) (by decide)]; omega)]
    -- the scale
    refine lpS (σ := Int64) (fun m i s => f_X12_mean_L15 (shB b) Z (f_X12_mean_R (shB b) Z fu) M (nI x) (nI (n + 1)) p2 _ m s (nI i)) (fun r => r = some (mnL (cN P) (TT P S) (gq P S p2) (n + 1) x, M)) (fun i s => s = lN (1000 ^ (i - 1))) 1 (n + 1) (s := (1 : Int64)) (by omega) (by omega) (by decide) ?_ ?_
    · intro m i s h1 hi hI K
      rw [f_X12_mean_L15, if_neg (by rw [nI_ile (by omega) (by omega)]; omega), show nI i + (1 : Int32) = nI (i + 1) from nI_add i 1]
      refine K _ ?_
      rw [hI, show (1000 : Int64) = lN 1000 from rfl, lN_mul, show i + 1 - 1 = (i - 1) + 1 by omega, Nat.pow_succ]
    · intro m s hI
      rw [f_X12_mean_L15, if_pos (Int32.le_refl _), hI, Nat.add_sub_cancel]
      generalize hsc : lN (1000 ^ n) = sc
      -- the acts
      rw [show (0 : Int32) = nI 0 from rfl]
      have acts : ∀ (k : Int64 → Option (Int64 × Mem)), f_X12_mean_L38 (shB b) Z (f_X12_mean_R (shB b) Z fu) M (nI x) (nI (n + 1)) p2 sc k Z (0 : Int64) (nI 0) = k (gq P S p2 x * sc) := fun k => by
        have key : ∀ (tv : Nat → Int32), (∀ a, a < cM P x → ∀ (j : Int32 → Option (Int64 × Mem)), (if 0 ≤ p2 then rdQ M 126 6 (nI x) (shB b) (5, 1003) (fun o11 => rdQ M o11 3 (nI a) (shB b) (0, 3) (fun o12 => rdI M o12 3 p2 (fun v13 => j v13))) else rdQ M 112 6 (nI x) (shB b) (0, 3) (fun o14 => rdI M o14 3 (nI a) (fun v15 => j v15))) = j (tv a)) → gq P S p2 x = smL (cM P x) (fun a => (nI (sW9 S (x * 3 + a))).toInt64 * (tv a).toInt64) → f_X12_mean_L38 (shB b) Z (f_X12_mean_R (shB b) Z fu) M (nI x) (nI (n + 1)) p2 sc k Z (0 : Int64) (nI 0) = k (gq P S p2 x * sc) := fun tv ht hg => by
          refine lpS (σ := Int64) (fun m a s => f_X12_mean_L38 (shB b) Z (f_X12_mean_R (shB b) Z fu) M (nI x) (nI (n + 1)) p2 sc k m s (nI a)) (fun r => r = k (gq P S p2 x * sc)) (fun a s => s = smL a (fun a => (nI (sW9 S (x * 3 + a))).toInt64 * (tv a).toInt64) * sc) 0 (cM P x) (s := (0 : Int64)) (by omega) (by omega) (by show (0 : Int64) = 0 * sc; rw [Int64.zero_mul]) ?_ ?_
          · intro m a s _ ha hI K
            rw [f_X12_mean_L38, h.mny hx, if_neg (by rw [nI_ile (by omega) (by omega)]; omega), h.wt hx (by omega), jn_eq, ht a ha, show nI a + (1 : Int32) = nI (a + 1) from nI_add a 1]
            refine K _ ?_
            rw [hI]
            show _ = (smL a _ + _) * sc
            rw [Int64.add_mul]
          · intro m s hI
            rw [f_X12_mean_L38, h.mny hx, if_pos (Int32.le_refl _), hI, ← hg]
        rcases hp with c | ⟨q, hq, c⟩
        · refine key (fun a => P (14 + (x * 3 + a))) (fun a ha j => ?_) ?_
          · rw [if_neg (by rw [c]; decide), h.gn hx ha]
          · unfold gq
            rw [if_pos c]
            refine smL_congr (fun a ha => ?_)
            have := h.C.s.2.2.2.2.1 (x * 3 + a)
            rw [nI_l (by omega)]
        · refine key (fun a => nI (cA P (x * 3 + a) q)) (fun a ha j => ?_) ?_
          · rw [if_pos (by rw [c, show (0 : Int32) = nI 0 from rfl, nI_ile (by decide) (by omega)]; omega), c, h.amt hx ha hq]
          · unfold gq
            rw [if_neg (by rw [c]; exact nI_ne_neg (by omega)), c, nI_clamp (by omega)]
            refine smL_congr (fun a ha => ?_)
            have w1 := h.C.s.2.2.2.2.1 (x * 3 + a)
            have w2 := h.C.1.2.2.2.2.2.1 (x * 3 + a) q
            rw [nI_l (by omega), nI_l (by omega), lN_mul]
      rw [acts]
      -- the states
      refine lpS (σ := Int64) (fun m y s => f_X12_mean_L105 (shB b) Z (f_X12_mean_R (shB b) Z fu) (nI x) (nI (n + 1)) p2 m s (nI y) M) (fun r => r = some (mnL (cN P) (TT P S) (gq P S p2) (n + 1) x, M)) (fun y s => s = gq P S p2 x * sc + smL y (fun y => lN (TT P S x y) * mnL (cN P) (TT P S) (gq P S p2) n y)) 0 (cN P) (s := gq P S p2 x * sc) (by omega) (by omega) (by show _ = _ + (0 : Int64); rw [Int64.add_zero]) ?_ ?_
      · intro m y s _ hy hI K
        rw [f_X12_mean_L105, bd_eq, h.P.1, if_neg (by rw [nI_ile (by omega) (by omega)]; omega)]
        by_cases c : n = 0
        · subst c
          have z0 : ∀ k, smL k (fun y => lN (TT P S x y) * mnL (cN P) (TT P S) (gq P S p2) 0 y) = 0 := fun k => by
            rw [smL_congr (G := fun _ => 0) (fun y _ => by show lN (TT P S x y) * 0 = 0; exact Int64.mul_zero)]
            exact smL_zero
          rw [if_pos (by decide), hI, z0 y, mnL, z0, hsc]
        · have ts : TT P S x y ≤ 1000 := Tp_le h.C.1 h.C.s hx hy
          rw [if_neg (by rw [show (1 : Int32) = nI 1 from rfl, nI_ile (by omega) (by decide)]; omega), l_step hZ h hx (by omega), cl_some, jn_eq, show nI y + (1 : Int32) = nI (y + 1) from nI_add y 1]
          by_cases c0 : TT P S x y = 0
          · rw [if_pos (by rw [c0]; decide)]
            refine K _ ?_
            rw [hI]
            show _ = gq P S p2 x * sc + (_ + lN (TT P S x y) * _)
            rw [c0, show lN 0 = (0 : Int64) from rfl, Int64.zero_mul, Int64.add_zero]
          · rw [if_neg (by rw [show (0 : Int32) = nI 0 from rfl, nI_ile (by omega) (by decide)]; omega), l_step hZ h hx (by omega), cl_some, show nI (n + 1) - (1 : Int32) = nI n by rw [show (1 : Int32) = nI 1 from rfl, nI_sub (by omega), Nat.add_sub_cancel], ih (by omega) fu y (by omega) hy, cl_some, nI_l (by omega)]
            refine K _ ?_
            rw [hI]
            show _ = gq P S p2 x * sc + (_ + _)
            rw [Int64.add_assoc]
      · intro m s hI
        rw [f_X12_mean_L105, bd_eq, h.P.1, if_pos (Int32.le_refl _), hI, mnL, hsc]
/-- the chance to come to z in n steps -/
def htL (N : Nat) (T : Nat → Nat → Nat) (z : Nat) : Nat → Nat → Int64
  | 0, x => if x = z then 1 else 0
  | n + 1, x => if x = z then lN (1000 ^ (n + 1)) else smL N (fun y => lN (T x y) * htL N T z n y)
theorem l_hit {Z b K : Nat} {P S : Nat → Int32} {wr : Nat → Nat} {M : Mem} (hZ : 10 ≤ Z) (h : LI b K P S wr M) {z : Nat} (hz : z < cN P) : ∀ n, n ≤ 5 → ∀ fu x, n < fu → x < cN P → f_L_hit_R (shB b) Z fu M (nI x) (nI z) (nI n) = some (htL (cN P) (TT P S) z n x, M) := by
  intro n
  have hN := h.C.N.2
  induction n with
  | zero =>
    intro _ fu x hf hx
    obtain ⟨fu, rfl⟩ := Nat.exists_eq_succ_of_ne_zero (Nat.ne_of_gt hf)
    obtain ⟨Z', rfl⟩ : ∃ k, Z = k + 1 := ⟨Z - 1, by omega⟩
    rw [f_L_hit_R, f_L_hit_B, f_L_hit_L9, if_pos (by decide)]
    by_cases c : x = z
    · rw [if_pos (by rw [c]), htL, if_pos c]
    · rw [if_neg (by rw [nI_eqx (by omega) (by omega)]; exact c), htL, if_neg c, f_L_hit_L40, bd_eq, h.P.1, if_neg (by rw [show (0 : Int32) = nI 0 from rfl, nI_ile (by omega) (by decide)]; omega), if_pos (by decide)]
  | succ n ih =>
    intro hn fu x hf hx
    obtain ⟨fu, rfl⟩ := Nat.exists_eq_succ_of_ne_zero (show fu ≠ 0 by omega)
    rw [f_L_hit_R, f_L_hit_B, show (0 : Int32) = nI 0 from rfl]
    refine lpS (σ := Int64) (fun m i s => f_L_hit_L9 (shB b) Z (f_L_hit_R (shB b) Z fu) M (nI x) (nI z) (nI (n + 1)) _ m s (nI i)) (fun r => r = some (htL (cN P) (TT P S) z (n + 1) x, M)) (fun i s => s = lN (1000 ^ i)) 0 (n + 1) (s := (1 : Int64)) (by omega) (by omega) (by decide) ?_ ?_
    · intro m i s h1 hi hI K
      rw [f_L_hit_L9, if_neg (by rw [nI_ile (by omega) (by omega)]; omega), show nI i + (1 : Int32) = nI (i + 1) from nI_add i 1]
      refine K _ ?_
      rw [hI, show (1000 : Int64) = lN 1000 from rfl, lN_mul, Nat.pow_succ]
    · intro m s hI
      rw [f_L_hit_L9, if_pos (Int32.le_refl _), hI]
      by_cases c : x = z
      · rw [if_pos (by rw [c]), htL, if_pos c]
      · rw [if_neg (by rw [nI_eqx (by omega) (by omega)]; exact c)]
        refine lpS (σ := Int64) (fun m y s => f_L_hit_L40 (shB b) Z (f_L_hit_R (shB b) Z fu) (nI x) (nI z) (nI (n + 1)) m s (nI y) M) (fun r => r = some (htL (cN P) (TT P S) z (n + 1) x, M)) (fun y s => s = smL y (fun y => lN (TT P S x y) * htL (cN P) (TT P S) z n y)) 0 (cN P) (s := (0 : Int64)) (by omega) (by omega) rfl ?_ ?_
        · intro m y s _ hy hI K
          have ts : TT P S x y ≤ 1000 := Tp_le h.C.1 h.C.s hx hy
          rw [f_L_hit_L40, bd_eq, h.P.1, if_neg (by rw [nI_ile (by omega) (by omega)]; omega), if_neg (by rw [show (0 : Int32) = nI 0 from rfl, nI_ile (by omega) (by decide)]; omega), l_step hZ h hx (by omega), cl_some, jn_eq, show nI y + (1 : Int32) = nI (y + 1) from nI_add y 1]
          by_cases c0 : TT P S x y = 0
          · rw [if_pos (by rw [c0]; decide)]
            refine K _ ?_
            rw [hI]
            show _ = _ + lN (TT P S x y) * _
            rw [c0, show lN 0 = (0 : Int64) from rfl, Int64.zero_mul, Int64.add_zero]
          · rw [if_neg (by rw [show (0 : Int32) = nI 0 from rfl, nI_ile (by omega) (by decide)]; omega), l_step hZ h hx (by omega), cl_some, show nI (n + 1) - (1 : Int32) = nI n by rw [show (1 : Int32) = nI 1 from rfl, nI_sub (by omega), Nat.add_sub_cancel], ih (by omega) fu y (by omega) hy, cl_some, nI_l (by omega)]
            refine K _ ?_
            rw [hI]
            rfl
        · intro m s hI
          rw [f_L_hit_L40, bd_eq, h.P.1, if_pos (Int32.le_refl _), hI, htL, if_neg c]
