/-! the law's walk -/
theorem l_draw {Z s p : Nat} {sh : Nat → Option SE} {M : Mem} (h : gI M 109 4 = nI s) (hs : s < 30011) (hp : 0 < p) (hp2 : p < 1000) : f_X12_draw sh Z M (nI p) = some (nI (sd s % p), sI M 109 4 (nI (sd s))) := by
  have hsd := sd_lt (s := s)
  unfold f_X12_draw
  rw [bd_eq, h, nzI_n (by decide), bd_eq, Int32.mul_comm (109 : Int32) (nI s), sd_I hs, bd_eq, gI_sI, if_pos ⟨rfl, rfl⟩, nzI_n (by rw [show (0 : Int32) = nI 0 from rfl, nI_eqx (by omega) (by decide)]; omega), nI_mod (by omega) (by omega)]
/-- the law's walk at t -/
def JG (P S : Nat → Int32) (M0 : Mem) (t : Nat) (M : Mem) : Prop := fr [109, 208, 209] M0 M ∧ (gR M = gR M0 ∧ gL M = gL M0) ∧ (∀ i, i ≠ 4 → i ≠ 14 → gI M 109 i = gI M0 109 i) ∧ gI M 109 4 = nI (wkS (pn S 2) t) ∧ gI M 109 14 = nI (pn S 1) ∧ (∀ i, i ≤ t → gI M 208 i = nI (wkX P (sW9 S) (pn S 2) (pn S 0) i)) ∧ ∀ i, i < t → gI M 209 i = nI (wkA P (sW9 S) (pn S 2) (pn S 0) i)
theorem go56 {Z b K x d : Nat} {P S : Nat → Int32} {wr : Nat → Nat} {M0 M : Mem} {x6 x7 : Int32} {R : Option (Int32 × Mem) → Prop} {k : Int32 → Option (Int32 × Mem)} (hZ : 60 < Z) (h : LI b K P S wr M0) (hf : fr [109, 208, 209] M0 M) (hR : gR M = gR M0) (hx : x < cN P) (hd : d < 10) (hK : R (k (nI (pa P (sW9 S) x d)))) : R (f_X12_go_L56 (shB b) Z (nI x) x6 x7 (nI d) M k Z (0 : Int32) (nI (sW9 S (x * 3 + 0)))) := by
  have hN := h.C.N.2
  have hb := h.2.1.2.2.1
  have hm := h.C.z.2.1 x
  obtain ⟨p1, p2, p3⟩ := pa_ok h.C.s.W hx hd
  have hw10 : ∀ k, k ≤ 3 → sm k (fun a => sW9 S (x * 3 + a)) ≤ 30 := fun k hk => by
    have h0 := h.C.s.v3.2.1 (x * 3 + 0)
    have h1 := h.C.s.v3.2.1 (x * 3 + 1)
    have h2 := h.C.s.v3.2.1 (x * 3 + 2)
    have : k = 0 ∨ k = 1 ∨ k = 2 ∨ k = 3 := by omega
    rcases this with c | c | c | c <;> subst c <;> simp only [sm] <;> omega
  have key : ∀ e fu a, a + e = pa P (sW9 S) x d → e < fu → R (f_X12_go_L56 (shB b) Z (nI x) x6 x7 (nI d) M k fu (nI a) (nI (sm (a + 1) (fun a => sW9 S (x * 3 + a))))) := by
    intro e
    induction e with
    | zero =>
      intro fu a ha hfu
      obtain ⟨fu, rfl⟩ := Nat.exists_eq_succ_of_ne_zero (Nat.ne_of_gt hfu)
      obtain rfl : a = pa P (sW9 S) x d := ha
      have := hw10 (pa P (sW9 S) x d + 1) (by omega)
      rw [f_X12_go_L56]
      exact ifp_R (by rw [nI_ilt (by omega) (by omega)]; exact p2) hK
    | succ e ih =>
      intro fu a ha hfu
      obtain ⟨fu, rfl⟩ := Nat.exists_eq_succ_of_ne_zero (show fu ≠ 0 by omega)
      have := hw10 (a + 1) (by omega)
      have le := p3 a (by omega)
      rw [f_X12_go_L56]
      refine ifn_R (by rw [nI_ilt (by omega) (by omega)]; omega) ?_
      rw [show nI a + (1 : Int32) = nI (a + 1) from nI_add a 1]
      have wne : wr x ≠ 109 ∧ wr x ≠ 208 ∧ wr x ≠ 209 := by
        have := h.R.2.2 x (by omega)
        omega
      refine rdQ_R rfl (by omega) (by decide) (by rw [hR]; exact h.R.2.1 x (by omega)) (shQ h.R (by omega) x (by omega)) (rdI_R' (by omega) (by decide) ((congrFun (hf.I (by simp; omega)) _).trans (h.S.2.1 x hx (a + 1) (by omega))) ?_)
      rw [nI_add]
      exact ih fu (a + 1) (by omega) (by omega)
  have := key (pa P (sW9 S) x d) Z 0 (by omega) (by omega)
  rw [show sm (0 + 1) (fun a => sW9 S (x * 3 + a)) = sW9 S (x * 3 + 0) by simp only [sm, Nat.zero_add]] at this
  exact this
theorem rdP_R {b K x a : Nat} {P S : Nat → Int32} {wr : Nat → Nat} {M0 M : Mem} {β : Type} {R : Option β → Prop} {k : Nat → Option β} (h : LI b K P S wr M0) (hR : gR M = gR M0) (hx : x < cN P) (ha : a < cM P x) (hK : R (k (153 + 4 * x + a))) : R (rdQ M 151 6 (nI x) (shB b) (5, 1003) (fun o => rdQ M o 3 (nI a) (shB b) (0, 6) k)) := by
  have hN := h.C.N.2
  have hb := h.2.1.2.2.1
  have hm := h.C.z.2.1 x
  exact rdQ_R rfl (by omega) (by decide) (by rw [hR]; exact (h.R.1.1 x (by omega)).2.2.1) (shB_rows (by omega) x (by omega)).2.2.2.1 (rdQ_R rfl (by omega) (by decide) (by rw [hR]; exact (h.R.1.2 x (by omega) a (by omega)).2.1) (shB_rows2 (by omega) x (by omega) a (by omega)).2.1 hK)
theorem rdO_R {b K x a : Nat} {P S : Nat → Int32} {wr : Nat → Nat} {M0 M : Mem} {β : Type} {R : Option β → Prop} {k : Nat → Option β} (h : LI b K P S wr M0) (hR : gR M = gR M0) (hx : x < cN P) (ha : a < cM P x) (hK : R (k (178 + 4 * x + a))) : R (rdQ M 176 6 (nI x) (shB b) (5, 1003) (fun o => rdQ M o 3 (nI a) (shB b) (0, 7) k)) := by
  have hN := h.C.N.2
  have hb := h.2.1.2.2.1
  have hm := h.C.z.2.1 x
  exact rdQ_R rfl (by omega) (by decide) (by rw [hR]; exact (h.R.1.1 x (by omega)).2.2.2.1) (shB_rows (by omega) x (by omega)).2.2.2.2.1 (rdQ_R rfl (by omega) (by decide) (by rw [hR]; exact (h.R.1.2 x (by omega) a (by omega)).2.2) (shB_rows2 (by omega) x (by omega) a (by omega)).2.2 hK)
theorem go114 {Z b K x a d : Nat} {P S : Nat → Int32} {wr : Nat → Nat} {M0 M : Mem} {x6 x7 : Int32} {R : Option (Int32 × Mem) → Prop} {k : Int32 → Option (Int32 × Mem)} (hZ : 60 < Z) (h : LI b K P S wr M0) (hf : fr [109, 208, 209] M0 M) (hR : gR M = gR M0) (hx : x < cN P) (ha : a < cM P x) (hd : d < 100) (hK : R (k (nI (pj P (x * 3 + a) d)))) : R (f_X12_go_L114 (shB b) Z (nI x) x6 x7 (nI a) (nI d) M k Z (0 : Int32) (nI (cP P (x * 3 + a) (cO P (x * 3 + a) 0)))) := by
  have hN := h.C.N.2
  have hb := h.2.1.2.2.1
  have hm := h.C.z.2.1 x
  obtain ⟨p1, p2, p3⟩ := pj_ok h.C.1 hx ha hd
  obtain ⟨t1, t2, t3, t4⟩ := h.C.1.2.2.2.2.2.2.2 x hx a ha
  have hP := h.P.2.2.2 x hx a ha
  have hw : ∀ k, k ≤ cT P (x * 3 + a) → sm k (fun k => cP P (x * 3 + a) (cO P (x * 3 + a) k)) ≤ 100 := fun k hk => by rw [← t4]; exact sm_mono hk
  have key : ∀ e fu j, j + e = pj P (x * 3 + a) d → e < fu → R (f_X12_go_L114 (shB b) Z (nI x) x6 x7 (nI a) (nI d) M k fu (nI j) (nI (sm (j + 1) (fun k => cP P (x * 3 + a) (cO P (x * 3 + a) k))))) := by
    intro e
    induction e with
    | zero =>
      intro fu j hj hfu
      obtain ⟨fu, rfl⟩ := Nat.exists_eq_succ_of_ne_zero (Nat.ne_of_gt hfu)
      obtain rfl : j = pj P (x * 3 + a) d := hj
      have := hw (pj P (x * 3 + a) d + 1) (by omega)
      rw [f_X12_go_L114]
      exact ifp_R (by rw [nI_ilt (by omega) (by omega)]; exact p2) hK
    | succ e ih =>
      intro fu j hj hfu
      obtain ⟨fu, rfl⟩ := Nat.exists_eq_succ_of_ne_zero (show fu ≠ 0 by omega)
      have := hw (j + 1) (by omega)
      have le := p3 j (by omega)
      have ho := t3 (j + 1) (by omega)
      rw [f_X12_go_L114]
      refine ifn_R (by rw [nI_ilt (by omega) (by omega)]; omega) (rdP_R h hR hx ha (rdO_R h hR hx ha ?_))
      rw [show nI j + (1 : Int32) = nI (j + 1) from nI_add j 1]
      refine rdI_R' (show j + 1 < 7 by omega) (by decide) ((congrFun (hf.I (by simp; omega)) _).trans (hP.2.2.2 (j + 1) (by omega))) (rdI_R' (by omega) (by decide) ((congrFun (hf.I (by simp; omega)) _).trans (hP.2.2.1 _ (by omega))) ?_)
      rw [nI_add]
      exact ih fu (j + 1) (by omega) (by omega)
  have := key (pj P (x * 3 + a) d) Z 0 (by omega) (by omega)
  rw [show sm (0 + 1) (fun k => cP P (x * 3 + a) (cO P (x * 3 + a) k)) = cP P (x * 3 + a) (cO P (x * 3 + a) 0) by simp only [sm, Nat.zero_add]] at this
  exact this
theorem l_go {Z b K : Nat} {P S : Nat → Int32} {wr : Nat → Nat} {M : Mem} (hZ : 60 < Z) (h : LI b K P S wr M) : ∃ M', f_X12_go (shB b) Z M = some (wkG P (sW9 S) (pn S 2) (pn S 0) (pn S 1), M') ∧ JG P S M (pn S 1) M' := by
  obtain ⟨R, hRR⟩ : ∃ R : Option (Int32 × Mem) → Prop, R = fun q => ∃ M', q = some (wkG P (sW9 S) (pn S 2) (pn S 0) (pn S 1), M') ∧ JG P S M (pn S 1) M' := ⟨_, rfl⟩
  suffices H : R (f_X12_go (shB b) Z M) by rw [hRR] at H; exact H
  have hfin : ∀ M', JG P S M (pn S 1) M' → R (some (wkG P (sW9 S) (pn S 2) (pn S 0) (pn S 1), M')) := fun M' h => by rw [hRR]; exact ⟨M', rfl, h⟩
  clear hRR
  have hN := h.C.N.2
  have hb := h.2.1.2.2.1
  have hz := h.hz
  have hst := h.st
  have hVS := h.C.s
  have hV := h.C.1
  have hKo := hVS.W
  have e4 : gI M 109 4 = nI (pn S 2) := h.S.1.2.2.1.trans hVS.v2.1
  have key : ∀ e fu t M1, t + e = pn S 1 → e < fu → JG P S M t M1 → R (f_X12_go_L24 (shB b) Z fu (nI (wkX P (sW9 S) (pn S 2) (pn S 0) t)) (wkG P (sW9 S) (pn S 2) (pn S 0) t) (nI t) M1) := by
    intro e
    induction e with
    | zero =>
      intro fu t M1 ht hfu hJ
      obtain ⟨fu, rfl⟩ := Nat.exists_eq_succ_of_ne_zero (Nat.ne_of_gt hfu)
      obtain rfl : t = pn S 1 := ht
      rw [f_X12_go_L24]
      refine bd_R ?_
      rw [hJ.2.2.1 3 (by decide) (by decide), hz.1]
      exact ifp_R (Int32.le_refl _) (hfin M1 hJ)
    | succ e ih =>
      intro fu t M1 ht hfu hJ
      obtain ⟨fu, rfl⟩ := Nat.exists_eq_succ_of_ne_zero (show fu ≠ 0 by omega)
      obtain ⟨f1, ⟨g1, gl1⟩, g2, g3, g4, g5, g6⟩ := hJ
      have hxt := wkX_lt hV hKo hst.2 (s := pn S 2) t
      have hat := wkA_lt hV hKo hst.2 (s := pn S 2) t
      have hsl := wkS_lt hVS.v2.2 t
      have hsd := sd_lt (s := wkS (pn S 2) t)
      rw [f_X12_go_L24]
      refine bd_R ?_
      rw [g2 3 (by decide) (by decide), hz.1]
      refine ifn_R (by rw [nI_ile (by omega) (by omega)]; omega) (cl_R1 (l_draw (p := 10) g3 hsl (by decide) (by decide)) ?_)
      generalize hxx : wkX P (sW9 S) (pn S 2) (pn S 0) t = x at *
      generalize hss : wkS (pn S 2) t = s at *
      have eaa : wkA P (sW9 S) (pn S 2) (pn S 0) t = pa P (sW9 S) x (sd s % 10) := by unfold wkA stA; rw [hxx, hss]
      have f2 : fr [109, 208, 209] M (sI M1 109 4 (nI (sd s))) := fr_sI f1 (by decide)
      have g12 : gR (sI M1 109 4 (nI (sd s))) = gR M := g1
      have gl2 : gL (sI M1 109 4 (nI (sd s))) = gL M := gl1
      have g22 : ∀ i, i ≠ 4 → gI (sI M1 109 4 (nI (sd s))) 109 i = gI M1 109 i := fun i hi => by rw [gI_sI, if_neg (fun z => hi z.2)]
      have g32 : gI (sI M1 109 4 (nI (sd s))) 109 4 = nI (sd s) := gI_same
      have g52 : gI (sI M1 109 4 (nI (sd s))) 208 = gI M1 208 := by rw [gI_sI', if_neg (by decide)]
      have g62 : gI (sI M1 109 4 (nI (sd s))) 209 = gI M1 209 := by rw [gI_sI', if_neg (by decide)]
      generalize sI M1 109 4 (nI (sd s)) = M2 at f2 g12 gl2 g22 g32 g52 g62 ⊢
      have wne : wr x ≠ 109 ∧ wr x ≠ 208 ∧ wr x ≠ 209 := by
        have := h.R.2.2 x (by omega)
        omega
      refine rdQ_R rfl (by omega) (by decide) (by rw [g12]; exact h.R.2.1 x (by omega)) (shQ h.R (by omega) x (by omega)) (rdI_R' (j := 0) (by decide) (by decide) ((congrFun (f2.I (by simp; omega)) _).trans (h.S.2.1 x hxt 0 (by decide))) ?_)
      refine go56 hZ h f2 g12 hxt (Nat.mod_lt _ (by decide)) ?_
      rw [← eaa]
      generalize haa : wkA P (sW9 S) (pn S 2) (pn S 0) t = a at *
      have hm := h.C.z.2.1 x
      refine cl_R1 (l_draw (p := 100) g32 (by omega) (by decide) (by decide)) ?_
      have f3 : fr [109, 208, 209] M (sI M2 109 4 (nI (sd (sd s)))) := fr_sI f2 (by decide)
      have g13 : gR (sI M2 109 4 (nI (sd (sd s)))) = gR M := g12
      have gl3 : gL (sI M2 109 4 (nI (sd (sd s)))) = gL M := gl2
      have g23 : ∀ i, i ≠ 4 → gI (sI M2 109 4 (nI (sd (sd s)))) 109 i = gI M1 109 i := fun i hi => by rw [gI_sI, if_neg (fun z => hi z.2)]; exact g22 i hi
      have g33 : gI (sI M2 109 4 (nI (sd (sd s)))) 109 4 = nI (sd (sd s)) := gI_same
      have g53 : gI (sI M2 109 4 (nI (sd (sd s)))) 208 = gI M1 208 := by rw [gI_sI', if_neg (by decide)]; exact g52
      have g63 : gI (sI M2 109 4 (nI (sd (sd s)))) 209 = gI M1 209 := by rw [gI_sI', if_neg (by decide)]; exact g62
      generalize sI M2 109 4 (nI (sd (sd s))) = M3 at f3 g13 gl3 g23 g33 g53 g63 ⊢
      have hd : sd (sd s) % 100 < 100 := Nat.mod_lt _ (by decide)
      obtain ⟨p1, -, -⟩ := pj_ok hV hxt hat hd
      obtain ⟨t1, t2, t3, t4⟩ := hV.2.2.2.2.2.2.2 x hxt a hat
      have hP := h.P.2.2.2 x hxt a hat
      have ho0 := t3 0 (by omega)
      refine rdP_R h g13 hxt hat (rdO_R h g13 hxt hat (rdI_R' (j := 0) (by decide) (by decide) ((congrFun (f3.I (by simp; omega)) _).trans (hP.2.2.2 0 (by omega))) (rdI_R' (by omega) (by decide) ((congrFun (f3.I (by simp; omega)) _).trans (hP.2.2.1 _ (by omega))) ?_)))
      refine go114 hZ h f3 g13 hxt hat hd ?_
      have ex1 : wkX P (sW9 S) (pn S 2) (pn S 0) (t + 1) = cO P (x * 3 + a) (pj P (x * 3 + a) (sd (sd s) % 100)) := by
        show stX P (sW9 S) (wkS (pn S 2) t) (wkX P (sW9 S) (pn S 2) (pn S 0) t) = _
        have : stA P (sW9 S) (wkS (pn S 2) t) (wkX P (sW9 S) (pn S 2) (pn S 0) t) = a := haa
        unfold stX ps
        rw [this, hxx, hss]
      have es1 : wkS (pn S 2) (t + 1) = sd (sd s) := by
        show sd (sd (wkS (pn S 2) t)) = _
        rw [hss]
      have eg1 : wkG P (sW9 S) (pn S 2) (pn S 0) t + P (14 + (x * 3 + a)) = wkG P (sW9 S) (pn S 2) (pn S 0) (t + 1) := by
        show _ = wkG P (sW9 S) (pn S 2) (pn S 0) t + P (14 + (wkX P (sW9 S) (pn S 2) (pn S 0) t * 3 + wkA P (sW9 S) (pn S 2) (pn S 0) t))
        rw [hxx, haa]
      generalize hpj : pj P (x * 3 + a) (sd (sd s) % 100) = j at *
      refine rdQ_R rfl (by omega) (by decide) (by rw [g13]; exact (h.R.1.1 x (by omega)).1) (shB_rows (by omega) x (by omega)).1 (rdI_R' (by omega) (by decide) ((congrFun (f3.I (by simp; omega)) _).trans (hP.1)) ?_)
      refine wrI_R rfl (show t < 5 by omega) (by decide) ?_
      have f4 : fr [109, 208, 209] M (sI M3 209 t (nI a)) := fr_sI f3 (by decide)
      have g14 : gR (sI M3 209 t (nI a)) = gR M := g13
      have gl4 : gL (sI M3 209 t (nI a)) = gL M := gl3
      refine rdO_R h g14 hxt hat (rdI_R' (show j < 7 by omega) (by decide) ((congrFun (f4.I (by simp; omega)) _).trans (hP.2.2.2 j p1)) ?_)
      rw [show nI t + (1 : Int32) = nI (t + 1) from nI_add t 1]
      refine wrI_R rfl (show t + 1 < 6 by omega) (by decide) ?_
      rw [← ex1, eg1]
      refine ih fu (t + 1) _ (by omega) (by omega) ⟨fr_sI f4 (by decide), ⟨g14, gl4⟩, fun i h4 h14 => ?_, ?_, ?_, fun i hi => ?_, fun i hi => ?_⟩
      · rw [gI_sI, if_neg (fun z => absurd z.1 (by decide)), gI_sI, if_neg (fun z => absurd z.1 (by decide)), g23 i h4]
        exact g2 i h4 h14
      · rw [gI_sI, if_neg (fun z => absurd z.1 (by decide)), gI_sI, if_neg (fun z => absurd z.1 (by decide)), es1]
        exact g33
      · rw [gI_sI, if_neg (fun z => absurd z.1 (by decide)), gI_sI, if_neg (fun z => absurd z.1 (by decide)), g23 14 (by decide)]
        exact g4
      · rw [gI_sI]
        by_cases c : i = t + 1
        · rw [if_pos ⟨rfl, c⟩, c]
        · rw [if_neg (fun z => c z.2), gI_sI, if_neg (fun z => absurd z.1 (by decide)), g53]
          exact g5 i (by omega)
      · rw [gI_sI, if_neg (fun z => absurd z.1 (by decide)), gI_sI]
        by_cases c : i = t
        · rw [if_pos ⟨rfl, c⟩, c, haa]
        · rw [if_neg (fun z => c z.2), g63]
          exact g6 i (by omega)
  unfold f_X12_go
  refine bd_R ?_
  rw [hst.1]
  refine wrI_R i0 (by decide) (by decide) (bd_R (bd_R ?_))
  rw [gI_sI, if_neg (by decide), hz.1]
  refine key (pn S 1) Z 0 _ (by omega) (by omega) ⟨fr_sI (fr_sI fr.rfl (by decide)) (by decide), ⟨rfl, rfl⟩, fun i h4 h14 => ?_, ?_, ?_, fun i hi => ?_, fun i hi => absurd hi (by omega)⟩
  · rw [gI_sI, if_neg (fun z => h14 z.2), gI_sI, if_neg (fun z => absurd z.1 (by decide))]
  · rw [gI_sI, if_neg (fun z => absurd z.2 (by decide)), gI_sI, if_neg (fun z => absurd z.1 (by decide))]
    exact e4
  · exact gI_same
  · rw [gI_sI, if_neg (fun z => absurd z.1 (by decide)), gI_sI, if_pos ⟨rfl, by omega⟩, show i = 0 by omega]
    rfl
