/-! pieces of the settings -/
theorem pn_c {S S' : Nat → Int32} {i : Nat} (h : S' i = S i) : pn S' i = pn S i := by unfold pn; rw [h]
theorem pn_n {S : Nat → Int32} {i n : Nat} (h : S i = nI n) (hn : n < 2 ^ 31) : pn S i = n := by unfold pn; rw [h, nI_clamp hn]
def V0 (P S : Nat → Int32) : Prop := S 0 = nI (pn S 0) ∧ pn S 0 < cN P
def V1 (S : Nat → Int32) : Prop := S 1 = nI (pn S 1) ∧ 1 ≤ pn S 1 ∧ pn S 1 ≤ 5
def V2 (S : Nat → Int32) : Prop := S 2 = nI (pn S 2) ∧ pn S 2 < 30011
def V3 (P S : Nat → Int32) : Prop := (∀ r, r < 18 → S (4 + r) = nI (sW S r)) ∧ (∀ r, sW S r ≤ 10) ∧ (∀ x, x < cN P → sm (cM P x) (fun a => sW S (x * 3 + a)) = 10 ∧ ∀ a, cM P x ≤ a → a < 3 → sW S (x * 3 + a) = 0)
def V4 (P S : Nat → Int32) : Prop := (∀ r, r < 18 → S (22 + r) = nI 0 ∨ S (22 + r) = nI 1) ∧ (∀ x, x < cN P → ∃ a, a < cM P x ∧ S (22 + (x * 3 + a)) = nI 1)
def V5 (S : Nat → Int32) : Prop := ∀ b, b < 3 → S (40 + b) = nI (pn S (40 + b)) ∧ pn S (40 + b) ≤ 9999
def V6 (P S : Nat → Int32) : Prop := S 3 = -1 ∨ (S 3 = nI (pn S 3) ∧ 1 ≤ pn S 3 ∧ pn S 3 ≤ 5 ∧ (∀ t, t ≤ pn S 3 → S (43 + t) = nI (pn S (43 + t)) ∧ pn S (43 + t) < cN P) ∧ ∀ t, t < pn S 3 → S (49 + t) = nI (pn S (49 + t)) ∧ pn S (49 + t) < cM P (pn S (43 + t)))
theorem VS.mk {P S : Nat → Int32} (h0 : V0 P S) (h1 : V1 S) (h2 : V2 S) (h3 : V3 P S) (h4 : V4 P S) (h5 : V5 S) (h6 : V6 P S) : VS P S := ⟨h0, h1, h2, h3.1, h3.2.1, h3.2.2, h4.1, h4.2, h5, h6⟩
theorem VS.v0 {P S : Nat → Int32} (h : VS P S) : V0 P S := h.1
theorem VS.v1 {P S : Nat → Int32} (h : VS P S) : V1 S := h.2.1
theorem VS.v2 {P S : Nat → Int32} (h : VS P S) : V2 S := h.2.2.1
theorem VS.v3 {P S : Nat → Int32} (h : VS P S) : V3 P S := ⟨h.2.2.2.1, h.2.2.2.2.1, h.2.2.2.2.2.1⟩
theorem VS.v4 {P S : Nat → Int32} (h : VS P S) : V4 P S := ⟨h.2.2.2.2.2.2.1, h.2.2.2.2.2.2.2.1⟩
theorem VS.v5 {P S : Nat → Int32} (h : VS P S) : V5 S := h.2.2.2.2.2.2.2.2.1
theorem VS.v6 {P S : Nat → Int32} (h : VS P S) : V6 P S := h.2.2.2.2.2.2.2.2.2
theorem V0.congr {P S S' : Nat → Int32} (h : V0 P S) (e : S' 0 = S 0) : V0 P S' := by
  unfold V0
  rw [pn_c e, e]
  exact h
theorem V1.congr {S S' : Nat → Int32} (h : V1 S) (e : S' 1 = S 1) : V1 S' := by
  unfold V1
  rw [pn_c e, e]
  exact h
theorem V2.congr {S S' : Nat → Int32} (h : V2 S) (e : S' 2 = S 2) : V2 S' := by
  unfold V2
  rw [pn_c e, e]
  exact h
theorem sW_c {S S' : Nat → Int32} (e : ∀ r, r < 18 → S' (4 + r) = S (4 + r)) (r : Nat) : sW S' r = sW S r := by
  unfold sW
  by_cases c : r < 18
  · rw [if_pos c, if_pos c, pn_c (e r c)]
  · rw [if_neg c, if_neg c]
theorem V3.congr {P S S' : Nat → Int32} (h : V3 P S) (e : ∀ r, r < 18 → S' (4 + r) = S (4 + r)) : V3 P S' := by
  refine ⟨fun r hr => ?_, fun r => ?_, fun x hx => ?_⟩
  · rw [sW_c e, e r hr]
    exact h.1 r hr
  · rw [sW_c e]
    exact h.2.1 r
  · simp only [sW_c e]
    exact h.2.2 x hx
theorem V4.congr {P S S' : Nat → Int32} (hN : cN P ≤ 6) (hm : ∀ x, cM P x ≤ 3) (h : V4 P S) (e : ∀ r, r < 18 → S' (22 + r) = S (22 + r)) : V4 P S' := by
  refine ⟨fun r hr => ?_, fun x hx => ?_⟩
  · rw [e r hr]
    exact h.1 r hr
  · obtain ⟨a, ha, g⟩ := h.2 x hx
    have := hm x
    exact ⟨a, ha, by rw [e _ (by omega)]; exact g⟩
theorem V5.congr {S S' : Nat → Int32} (h : V5 S) (e : ∀ b, b < 3 → S' (40 + b) = S (40 + b)) : V5 S' := fun b hb => by
  rw [pn_c (e b hb), e b hb]
  exact h b hb
theorem V6.congr {P S S' : Nat → Int32} (h : V6 P S) (e3 : S' 3 = S 3) (e : ∀ i, 43 ≤ i → i < 54 → S' i = S i) : V6 P S' := by
  unfold V6
  rw [e3, pn_c e3]
  rcases h with k | ⟨k1, k2, k3, k4, k5⟩
  · exact Or.inl k
  · refine Or.inr ⟨k1, k2, k3, fun t ht => ?_, fun t ht => ?_⟩
    · rw [pn_c (e (43 + t) (by omega) (by omega)), e (43 + t) (by omega) (by omega)]
      exact k4 t ht
    · rw [pn_c (e (43 + t) (by omega) (by omega)), pn_c (e (49 + t) (by omega) (by omega)), e (49 + t) (by omega) (by omega)]
      exact k5 t ht
/-- what a change leaves of the guards -/
theorem chg_sL {M1 M2 : Mem} {v : Int64} {M : Mem} (h : Has M) (m1 : ∀ o, o ≠ 35 → o ≠ 36 → (o < 38 ∨ 80 ≤ o) → gI M1 o = gI M o ∧ gL M1 o = gL M o ∧ gR M1 o = gR M o) (f2 : fr lC M1 M2) : gI (sL M2 124 0 v) 108 1 = nI 1 ∧ gI (sL M2 124 0 v) 112 = gI M 112 ∧ gI (sL M2 124 0 v) 109 = gI M 109 := by
  refine ⟨?_, ?_, ?_⟩
  · rw [gI_sL', f2.I (by decide), (m1 108 (by decide) (by decide) (by decide)).1]
    exact h.1
  · rw [gI_sL', f2.I (by decide), (m1 112 (by decide) (by decide) (by decide)).1]
  · rw [gI_sL', f2.I (by decide), (m1 109 (by decide) (by decide) (by decide)).1]
theorem noChainT {Z : Nat} {M : Mem} (h : gI M 108 1 = nI 1) : f_X12_noChain Z M = some (0, T0 M) := noChain1 h
theorem f4.i {l : List Nat} {M M' : Mem} (h : f4 l M M') {o : Nat} (ho : o ∉ l) (h8 : o ≠ 108) : gI M' o = gI M o := (h.1 o ho h8).1
theorem ok_setLimit {Z : Nat} (hZ : 4000 < Z) {M : Mem} (hI : Inv M) (h : Has M) {b l : Nat} (hb : b < cB (gI M 112)) (hl : l ≤ 9999) : OKc (f_X11_setLimit Z M (nI b) (nI l)) (fun M => f_X12_setLimit Z M (nI b) (nI l)) (·.toInt64) (·.toInt64) := by
  have hN := h.N
  have hB := h.b.2.2
  have hz := h.z
  obtain ⟨M1, e1, m1, H⟩ := change hZ hI h
  have f2 : fr lC M1 (sI M1 13 b (nI l)) := fr_sI fr.rfl (by decide)
  have eold : gI M1 13 b = gI M 109 (40 + b) := by
    rw [(m1 13 (by decide) (by decide) (by decide)).1, show (13 : Nat) = 10 + 3 from rfl, h.RS.2.2.2.1 b (by omega)]
  generalize hv : gI M 109 (40 + b) = v at eold
  obtain ⟨M4, e4, f4, K⟩ := H (sI M1 13 b (nI l)) v.toInt64 f2
  obtain ⟨s1, s2, s3⟩ := chg_sL (v := v.toInt64) h m1 f2
  have j109 : gI M4 109 = gI M 109 := by rw [f4.i (by decide) (by decide), T0_I (by decide), s3]
  have f5 : fr lR M4 (sI M4 109 (40 + b) (nI l)) := fr_sI fr.rfl (by decide)
  have S5 : ∀ i, gI (sI M4 109 (40 + b) (nI l)) 109 i = if i = 40 + b then nI l else gI M 109 i := fun i => by
    rw [gI_sI, j109]
    by_cases c : i = 40 + b
    · rw [if_pos ⟨rfl, c⟩, if_pos c]
    · rw [if_neg (fun z => c z.2), if_neg c]
  have Sn : ∀ i, i ≠ 40 + b → gI (sI M4 109 (40 + b) (nI l)) 109 i = gI M 109 i := fun i hi => by rw [S5, if_neg hi]
  have mo : ∀ o, o ≠ 13 → 10 ≤ o → o < 16 → gI (sI M4 109 (40 + b) (nI l)) o = gI M o := fun o h1 h2 h3 => by
    rw [gI_sI', if_neg (by omega), f4.i (by simp; omega) (by omega), T0_I (by omega), gI_sL', gI_sI', if_neg h1, (m1 o (by omega) (by omega) (by omega)).1]
  have m13 : ∀ k, gI (sI M4 109 (40 + b) (nI l)) 13 k = if k = b then nI l else gI M 13 k := fun k => by
    rw [gI_sI', if_neg (by decide), f4.i (by decide) (by decide), T0_I (by decide), gI_sL', gI_sI, (m1 13 (by decide) (by decide) (by decide)).1]
    by_cases c : k = b
    · rw [if_pos ⟨rfl, c⟩, if_pos c]
    · rw [if_neg (fun z => c z.2), if_neg c]
  have hV := h.VS
  have hR := h.RS
  have hV5 : VS (gI M 112) (gI (sI M4 109 (40 + b) (nI l)) 109) := by
    refine VS.mk (hV.v0.congr (Sn 0 (by omega))) (hV.v1.congr (Sn 1 (by omega))) (hV.v2.congr (Sn 2 (by omega))) (hV.v3.congr (fun r hr => Sn _ (by omega))) (V4.congr hN.2 hz.2.1 hV.v4 (fun r hr => Sn _ (by omega))) (fun k hk => ?_) (hV.v6.congr (Sn 3 (by omega)) (fun i h1 h2 => Sn _ (by omega)))
    by_cases c : k = b
    · have e : gI (sI M4 109 (40 + b) (nI l)) 109 (40 + k) = nI l := by rw [S5, if_pos (by omega)]
      rw [pn_n e (by omega), e]
      exact ⟨rfl, hl⟩
    · rw [pn_c (Sn (40 + k) (by omega)), Sn (40 + k) (by omega)]
      exact hV.v5 k hk
  have hR5 : RS (gI M 112) (sI M4 109 (40 + b) (nI l)) 10 (gI (sI M4 109 (40 + b) (nI l)) 109) := by
    obtain ⟨⟨a1, a2, a3, a4⟩, b1, c, d, e, f⟩ := hR
    refine ⟨⟨?_, ?_, ?_, ?_⟩, fun r hr => ?_, fun x hx => ?_, fun k hk => ?_, fun t ht => ?_, fun t ht => ?_⟩
    · rw [mo 10 (by decide) (by decide) (by decide), Sn 0 (by omega)]; exact a1
    · rw [mo 10 (by decide) (by decide) (by decide), Sn 1 (by omega)]; exact a2
    · rw [mo 10 (by decide) (by decide) (by decide), Sn 2 (by omega)]; exact a3
    · rw [mo 10 (by decide) (by decide) (by decide), Sn 3 (by omega)]; exact a4
    · rw [mo (10 + 1) (by decide) (by decide) (by decide), Sn _ (by omega)]; exact b1 r hr
    · obtain ⟨q, q1, q2, q3⟩ := c x hx
      have := hz.2.1 x
      exact ⟨q, q1, by rw [mo (10 + 2) (by decide) (by decide) (by decide)]; exact q2, fun a ha => by rw [Sn _ (by omega)]; exact q3 a ha⟩
    · show gI _ 13 k = _
      rw [m13, S5]
      by_cases g : k = b
      · rw [if_pos g, if_pos (by omega)]
      · rw [if_neg g, if_neg (by omega)]
        exact d k hk
    · rw [mo (10 + 4) (by decide) (by decide) (by decide), Sn _ (by omega)]; exact e t ht
    · rw [mo (10 + 5) (by decide) (by decide) (by decide), Sn _ (by omega)]; exact f t ht
  obtain ⟨i5, z5, o5⟩ := K _ f5 hV5 hR5
  refine ⟨v, v, sI M1 13 b (nI l), _, ?_, ?_, i5, z5, o5⟩
  · unfold f_X11_setLimit
    rw [h.nB, if_pos (inR_of hb (by omega)), clT_ok, needRangeN (a := 0) (b := 9999) rfl rfl, if_pos (inN_of (Nat.zero_le _) hl (by decide)), clT_ok, e1, cl_some, rdI_n (by omega) (by decide), wrI_n (by omega) (by decide), eold]
  · show f_X12_setLimit Z (sL (sI M1 13 b (nI l)) 124 0 v.toInt64) (nI b) (nI l) = _
    unfold f_X12_setLimit
    rw [noBudget1 s1 (by rw [s2]; exact h.b.2.1) hB, if_pos (inR_of hb (by omega)), cl_some, if_pos rfl, in_N (a := 0) (b := 9999) rfl rfl, cl_some, rfz T0_0 (by decide), if_pos (inN_of (Nat.zero_le _) hl (by decide)), if_pos rfl, e4, cl_some, show (40 : Int32) = nI 40 from rfl, nI_add, rdI_n (by omega) (by decide), wrI_n (by omega) (by decide), j109, hv]
theorem ck_setLimit {Z : Nat} {M : Mem} (hZ : 4000 < Z) (hI : Inv M) (p1 p2 : Int32) : CK (f_L_setLimit Z M p1 p2) (fun M => f_X12_setLimit Z M p1 p2) (·.toInt64) := by
  unfold f_L_setLimit
  rcases hI.2.2.2.2.2 with h | h
  · exact CK.er hI (e := 0) (c := 1) (w := 0) (by unfold f_X11_setLimit; rw [needBudget0 h.2.1]; rfl) rfl (by decide) (by unfold f_X12_setLimit; rw [noBudget0 h.1]; rfl)
  · by_cases hp : inR p1 (cB (gI M 112))
    · by_cases hp2 : inN p2 0 9999
      · obtain ⟨b, hb, rfl⟩ := inR_nI hp
        obtain ⟨l, _, hl, rfl⟩ := inN_nI hp2
        exact CK.mk (ok_setLimit hZ hI h hb hl)
      · exact CK.er hI (e := 2) (c := 3) (w := 0) (by unfold f_X11_setLimit; rw [h.nB, if_pos hp, clT_ok, needRangeN (a := 0) (b := 9999) rfl rfl, if_neg hp2]; rfl) rfl (by decide) (by unfold f_X12_setLimit; rw [h.rB, if_pos hp, cl_some, if_pos rfl, in_N (a := 0) (b := 9999) rfl rfl, cl_some, rfz T0_0 (by decide), if_neg hp2]; rfl)
    · exact CK.er hI (e := 1) (c := 2) (w := 0) (by unfold f_X11_setLimit; rw [h.nB, if_neg hp]; rfl) rfl (by decide) (by unfold f_X12_setLimit; rw [h.rB, if_neg hp]; rfl)
theorem b_law_53 {Z L a : Nat} {xs : Nat → Int32} {M : Mem} {j : Mem → Option Unit} (hZ : 4000 < Z) (hI : Inv M) (ha : a + 6 ≤ L) (hL : L ≤ 3072) (hj : ∀ M1, Inv M1 → j M1 = some ()) : f_law_53 Z L xs M (nI a) j = some () := by
  unfold f_law_53
  simp (disch := omega) only [i1, i2, nI_add, rdX_n]
  generalize xs (a + 1) = p1
  generalize xs (a + 2) = p2
  exact (ck_setLimit hZ hI p1 p2).tail hj
/-- fields of the settings in the class: a change of one -/
theorem ok_setStart {Z : Nat} (hZ : 4000 < Z) {M : Mem} (hI : Inv M) (h : Has M) {x : Nat} (hx : x < cN (gI M 112)) : OKc (f_X11_setStart Z M (nI x)) (fun M => f_X12_setStart Z M (nI x)) (·.toInt64) (·.toInt64) := by
  have hN := h.N
  have hz := h.z
  obtain ⟨M1, e1, m1, H⟩ := change hZ hI h
  have f2 : fr lC M1 (sI M1 10 3 (nI x)) := fr_sI fr.rfl (by decide)
  have eold : gI M1 10 3 = gI M 109 0 := by
    rw [(m1 10 (by decide) (by decide) (by decide)).1]
    exact h.RS.1.1
  generalize hv : gI M 109 0 = v at eold
  obtain ⟨M4, e4, f4, K⟩ := H (sI M1 10 3 (nI x)) v.toInt64 f2
  obtain ⟨s1, s2, s3⟩ := chg_sL (v := v.toInt64) h m1 f2
  have j109 : gI M4 109 = gI M 109 := by rw [f4.i (by decide) (by decide), T0_I (by decide), s3]
  have f5 : fr lR M4 (sI M4 109 0 (nI x)) := fr_sI fr.rfl (by decide)
  have S5 : ∀ i, gI (sI M4 109 0 (nI x)) 109 i = if i = 0 then nI x else gI M 109 i := fun i => by
    rw [gI_sI, j109]
    by_cases c : i = 0
    · rw [if_pos ⟨rfl, c⟩, if_pos c]
    · rw [if_neg (fun z => c z.2), if_neg c]
  have Sn : ∀ i, i ≠ 0 → gI (sI M4 109 0 (nI x)) 109 i = gI M 109 i := fun i hi => by rw [S5, if_neg hi]
  have mo : ∀ o, o ≠ 10 → 10 ≤ o → o < 16 → gI (sI M4 109 0 (nI x)) o = gI M o := fun o h1 h2 h3 => by
    rw [gI_sI', if_neg (by omega), f4.i (by simp; omega) (by omega), T0_I (by omega), gI_sL', gI_sI', if_neg h1, (m1 o (by omega) (by omega) (by omega)).1]
  have m10 : ∀ k, gI (sI M4 109 0 (nI x)) 10 k = if k = 3 then nI x else gI M 10 k := fun k => by
    rw [gI_sI', if_neg (by decide), f4.i (by decide) (by decide), T0_I (by decide), gI_sL', gI_sI, (m1 10 (by decide) (by decide) (by decide)).1]
    by_cases c : k = 3
    · rw [if_pos ⟨rfl, c⟩, if_pos c]
    · rw [if_neg (fun z => c z.2), if_neg c]
  have hV := h.VS
  have hV5 : VS (gI M 112) (gI (sI M4 109 0 (nI x)) 109) := by
    refine VS.mk ?_ (hV.v1.congr (Sn 1 (by omega))) (hV.v2.congr (Sn 2 (by omega))) (hV.v3.congr (fun r hr => Sn _ (by omega))) (V4.congr hN.2 hz.2.1 hV.v4 (fun r hr => Sn _ (by omega))) (hV.v5.congr (fun k hk => Sn _ (by omega))) (hV.v6.congr (Sn 3 (by omega)) (fun i h1 h2 => Sn _ (by omega)))
    have e : gI (sI M4 109 0 (nI x)) 109 0 = nI x := by rw [S5, if_pos rfl]
    unfold V0
    rw [pn_n e (by omega), e]
    exact ⟨rfl, hx⟩
  have hR5 : RS (gI M 112) (sI M4 109 0 (nI x)) 10 (gI (sI M4 109 0 (nI x)) 109) := by
    obtain ⟨⟨a1, a2, a3, a4⟩, b1, c, d, e, f⟩ := h.RS
    refine ⟨⟨?_, ?_, ?_, ?_⟩, fun r hr => ?_, fun x hx => ?_, fun k hk => ?_, fun t ht => ?_, fun t ht => ?_⟩
    · rw [m10, S5, if_pos rfl, if_pos rfl]
    · rw [m10, if_neg (by decide), Sn 1 (by omega)]; exact a2
    · rw [m10, if_neg (by decide), Sn 2 (by omega)]; exact a3
    · rw [m10, if_neg (by decide), Sn 3 (by omega)]; exact a4
    · rw [mo (10 + 1) (by decide) (by decide) (by decide), Sn _ (by omega)]; exact b1 r hr
    · obtain ⟨q, q1, q2, q3⟩ := c x hx
      have := hz.2.1 x
      exact ⟨q, q1, by rw [mo (10 + 2) (by decide) (by decide) (by decide)]; exact q2, fun a ha => by rw [Sn _ (by omega)]; exact q3 a ha⟩
    · rw [mo (10 + 3) (by decide) (by decide) (by decide), Sn _ (by omega)]; exact d k hk
    · rw [mo (10 + 4) (by decide) (by decide) (by decide), Sn _ (by omega)]; exact e t ht
    · rw [mo (10 + 5) (by decide) (by decide) (by decide), Sn _ (by omega)]; exact f t ht
  obtain ⟨i5, z5, o5⟩ := K _ f5 hV5 hR5
  refine ⟨v, v, sI M1 10 3 (nI x), _, ?_, ?_, i5, z5, o5⟩
  · unfold f_X11_setStart
    rw [h.nS, if_pos (inR_of hx (by omega)), clT_ok, e1, cl_some, bd_eq, bd_eq, eold]
  · show f_X12_setStart Z (sL (sI M1 10 3 (nI x)) 124 0 v.toInt64) (nI x) = _
    unfold f_X12_setStart
    rw [noState1 s1 (by rw [s2]; exact h.2.1.n) hN.2, if_pos (inR_of hx (by omega)), cl_some, if_pos rfl, e4, cl_some, i0, rdI_n (by omega) (by decide), wrI_n (by omega) (by decide), j109, hv]
theorem ck_setStart {Z : Nat} {M : Mem} (hZ : 4000 < Z) (hI : Inv M) (p1 : Int32) : CK (f_L_setStart Z M p1) (fun M => f_X12_setStart Z M p1) (·.toInt64) := by
  unfold f_L_setStart
  rcases hI.2.2.2.2.2 with h | h
  · exact CK.er hI (e := 0) (c := 1) (w := 0) (by unfold f_X11_setStart; rw [needState0 h.2.1]; rfl) rfl (by decide) (by unfold f_X12_setStart; rw [noState0 h.1]; rfl)
  · by_cases hp : inR p1 (cN (gI M 112))
    · obtain ⟨x, hx, rfl⟩ := inR_nI hp
      exact CK.mk (ok_setStart hZ hI h hx)
    · exact CK.er hI (e := 1) (c := 2) (w := 0) (by unfold f_X11_setStart; rw [h.nS, if_neg hp]; rfl) rfl (by decide) (by unfold f_X12_setStart; rw [h.rS, if_neg hp]; rfl)
theorem b_law_54 {Z L a : Nat} {xs : Nat → Int32} {M : Mem} {j : Mem → Option Unit} (hZ : 4000 < Z) (hI : Inv M) (ha : a + 6 ≤ L) (hL : L ≤ 3072) (hj : ∀ M1, Inv M1 → j M1 = some ()) : f_law_54 Z L xs M (nI a) j = some () := by
  unfold f_law_54
  simp (disch := omega) only [i1, nI_add, rdX_n]
  generalize xs (a + 1) = p1
  exact (ck_setStart hZ hI p1).tail hj
theorem ok_setHorizon {Z : Nat} (hZ : 4000 < Z) {M : Mem} (hI : Inv M) (h : Has M) {x : Nat} (hx1 : 1 ≤ x) (hx : x ≤ 5) : OKc (f_X11_setHorizon Z M (nI x)) (fun M => f_X12_setHorizon Z M (nI x)) (·.toInt64) (·.toInt64) := by
  have hN := h.N
  have hz := h.z
  obtain ⟨M1, e1, m1, H⟩ := change hZ hI h
  have f2 : fr lC M1 (sI M1 10 4 (nI x)) := fr_sI fr.rfl (by decide)
  have eold : gI M1 10 4 = gI M 109 1 := by
    rw [(m1 10 (by decide) (by decide) (by decide)).1]
    exact h.RS.1.2.1
  generalize hv : gI M 109 1 = v at eold
  obtain ⟨M4, e4, f4, K⟩ := H (sI M1 10 4 (nI x)) v.toInt64 f2
  obtain ⟨s1, s2, s3⟩ := chg_sL (v := v.toInt64) h m1 f2
  have j109 : gI M4 109 = gI M 109 := by rw [f4.i (by decide) (by decide), T0_I (by decide), s3]
  have f5 : fr lR M4 (sI M4 109 1 (nI x)) := fr_sI fr.rfl (by decide)
  have S5 : ∀ i, gI (sI M4 109 1 (nI x)) 109 i = if i = 1 then nI x else gI M 109 i := fun i => by
    rw [gI_sI, j109]
    by_cases c : i = 1
    · rw [if_pos ⟨rfl, c⟩, if_pos c]
    · rw [if_neg (fun z => c z.2), if_neg c]
  have Sn : ∀ i, i ≠ 1 → gI (sI M4 109 1 (nI x)) 109 i = gI M 109 i := fun i hi => by rw [S5, if_neg hi]
  have mo : ∀ o, o ≠ 10 → 10 ≤ o → o < 16 → gI (sI M4 109 1 (nI x)) o = gI M o := fun o h1 h2 h3 => by
    rw [gI_sI', if_neg (by omega), f4.i (by simp; omega) (by omega), T0_I (by omega), gI_sL', gI_sI', if_neg h1, (m1 o (by omega) (by omega) (by omega)).1]
  have m10 : ∀ k, gI (sI M4 109 1 (nI x)) 10 k = if k = 4 then nI x else gI M 10 k := fun k => by
    rw [gI_sI', if_neg (by decide), f4.i (by decide) (by decide), T0_I (by decide), gI_sL', gI_sI, (m1 10 (by decide) (by decide) (by decide)).1]
    by_cases c : k = 4
    · rw [if_pos ⟨rfl, c⟩, if_pos c]
    · rw [if_neg (fun z => c z.2), if_neg c]
  have hV := h.VS
  have hV5 : VS (gI M 112) (gI (sI M4 109 1 (nI x)) 109) := by
    refine VS.mk (hV.v0.congr (Sn 0 (by omega))) ?_ (hV.v2.congr (Sn 2 (by omega))) (hV.v3.congr (fun r hr => Sn _ (by omega))) (V4.congr hN.2 hz.2.1 hV.v4 (fun r hr => Sn _ (by omega))) (hV.v5.congr (fun k hk => Sn _ (by omega))) (hV.v6.congr (Sn 3 (by omega)) (fun i h1 h2 => Sn _ (by omega)))
    have e : gI (sI M4 109 1 (nI x)) 109 1 = nI x := by rw [S5, if_pos rfl]
    unfold V1
    rw [pn_n e (by omega), e]
    exact ⟨rfl, hx1, hx⟩
  have hR5 : RS (gI M 112) (sI M4 109 1 (nI x)) 10 (gI (sI M4 109 1 (nI x)) 109) := by
    obtain ⟨⟨a1, a2, a3, a4⟩, b1, c, d, e, f⟩ := h.RS
    refine ⟨⟨?_, ?_, ?_, ?_⟩, fun r hr => ?_, fun x hx => ?_, fun k hk => ?_, fun t ht => ?_, fun t ht => ?_⟩
    · rw [m10, if_neg (by decide), Sn 0 (by omega)]; exact a1
    · rw [m10, S5, if_pos rfl, if_pos rfl]
    · rw [m10, if_neg (by decide), Sn 2 (by omega)]; exact a3
    · rw [m10, if_neg (by decide), Sn 3 (by omega)]; exact a4
    · rw [mo (10 + 1) (by decide) (by decide) (by decide), Sn _ (by omega)]; exact b1 r hr
    · obtain ⟨q, q1, q2, q3⟩ := c x hx
      have := hz.2.1 x
      exact ⟨q, q1, by rw [mo (10 + 2) (by decide) (by decide) (by decide)]; exact q2, fun a ha => by rw [Sn _ (by omega)]; exact q3 a ha⟩
    · rw [mo (10 + 3) (by decide) (by decide) (by decide), Sn _ (by omega)]; exact d k hk
    · rw [mo (10 + 4) (by decide) (by decide) (by decide), Sn _ (by omega)]; exact e t ht
    · rw [mo (10 + 5) (by decide) (by decide) (by decide), Sn _ (by omega)]; exact f t ht
  obtain ⟨i5, z5, o5⟩ := K _ f5 hV5 hR5
  refine ⟨v, v, sI M1 10 4 (nI x), _, ?_, ?_, i5, z5, o5⟩
  · unfold f_X11_setHorizon
    rw [h.nC, clT_ok, needRangeN (a := 1) (b := 5) rfl rfl, if_pos (inN_of hx1 hx (by decide)), clT_ok, e1, cl_some, bd_eq, bd_eq, eold]
  · show f_X12_setHorizon Z (sL (sI M1 10 4 (nI x)) 124 0 v.toInt64) (nI x) = _
    unfold f_X12_setHorizon
    rw [noChainT s1, cl_some, if_pos rfl, in_N (a := 1) (b := 5) rfl rfl, cl_some, rfz T0_0 (by decide), if_pos (inN_of hx1 hx (by decide)), if_pos rfl, e4, cl_some, i1, rdI_n (by omega) (by decide), wrI_n (by omega) (by decide), j109, hv]
theorem ck_setHorizon {Z : Nat} {M : Mem} (hZ : 4000 < Z) (hI : Inv M) (p1 : Int32) : CK (f_L_setHorizon Z M p1) (fun M => f_X12_setHorizon Z M p1) (·.toInt64) := by
  unfold f_L_setHorizon
  rcases hI.2.2.2.2.2 with h | h
  · exact CK.er hI (e := 0) (c := 1) (w := 0) (by unfold f_X11_setHorizon; rw [needChain0 h.2.1]; rfl) rfl (by decide) (by unfold f_X12_setHorizon; rw [noChain0 h.1]; rfl)
  · by_cases hp : inN p1 1 5
    · obtain ⟨x, h1, hx, rfl⟩ := inN_nI hp
      exact CK.mk (ok_setHorizon hZ hI h h1 hx)
    · exact CK.er hI (e := 2) (c := 2) (w := 0) (by unfold f_X11_setHorizon; rw [h.nC, clT_ok, needRangeN (a := 1) (b := 5) rfl rfl, if_neg hp]; rfl) rfl (by decide) (by unfold f_X12_setHorizon; rw [h.rC, cl_some, if_pos rfl, in_N (a := 1) (b := 5) rfl rfl, cl_some, rfz T0_0 (by decide), if_neg hp]; rfl)
theorem b_law_55 {Z L a : Nat} {xs : Nat → Int32} {M : Mem} {j : Mem → Option Unit} (hZ : 4000 < Z) (hI : Inv M) (ha : a + 6 ≤ L) (hL : L ≤ 3072) (hj : ∀ M1, Inv M1 → j M1 = some ()) : f_law_55 Z L xs M (nI a) j = some () := by
  unfold f_law_55
  simp (disch := omega) only [i1, nI_add, rdX_n]
  generalize xs (a + 1) = p1
  exact (ck_setHorizon hZ hI p1).tail hj
