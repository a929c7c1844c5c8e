/-! rules: a new row of weights, drawn, for law and class -/
def J21 (M : Mem) (b K a : Nat) (M1 : Mem) : Prop := fr [108, b] M M1 ∧ (∃ k, gI M1 108 1 = nI k ∧ k ≤ K + a) ∧ WS M1 b (a + 1)
theorem WS.wo {M : Mem} {o m : Nat} (h : WS M o m) (h1 : 1 ≤ m) (h3 : m ≤ 3) : WO m (pn (gI M o)) := by
  obtain ⟨g1, g2, g3⟩ := h
  have z : ∀ a, m ≤ a → a < 3 → pn (gI M o) a = 0 := fun a ha h => pn_n (g3 a ha h) (by decide)
  refine ⟨?_, z⟩
  have : m = 1 ∨ m = 2 ∨ m = 3 := by omega
  rcases this with c | c | c
  · subst c
    have z1 := z 1 (by omega) (by omega)
    have z2 := z 2 (by omega) (by omega)
    simp only [sm] at g2
    omega
  · subst c
    have z2 := z 2 (by omega) (by omega)
    simp only [sm] at g2
    omega
  · subst c
    simp only [sm] at g2
    omega
theorem rules21 {Z b K x LX c : Nat} {xs : Nat → Int32} {P S : Nat → Int32} {wr : Nat → Nat} {M : Mem} {R : Option (Unit × Mem) → Prop} {k : Mem → Option (Unit × Mem)} (hL : LX < 2147483647) (h : LI b K P S wr M) (hb3 : b < 300) (hK9 : K < 900000) (hx : x < cN P) (hc : c ≤ 30) (hK : ∀ M1, J21 M b K (cM P x - 1) M1 → R (k M1)) : ∀ d fu a M1, a + 1 + d = cM P x → d < fu → J21 M b K a M1 → R (f_L_rules_L21 (shB b) Z LX xs (nI x) b c k fu (nI a) M1) := by
  intro d
  have hN := h.C.N.2
  have hm := h.C.z.2.1 x
  have hb := h.2.1.2.2.1
  induction d with
  | zero =>
    intro fu a M1 hd hf hJ
    obtain ⟨fu, rfl⟩ := Nat.exists_eq_succ_of_ne_zero (Nat.ne_of_gt hf)
    have e7 : gI M1 111 x = nI (cM P x) := by rw [hJ.1.I (by simp; omega)]; exact h.P.2.2.1 x hx
    rw [f_L_rules_L21]
    refine rdI_R' (by omega) (by decide) e7 ?_
    rw [show nI a + (1 : Int32) = nI (a + 1) from nI_add a 1]
    exact ifp_R (by rw [nI_ile (by omega) (by omega)]; omega) (hK M1 (by rw [show cM P x - 1 = a by omega]; exact hJ))
  | succ d ih =>
    intro fu a M1 hd hf hJ
    obtain ⟨fu, rfl⟩ := Nat.exists_eq_succ_of_ne_zero (show fu ≠ 0 by omega)
    obtain ⟨f1, ⟨k1, hk1, hk2⟩, hW⟩ := hJ
    have e7 : gI M1 111 x = nI (cM P x) := by rw [f1.I (by simp; omega)]; exact h.P.2.2.1 x hx
    have le := WS_le hW (by omega) a (by omega)
    rw [f_L_rules_L21]
    refine rdI_R' (by omega) (by decide) e7 ?_
    rw [show nI a + (1 : Int32) = nI (a + 1) from nI_add a 1]
    refine ifn_R (by rw [nI_ile (by omega) (by omega)]; omega) (rdI_R' (by omega) (by decide) (hW.1 a (by omega)) (ifp_R (by omega) ?_))
    refine next_R hk1 (by omega) i0 rfl (Nat.zero_le _) (by omega) hL (fun v _ hv => ?_)
    refine wrI_R rfl (show a + 1 < 3 by omega) (by decide) ?_
    have ga : gI (sI (sI M1 108 1 (nI (k1 + 1))) b (a + 1) (nI v)) b a = nI (pn (gI M1 b) a) := by
      rw [gI_sI, if_neg (fun z => by have := z.2; omega), gI_sI, if_neg (fun z => by have := z.1; omega)]
      exact hW.1 a (by omega)
    refine rdI_R' (by omega) (by decide) ga (rdI_R' (by omega) (by decide) gI_same ?_)
    rw [nI_sub hv]
    refine wrI_R rfl (show a < 3 by omega) (by decide) (ih fu (a + 1) _ (by omega) (by omega) ⟨fr_sI (fr_sI (fr_sI f1 (by simp)) (by simp)) (by simp), ⟨k1 + 1, ?_, by omega⟩, ?_⟩)
    · rw [gI_sI, if_neg (fun z => by have := z.1; omega), gI_sI, if_neg (fun z => by have := z.1; omega), gI_sI, if_pos ⟨rfl, rfl⟩]
    · refine hW.step (a := a) (v := v) (by omega) hv (fun j => ?_)
      rw [gI_sI]
      by_cases c1 : j = a
      · rw [if_pos ⟨rfl, c1⟩, if_neg (by omega), if_pos c1]
      · rw [if_neg (fun z => c1 z.2), gI_sI]
        by_cases c2 : j = a + 1
        · rw [if_pos ⟨rfl, c2⟩, if_pos c2]
        · rw [if_neg (fun z => c2 z.2), if_neg c2, if_neg c1, gI_sI, if_neg (fun z => by have := z.1; omega)]
theorem rules_ok {Z b K x LX : Nat} {xs : Nat → Int32} {P S : Nat → Int32} {wr : Nat → Nat} {M : Mem} (hZ : 60 < Z) (hL : LX < 2147483647) (h : LI b K P S wr M) (hb3 : b < 300) (hK9 : K < 900000) (hx : x < cN P) : ∃ M' S' wr', f_L_rules b Z LX xs M (nI x) = some ((), M') ∧ LI (b + 1) (K + 2) P S' wr' M' := by
  obtain ⟨R, hRR⟩ : ∃ R : Option (Unit × Mem) → Prop, R = fun q => ∃ M' S' wr', q = some ((), M') ∧ LI (b + 1) (K + 2) P S' wr' M' := ⟨_, rfl⟩
  suffices H : R (f_L_rules b Z LX xs M (nI x)) by rw [hRR] at H; exact H
  have hfin : ∀ M' S' wr', LI (b + 1) (K + 2) P S' wr' M' → R (some ((), M')) := fun M' S' wr' h => by rw [hRR]; exact ⟨M', S', wr', rfl, h⟩
  clear hRR
  have hN := h.C.N.2
  have hm := h.C.z.2.1 x
  have hm1 := h.C.1.2.2.2.1 x hx
  have hb := h.2.1.2.2.1
  have hzb := h.2.2.2.1 b (Nat.le_refl _) hb3
  unfold f_L_rules
  rw [if_pos ⟨hzb, hb, hb3⟩]
  unfold f_L_rules_b
  refine wrI_R i0 (by decide) (by decide) (wrI_R i1 (by decide) (by decide) (wrI_R i2 (by decide) (by decide) ?_))
  obtain ⟨k0, hk0, hk1⟩ := h.2.2.2.2
  have j0 : J21 M b K 0 (sI (sI (sI M b 0 (10 : Int32)) b 1 (0 : Int32)) b 2 (0 : Int32)) := by
    have g : ∀ j, gI (sI (sI (sI M b 0 (10 : Int32)) b 1 (0 : Int32)) b 2 (0 : Int32)) b j = if j = 0 then nI 10 else nI 0 := fun j => by
      rw [gI_sI]
      by_cases c2 : j = 2
      · rw [if_pos ⟨rfl, c2⟩, if_neg (by omega)]
        rfl
      · rw [if_neg (fun z => c2 z.2), gI_sI]
        by_cases c1 : j = 1
        · rw [if_pos ⟨rfl, c1⟩, if_neg (by omega)]
          rfl
        · rw [if_neg (fun z => c1 z.2), gI_sI]
          by_cases c0 : j = 0
          · rw [if_pos ⟨rfl, c0⟩, if_pos c0]
            rfl
          · rw [if_neg (fun z => c0 z.2), if_neg c0]
            exact hzb.1 j
    have gp : ∀ j, pn (gI (sI (sI (sI M b 0 (10 : Int32)) b 1 (0 : Int32)) b 2 (0 : Int32)) b) j = if j = 0 then 10 else 0 := fun j => by
      unfold pn
      rw [g]
      split <;> exact nI_clamp (by decide)
    refine ⟨fr_sI (fr_sI (fr_sI fr.rfl (by simp)) (by simp)) (by simp), ⟨k0, ?_, hk1⟩, fun a _ => ?_, ?_, fun a ha _ => ?_⟩
    · rw [gI_sI, if_neg (fun z => by have := z.1; omega), gI_sI, if_neg (fun z => by have := z.1; omega), gI_sI, if_neg (fun z => by have := z.1; omega)]
      exact hk0
    · rw [gp, g]
      split <;> rfl
    · show 0 + pn _ 0 = 10
      rw [gp, if_pos rfl]
    · rw [g, if_neg (by omega)]
  refine rules21 hL h hb3 hK9 hx (by decide) (fun M1 hJ => ?_) (cM P x - 1) Z 0 _ (by omega) (by omega) j0
  obtain ⟨f1, ⟨k1, hk2, hk3⟩, hW⟩ := hJ
  rw [show cM P x - 1 + 1 = cM P x by omega] at hW
  have hwo := hW.wo hm1 hm
  refine ifp_R ⟨inB_nI (by omega) (by omega), by decide⟩ ?_
  rw [nI_clamp (by omega)]
  have f2 : fr [108, b, 119] M (sR M1 119 x (some b)) := fr_sR (f1.mono (by simp)) (by simp)
  have g119 : ∀ y, gR (sR M1 119 x (some b)) 119 y = if y = x then some b else gR M 119 y := fun y => by
    rw [gR_sR, f1.R (by simp; omega)]
    by_cases c : y = x
    · rw [if_pos ⟨rfl, c⟩, if_pos c]
    · rw [if_neg (fun z => c z.2), if_neg c]
  have gb : gI (sR M1 119 x (some b)) b = gI M1 b := rfl
  have gk : gI (sR M1 119 x (some b)) 108 1 = nI k1 := hk2
  generalize sR M1 119 x (some b) = M2 at f2 g119 gb gk ⊢
  have h2 : HasC P S M2 := h.C.fr f2 (by simp; omega)
  generalize hwn : pn (gI M1 b) = w at hW hwo
  have hwI : ∀ a, a < 3 → gI M2 b a = nI (w a) := fun a ha => by rw [gb, ← hwn]; exact hW.1 a ha
  obtain ⟨M3, e3, f3, h3⟩ := c_setRule hZ h2 hx hwo
  obtain ⟨M4, e4, f4⟩ := q_broken hZ h3
  unfold f_L_rules_c
  refine rdI_R i0 (by decide) (by decide) (rdI_R i1 (by decide) (by decide) (rdI_R i2 (by decide) (by decide) ?_))
  rw [hwI 0 (by decide), hwI 1 (by decide), hwI 2 (by decide)]
  refine ifp_R (by decide) (clT_R e3 (ifp_R (by decide) (clT_R e4 (ifp_R rfl (ifp_R (by decide) (hfin M4 (S3w S x w) (fun y => if y = x then b else wr y) ?_))))))
  have h4 : HasC P (S3w S x w) M4 := h3.fr (fr3 f4) (fun o ho => (scr_ok o ho).2)
  have e24 : ∀ o, 105 ≤ o → gI M4 o = gI M2 o ∧ gL M4 o = gL M2 o ∧ gR M4 o = gR M2 o := fun o ho => by
    have := (f3.trans (sc_ch f4)) o (fun z => by rw [lCh_in] at z; omega)
    exact this
  have eM : ∀ o, 109 ≤ o → o ≠ b → o ≠ 119 → gI M4 o = gI M o ∧ gL M4 o = gL M o ∧ gR M4 o = gR M o := fun o ho h1 h2 => by
    obtain ⟨a1, a2, a3⟩ := e24 o (by omega)
    obtain ⟨b1, b2, b3⟩ := f2 o (by simp; omega)
    exact ⟨a1.trans b1, a2.trans b2, a3.trans b3⟩
  obtain ⟨⟨_, hP, hS, hR⟩, hbd, hzt, hzz, -⟩ := h
  have wne : ∀ y, y < 6 → wr y ≠ b ∧ wr y ≠ 119 ∧ 109 ≤ wr y := fun y hy => by
    have := hR.2.2 y hy
    omega
  refine ⟨⟨h4, hP.fr hN h4.z.2.1 (by rw [(eM 109 (by omega) (by omega) (by omega)).1]) (by rw [(eM 109 (by omega) (by omega) (by omega)).1]) (fun o a c d => (eM o (by omega) (by omega) (by omega)).1), ?_, ?_⟩, ⟨hbd.1, ?_, by omega, by omega⟩, fun o a c => ?_, fun o a c => ?_, k1, by rw [(e24 108 (by decide)).1]; exact gk, by omega⟩
  · obtain ⟨s1, s2, s3, s4, s5⟩ := hS
    have n : ∀ {i}, ¬ (4 ≤ i ∧ i < 22) → S3w S x w i = S i := fun {i} hi => S3w_ne (by omega)
    refine ⟨?_, fun y hy a ha => ?_, fun y hy a ha => ?_, fun b9 hb9 => ?_, fun n9 hn9 e9 => ?_⟩
    · rw [(eM 109 (by omega) (by omega) (by omega)).1, n (by omega), n (by omega), n (by omega), n (by omega)]
      exact s1
    · show gI M4 (if y = x then b else wr y) a = _
      by_cases cy : y = x
      · rw [if_pos cy, cy, sW_in hwo (by omega) ha, (e24 b (by omega)).1]
        exact hwI a ha
      · obtain ⟨q1, q2, q3⟩ := wne y (by omega)
        rw [if_neg cy, (eM (wr y) q3 q1 q2).1, sW_ne (by omega)]
        exact s2 y hy a ha
    · have := h4.z.2.1 y
      rw [(eM (202 + y) (by omega) (by omega) (by omega)).1, n (by omega)]
      exact s3 y hy a ha
    · rw [(eM 110 (by omega) (by omega) (by omega)).1, n (by omega)]
      exact s4 b9 hb9
    · rw [n (by omega)] at e9
      obtain ⟨t1, t2⟩ := s5 n9 hn9 e9
      exact ⟨fun t ht => by rw [(eM 208 (by omega) (by omega) (by omega)).1, n (by omega)]; exact t1 t ht, fun t ht => by rw [(eM 209 (by omega) (by omega) (by omega)).1, n (by omega)]; exact t2 t ht⟩
  · obtain ⟨⟨r1, r2⟩, r3, r4⟩ := hR
    have er : ∀ o, 109 ≤ o → o ≠ b → o ≠ 119 → gR M4 o = gR M o := fun o a c d => (eM o a c d).2.2
    refine ⟨⟨fun y hy => ?_, fun y hy a ha => ?_⟩, fun y hy => ?_, fun y hy => ?_⟩
    · rw [er 112 (by omega) (by omega) (by omega), er 126 (by omega) (by omega) (by omega), er 151 (by omega) (by omega) (by omega), er 176 (by omega) (by omega) (by omega), er 201 (by omega) (by omega) (by omega)]
      exact r1 y hy
    · rw [er (127 + 4 * y) (by omega) (by omega) (by omega), er (152 + 4 * y) (by omega) (by omega) (by omega), er (177 + 4 * y) (by omega) (by omega) (by omega)]
      exact r2 y hy a ha
    · show gR M4 119 y = some (if y = x then b else wr y)
      rw [(e24 119 (by decide)).2.2, g119]
      by_cases cy : y = x
      · rw [if_pos cy, if_pos cy]
      · rw [if_neg cy, if_neg cy]
        exact r3 y hy
    · show (if y = x then b else wr y) = 120 + y ∨ _ ≤ (if y = x then b else wr y) ∧ (if y = x then b else wr y) < b + 1 ∧ _
      have := r4 y hy
      by_cases cy : y = x
      · rw [if_pos cy]
        omega
      · rw [if_neg cy]
        omega
  · rw [show pn (S3w S x w) 1 = pn S 1 from pn_c (S3w_ne (by omega))]
    exact hbd.2.1
  · unfold zeroM
    rw [(eM o (by omega) (by omega) (by omega)).1, (eM o (by omega) (by omega) (by omega)).2.1, (eM o (by omega) (by omega) (by omega)).2.2]
    exact hzt o a c
  · unfold zeroM
    rw [(eM o (by omega) (by omega) (by omega)).1, (eM o (by omega) (by omega) (by omega)).2.1, (eM o (by omega) (by omega) (by omega)).2.2]
    exact hzz o (by omega) c
