/-! walks -/
theorem HasC.dc {P S : Nat → Int32} {M : Mem} (h : HasC P S M) : DC P M := by
  refine ⟨h.c, fun r hr => ?_, fun r hr k hk hk6 => ?_⟩
  · rw [show (9 : Nat) = 3 + 6 from rfl, h.2.1.2.2.2.2.2.2.1 r hr]
    exact h.1.t hr
  · rw [show (8 : Nat) = 3 + 5 from rfl, h.2.1.2.2.2.2.2.2.2 r hr k hk]
    exact h.1.o hr hk6
/-- the settings after a walk -/
def Sw (P S : Nat → Int32) (i : Nat) : Int32 := if i = 2 then nI (wkS (pn S 2) (pn S 1)) else if i = 3 then nI (pn S 1) else if 43 ≤ i ∧ i < 49 ∧ i - 43 ≤ pn S 1 then nI (wkX P (sW9 S) (pn S 2) (pn S 0) (i - 43)) else if 49 ≤ i ∧ i - 49 < pn S 1 then nI (wkA P (sW9 S) (pn S 2) (pn S 0) (i - 49)) else S i
theorem Sw_ne {P S : Nat → Int32} {i : Nat} (h2 : i ≠ 2) (h3 : i ≠ 3) (h : i < 43) : Sw P S i = S i := by
  unfold Sw
  rw [if_neg h2, if_neg h3, if_neg (by omega), if_neg (by omega)]
theorem Sw_x {P S : Nat → Int32} {t : Nat} (h : t < 6) : Sw P S (43 + t) = if t ≤ pn S 1 then nI (wkX P (sW9 S) (pn S 2) (pn S 0) t) else S (43 + t) := by
  unfold Sw
  rw [if_neg (by omega), if_neg (by omega), show 43 + t - 43 = t by omega]
  by_cases c : t ≤ pn S 1
  · rw [if_pos ⟨by omega, by omega, c⟩, if_pos c]
  · rw [if_neg (fun z => c z.2.2), if_neg (by omega), if_neg c]
theorem Sw_a {P S : Nat → Int32} {t : Nat} : Sw P S (49 + t) = if t < pn S 1 then nI (wkA P (sW9 S) (pn S 2) (pn S 0) t) else S (49 + t) := by
  unfold Sw
  rw [if_neg (by omega), if_neg (by omega), if_neg (by omega), show 49 + t - 49 = t by omega]
  by_cases c : t < pn S 1
  · rw [if_pos ⟨by omega, c⟩, if_pos c]
  · rw [if_neg (fun z => c z.2), if_neg c]
theorem Sw_wk {P S : Nat → Int32} (hV : VP P) (h : VS P S) : WK P (Sw P S) (pn S 1) := by
  have hK := h.W
  have hx := h.v0.2
  obtain ⟨e1, h1, h5⟩ := h.v1
  have hN := hV.2.1.2.1
  refine ⟨rfl, h1, h5, fun t ht => ?_, fun t ht => ?_⟩
  · have := wkX_lt hV hK hx (s := pn S 2) t
    have e : Sw P S (43 + t) = nI (wkX P (sW9 S) (pn S 2) (pn S 0) t) := by rw [Sw_x (by omega), if_pos ht]
    rw [pn_n e (by omega)]
    exact ⟨e, this⟩
  · have hx2 := wkX_lt hV hK hx (s := pn S 2) t
    have ha := wkA_lt hV hK hx (s := pn S 2) t
    have hm := hV.2.2.1 (wkX P (sW9 S) (pn S 2) (pn S 0) t)
    have e : Sw P S (43 + t) = nI (wkX P (sW9 S) (pn S 2) (pn S 0) t) := by rw [Sw_x (by omega), if_pos (by omega)]
    have e2 : Sw P S (49 + t) = nI (wkA P (sW9 S) (pn S 2) (pn S 0) t) := by rw [Sw_a, if_pos ht]
    rw [pn_n e (by omega), pn_n e2 (by omega)]
    exact ⟨e2, ha⟩
theorem VS.uw {P S : Nat → Int32} (hV : VP P) (h : VS P S) : VS P (Sw P S) := by
  have hN : cN P ≤ 6 := hV.2.1.2.1
  have hm := hV.2.2.1
  have hs := wkS_lt h.v2.2 (pn S 1)
  have n : ∀ {i}, i ≠ 2 → i ≠ 3 → i < 43 → Sw P S i = S i := fun {i} a b c => Sw_ne a b c
  have e2 : Sw P S 2 = nI (wkS (pn S 2) (pn S 1)) := rfl
  exact VS.mk (h.v0.congr (n (by omega) (by omega) (by omega))) (h.v1.congr (n (by omega) (by omega) (by omega))) ⟨by rw [pn_n e2 (by omega)]; exact e2, by rw [pn_n e2 (by omega)]; exact hs⟩ (h.v3.congr (fun r hr => n (by omega) (by omega) (by omega))) (h.v4.congr hN hm (fun r hr => n (by omega) (by omega) (by omega))) (h.v5.congr (fun b hb => n (by omega) (by omega) (by omega))) (Sw_wk hV h).v6
theorem c_walk {Z : Nat} {P S : Nat → Int32} {M : Mem} (hZ : 60 < Z) (h : HasC P S M) : ∃ M', f_X11_walk Z M = some (.ok (nI (wkX P (sW9 S) (pn S 2) (pn S 0) (pn S 1))), M') ∧ fr lCh M M' ∧ HasC P (Sw P S) M' := by
  obtain ⟨M1, e1, f1, h1⟩ := keep_C hZ h
  have hz := h1.hz
  have hst := h1.st
  have e5 : gI M1 10 5 = nI (pn S 2) := h1.rs.1.2.2.1.trans h1.s.v2.1
  have f2 : fr [14, 104] M1 (sI (sI (sI M1 104 1 (nI (pn S 2))) 104 2 (nI (pn S 0))) 14 0 (nI (pn S 0))) := fr_sI (fr_sI (fr_sI fr.rfl (by decide)) (by decide)) (by decide)
  have w0 : WKC P (sW9 S) (pn S 2) (pn S 0) 0 M1 (sI (sI (sI M1 104 1 (nI (pn S 2))) 104 2 (nI (pn S 0))) 14 0 (nI (pn S 0))) := by
    refine ⟨f2.mono (by decide), ?_, ?_, fun i => ?_, fun i => ?_⟩
    · rw [gI_sI, if_neg (by decide), gI_sI, if_neg (by decide), gI_sI, if_pos ⟨rfl, rfl⟩]
      rfl
    · rw [gI_sI, if_neg (by decide), gI_sI, if_pos ⟨rfl, rfl⟩]
      rfl
    · rw [gI_sI]
      by_cases c : i = 0
      · rw [if_pos ⟨rfl, c⟩, if_pos (by omega), c]
        rfl
      · rw [if_neg (fun z => c z.2), if_neg (by omega), gI_sI, if_neg (fun z => absurd z.1 (by decide)), gI_sI, if_neg (fun z => absurd z.1 (by decide))]
    · rw [if_neg (by omega), f2.I (by decide)]
  obtain ⟨M2, e2, g1, g2, g3, g4, g5⟩ := walkC_ok (Z := Z) h1.1 h1.dc (by omega) h1.s.W (fun r hr => h1.rs.w h1.s h1.N.2 r hr) h1.s.v2.2 hst.2 hz.2.2 hz.1 w0 (fun (M21 : Mem) => bd (gI M21 (10) 4) (fun v22 => bd (sI M21 (10) 6 v22) (fun M23 => bd (gI M23 (104) 1) (fun v24 => bd (sI M23 (10) 5 v24) (fun M25 => bd (gI M25 (104) 2) (fun v26 => some (Except.ok v26, M25)))))))
  have e3 : f_X11_walk Z M = some (.ok (nI (wkX P (sW9 S) (pn S 2) (pn S 0) (pn S 1))), sI (sI M2 10 6 (nI (pn S 1))) 10 5 (nI (wkS (pn S 2) (pn S 1)))) := by
    unfold f_X11_walk
    rw [h.nC, clT_ok, e1, cl_some, bd_eq, e5, bd_eq, bd_eq, gI_sI, if_neg (by decide), hst.1, bd_eq, bd_eq, gI_sI, if_neg (by decide), gI_sI, if_neg (by decide), hst.1, show (0 : Int32) = nI 0 from rfl, wrI_n (by decide) (by decide), e2, bd_eq, g1.I (by decide), hz.1, bd_eq, bd_eq, gI_sI, if_neg (by decide), g2, bd_eq, bd_eq, gI_sI, if_neg (by decide), gI_sI, if_neg (by decide), g3]
  have f3 : fr [10, 14, 15, 104] M1 (sI (sI M2 10 6 (nI (pn S 1))) 10 5 (nI (wkS (pn S 2) (pn S 1)))) := fr_sI (fr_sI (g1.mono (by decide)) (by decide)) (by decide)
  have k10 : ∀ k, gI (sI (sI M2 10 6 (nI (pn S 1))) 10 5 (nI (wkS (pn S 2) (pn S 1)))) 10 k = if k = 5 then nI (wkS (pn S 2) (pn S 1)) else if k = 6 then nI (pn S 1) else gI M1 10 k := fun k => by
    rw [gI_sI]
    by_cases c : k = 5
    · rw [if_pos ⟨rfl, c⟩, if_pos c]
    · rw [if_neg (fun z => c z.2), if_neg c, gI_sI]
      by_cases d : k = 6
      · rw [if_pos ⟨rfl, d⟩, if_pos d]
      · rw [if_neg (fun z => d z.2), if_neg d, g1.I (by decide)]
  have k14 : gI (sI (sI M2 10 6 (nI (pn S 1))) 10 5 (nI (wkS (pn S 2) (pn S 1)))) 14 = gI M2 14 := by rw [gI_sI', if_neg (by decide), gI_sI', if_neg (by decide)]
  have k15 : gI (sI (sI M2 10 6 (nI (pn S 1))) 10 5 (nI (wkS (pn S 2) (pn S 1)))) 15 = gI M2 15 := by rw [gI_sI', if_neg (by decide), gI_sI', if_neg (by decide)]
  generalize sI (sI M2 10 6 (nI (pn S 1))) 10 5 (nI (wkS (pn S 2) (pn S 1))) = M3 at e3 f3 k10 k14 k15
  refine ⟨M3, e3, (kp_ch f1).trans (f3.mono (by decide)), hasSet h1 f3 (by decide) (h.s.uw h.1) ?_⟩
  obtain ⟨⟨a1, a2, a3, a4⟩, b, c, d, e, f⟩ := h1.rs
  have g : ∀ o, o = 11 ∨ o = 12 ∨ o = 13 → gI M3 o = gI M1 o := fun o ho => f3.I (by simp; omega)
  refine ⟨⟨by rw [k10, if_neg (by decide), if_neg (by decide)]; exact a1, by rw [k10, if_neg (by decide), if_neg (by decide)]; exact a2, by rw [k10, if_pos rfl]; rfl, by rw [k10, if_neg (by decide), if_pos rfl]; rfl⟩, fun r hr => by rw [g _ (by omega), Sw_ne (by omega) (by omega) (by have := h.N.2; omega)]; exact b r hr, fun x hx => ?_, fun k hk => by rw [g _ (by omega), Sw_ne (by omega) (by omega) (by omega)]; exact d k hk, fun t ht => ?_, fun t ht => ?_⟩
  · obtain ⟨q, q1, q2, q3⟩ := c x hx
    have := h.z.2.1 x
    have := h.N.2
    exact ⟨q, q1, by rw [g _ (by omega)]; exact q2, fun a ha => by rw [Sw_ne (by omega) (by omega) (by omega)]; exact q3 a ha⟩
  · show gI M3 14 t = _
    rw [k14, g4, Sw_x ht]
    by_cases c : t ≤ pn S 1
    · rw [if_pos c, if_pos c]
    · rw [if_neg c, if_neg c]
      exact e t ht
  · show gI M3 15 t = _
    rw [k15, g5, Sw_a]
    by_cases c : t < pn S 1
    · rw [if_pos c, if_pos c]
    · rw [if_neg c, if_neg c]
      exact f t ht
theorem q_walkGain {Z n : Nat} {P S : Nat → Int32} {M : Mem} (hZ : 60 < Z) (h : HasC P S M) (hw : WK P S n) : f_X11_walkGain Z M = some (.ok (smI n (fun t => P (14 + (pn S (43 + t) * 3 + pn S (49 + t))))), M) := by
  have e6 : gI M 10 6 = nI n := h.rs.1.2.2.2.trans hw.1
  have h5 := hw.2.2.1
  have hN := h.N.2
  unfold f_X11_walkGain
  rw [needWalk1 h.c.1 h.N, e6, if_neg (nI_ne_neg (by omega)), clT_ok]
  refine lpS (σ := Int32) (fun m t s => f_X11_walkGain_L8 Z m s (nI t) M) (fun r => r = some (.ok (smI n (fun t => P (14 + (pn S (43 + t) * 3 + pn S (49 + t))))), M)) (fun t s => s = smI t (fun t => P (14 + (pn S (43 + t) * 3 + pn S (49 + t))))) 0 n (s := (0 : Int32)) (by omega) (by omega) rfl ?_ ?_
  · intro m t s _ ht hI K
    have hx := (hw.2.2.2.1 t (by omega)).2
    have ha := (hw.2.2.2.2 t ht).2
    have hm := h.z.2.1 (pn S (43 + t))
    rw [f_X11_walkGain_L8, bd_eq, e6, if_neg (by rw [nI_ile (by omega) (by omega)]; omega), walkRow_eq h.rs hw ht, cl_some, rdI_n (by omega) (by decide), show (5 : Nat) = 3 + 2 from rfl, h.2.1.2.2.2.1 _ (by omega), show nI t + (1 : Int32) = nI (t + 1) from nI_add t 1]
    exact K _ (by rw [hI]; rfl)
  · intro m s hI
    rw [f_X11_walkGain_L8, bd_eq, e6, if_pos (Int32.le_refl _), hI]
theorem Sw_gain {P S : Nat → Int32} (hV : VP P) (h : VS P S) : smI (pn S 1) (fun t => P (14 + (pn (Sw P S) (43 + t) * 3 + pn (Sw P S) (49 + t)))) = wkG P (sW9 S) (pn S 2) (pn S 0) (pn S 1) := by
  have hK := h.W
  have hx := h.v0.2
  obtain ⟨e1, h1, h5⟩ := h.v1
  have hN := hV.2.1.2.1
  refine smI_congr (fun t ht => ?_)
  have hx2 := wkX_lt hV hK hx (s := pn S 2) t
  have ha := wkA_lt hV hK hx (s := pn S 2) t
  have hm := hV.2.2.1 (wkX P (sW9 S) (pn S 2) (pn S 0) t)
  have e : Sw P S (43 + t) = nI (wkX P (sW9 S) (pn S 2) (pn S 0) t) := by rw [Sw_x (by omega), if_pos (by omega)]
  have e2 : Sw P S (49 + t) = nI (wkA P (sW9 S) (pn S 2) (pn S 0) t) := by rw [Sw_a, if_pos ht]
  rw [pn_n e (by omega), pn_n e2 (by omega)]
