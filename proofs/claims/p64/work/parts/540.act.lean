/-! a change of both -/
theorem LI.mono {b K K2 : Nat} {P S : Nat → Int32} {wr : Nat → Nat} {M : Mem} (h : LI b K P S wr M) (hk : K ≤ K2) : LI b K2 P S wr M := by
  obtain ⟨h1, h2, h3, h4, k, h5, h6⟩ := h
  exact ⟨h1, h2, h3, h4, k, h5, by omega⟩
theorem LI.draw {b K k : Nat} {P S : Nat → Int32} {wr : Nat → Nat} {M : Mem} (h : LI b K P S wr M) (hk : k ≤ K) : LI b (K + 1) P S wr (sI M 108 1 (nI (k + 1))) := by
  have f : fr [108] M (sI M 108 1 (nI (k + 1))) := fr_sI fr.rfl (by decide)
  obtain ⟨⟨h1, h2, h3, h4⟩, h5, h6, h7, _⟩ := h
  have e : ∀ o, o ≠ 108 → gI (sI M 108 1 (nI (k + 1))) o = gI M o := fun o ho => f.I (by simp; exact ho)
  refine ⟨⟨h1.fr f (by decide), h2.fr h1.N.2 h1.z.2.1 (by rw [e 109 (by decide)]) (by rw [e 109 (by decide)]) (fun o a _ _ => e o (by omega)), h3.fr h1.N.2 h4 (fun o a _ => e o (by omega)), h4.fr (fun o a _ => rfl)⟩, h5, fun o a c => ?_, fun o a c => ?_, k + 1, gI_same, by omega⟩
  · have := h6 o a c
    exact ⟨fun j => by rw [e o (by omega)]; exact this.1 j, this.2⟩
  · have := h7 o a c
    have hb := h5.2.2.1
    exact ⟨fun j => by rw [e o (by omega)]; exact this.1 j, this.2⟩
theorem next_L {β : Type} {R : Option β → Prop} {LX b K a c : Nat} {xs : Nat → Int32} {P S : Nat → Int32} {wr : Nat → Nat} {M : Mem} {x y : Int32} {kk : Int32 → Mem → Option β} (h : LI b K P S wr M) (hK : K < 900000) (hL : LX < 2147483647) (hx : x = nI a) (hy : y = nI c) (hac : a ≤ c) (hc : c < 1000000) (Kk : ∀ v M1, a ≤ v → v ≤ c → LI b (K + 1) P S wr M1 → R (kk (nI v) M1)) : R (cl (f_X13_next LX xs M x y) kk) := by
  obtain ⟨k, hk, hk2⟩ := h.2.2.2.2
  exact next_R hk (by omega) hx hy hac hc hL (fun v h1 h2 => Kk v _ h1 h2 (h.draw hk2))
theorem up_l {o : Nat} (h : 105 ≤ o) : o ∉ lCh := fun z => by rw [lCh_in] at z; omega
theorem act_start {b K x : Nat} {P S : Nat → Int32} {wr : Nat → Nat} {M M2 : Mem} (h : LI b K P S wr M) (hx : x < cN P) (hf : fr lCh (sI M 109 5 (nI x)) M2) (hC : HasC P (upd S 0 (nI x)) M2) : LI b K P (upd S 0 (nI x)) wr M2 := by
  have g : ∀ o, 108 ≤ o → gI M2 o = gI (sI M 109 5 (nI x)) o := fun o ho => hf.I (up_l (by omega))
  have g9 : ∀ i, gI M2 109 i = if i = 5 then nI x else gI M 109 i := fun i => by
    rw [g 109 (by decide), gI_sI]
    simp only [true_and]
  have go : ∀ o, 108 ≤ o → o ≠ 109 → gI M2 o = gI M o := fun o ho h9 => by rw [g o ho, gI_sI', if_neg h9]
  obtain ⟨s1, s2, s3, s4, s5⟩ := h.S
  have hN := h.C.N.2
  have hm := h.C.z.2.1
  refine h.new hC (by rw [pn_c (upd_ne (by decide))]; exact h.2.1.2.1) (fun o a c _ _ => go o a c) (fun o ho => hf.L (up_l (by omega))) (fun o ho => hf.R (up_l (by omega))) (by rw [g9, if_neg (by decide)]) (by rw [g9, if_neg (by decide)]) ⟨⟨by rw [g9, if_pos rfl, upd_eq], by rw [g9, if_neg (by decide), upd_ne (by decide)]; exact s1.2.1, by rw [g9, if_neg (by decide), upd_ne (by decide)]; exact s1.2.2.1, by rw [g9, if_neg (by decide), upd_ne (by decide)]; exact s1.2.2.2⟩, fun y hy a ha => ?_, fun y hy a ha => by rw [go (202 + y) (by omega) (by omega), upd_ne (by omega)]; exact s3 y hy a ha, fun c hc => by rw [go 110 (by decide) (by decide), upd_ne (by omega)]; exact s4 c hc, fun n hn e => ?_⟩
  · have := h.R.2.2 y (by omega)
    rw [go (wr y) (by omega) (by omega), s2 y hy a ha]
    congr 1
    exact (sW_c (fun r _ => upd_ne (by omega)) _).symm
  · rw [upd_ne (by decide)] at e
    obtain ⟨t1, t2⟩ := s5 n hn e
    exact ⟨fun t ht => by rw [go 208 (by decide) (by decide), upd_ne (by omega)]; exact t1 t ht, fun t ht => by rw [go 209 (by decide) (by decide), upd_ne (by omega)]; exact t2 t ht⟩
theorem act_horizon {b K x : Nat} {P S : Nat → Int32} {wr : Nat → Nat} {M M2 : Mem} (h : LI b K P S wr M) (hx : x ≤ 4) (hf : fr lCh (sI M 109 3 (nI x)) M2) (hC : HasC P (upd S 1 (nI x)) M2) : LI b K P (upd S 1 (nI x)) wr M2 := by
  have g : ∀ o, 108 ≤ o → gI M2 o = gI (sI M 109 3 (nI x)) o := fun o ho => hf.I (up_l (by omega))
  have g9 : ∀ i, gI M2 109 i = if i = 3 then nI x else gI M 109 i := fun i => by
    rw [g 109 (by decide), gI_sI]
    simp only [true_and]
  have go : ∀ o, 108 ≤ o → o ≠ 109 → gI M2 o = gI M o := fun o ho h9 => by rw [g o ho, gI_sI', if_neg h9]
  obtain ⟨s1, s2, s3, s4, s5⟩ := h.S
  have hN := h.C.N.2
  refine h.new hC (by rw [pn_n upd_eq (by omega)]; exact hx) (fun o a c _ _ => go o a c) (fun o ho => hf.L (up_l (by omega))) (fun o ho => hf.R (up_l (by omega))) (by rw [g9, if_neg (by decide)]) (by rw [g9, if_neg (by decide)]) ⟨⟨by rw [g9, if_neg (by decide), upd_ne (by decide)]; exact s1.1, by rw [g9, if_pos rfl, upd_eq], by rw [g9, if_neg (by decide), upd_ne (by decide)]; exact s1.2.2.1, by rw [g9, if_neg (by decide), upd_ne (by decide)]; exact s1.2.2.2⟩, fun y hy a ha => ?_, fun y hy a ha => by rw [go (202 + y) (by omega) (by omega), upd_ne (by omega)]; exact s3 y hy a ha, fun c hc => by rw [go 110 (by decide) (by decide), upd_ne (by omega)]; exact s4 c hc, fun n hn e => ?_⟩
  · have := h.R.2.2 y (by omega)
    rw [go (wr y) (by omega) (by omega), s2 y hy a ha]
    congr 1
    exact (sW_c (fun r _ => upd_ne (by omega)) _).symm
  · rw [upd_ne (by decide)] at e
    obtain ⟨t1, t2⟩ := s5 n hn e
    exact ⟨fun t ht => by rw [go 208 (by decide) (by decide), upd_ne (by omega)]; exact t1 t ht, fun t ht => by rw [go 209 (by decide) (by decide), upd_ne (by omega)]; exact t2 t ht⟩
theorem act_limit {b K i x : Nat} {P S : Nat → Int32} {wr : Nat → Nat} {M M2 : Mem} (h : LI b K P S wr M) (hi : i < cB P) (hf : fr lCh (sI M 110 i (nI x)) M2) (hC : HasC P (upd S (40 + i) (nI x)) M2) : LI b K P (upd S (40 + i) (nI x)) wr M2 := by
  have g : ∀ o, 108 ≤ o → gI M2 o = gI (sI M 110 i (nI x)) o := fun o ho => hf.I (up_l (by omega))
  have g9 : ∀ j, gI M2 110 j = if j = i then nI x else gI M 110 j := fun j => by
    rw [g 110 (by decide), gI_sI]
    simp only [true_and]
  have go : ∀ o, 108 ≤ o → o ≠ 110 → gI M2 o = gI M o := fun o ho h9 => by rw [g o ho, gI_sI', if_neg h9]
  obtain ⟨s1, s2, s3, s4, s5⟩ := h.S
  have hN := h.C.N.2
  have hb3 := h.C.b.2
  have hm := h.C.z.2.1
  refine h.new hC (by rw [pn_c (upd_ne (by omega))]; exact h.2.1.2.1) (fun o a _ c _ => go o a c) (fun o ho => hf.L (up_l (by omega))) (fun o ho => hf.R (up_l (by omega))) (by rw [go 109 (by decide) (by decide)]) (by rw [go 109 (by decide) (by decide)]) ⟨by rw [go 109 (by decide) (by decide), upd_ne (by omega), upd_ne (by omega), upd_ne (by omega), upd_ne (by omega)]; exact s1, fun y hy a ha => ?_, fun y hy a ha => by have := hm y; rw [go (202 + y) (by omega) (by omega), upd_ne (by omega)]; exact s3 y hy a ha, fun c hc => ?_, fun n hn e => ?_⟩
  · have := h.R.2.2 y (by omega)
    rw [go (wr y) (by omega) (by omega), s2 y hy a ha]
    congr 1
    exact (sW_c (fun r _ => upd_ne (by omega)) _).symm
  · rw [g9]
    by_cases cc : c = i
    · rw [if_pos cc, cc, upd_eq]
    · rw [if_neg cc, upd_ne (by omega)]
      exact s4 c hc
  · rw [upd_ne (by omega)] at e
    obtain ⟨t1, t2⟩ := s5 n hn e
    exact ⟨fun t ht => by rw [go 208 (by decide) (by decide), upd_ne (by omega)]; exact t1 t ht, fun t ht => by rw [go 209 (by decide) (by decide), upd_ne (by omega)]; exact t2 t ht⟩
theorem act_permit {b K x a : Nat} {v : Int32} {P S : Nat → Int32} {wr : Nat → Nat} {M M2 : Mem} (h : LI b K P S wr M) (hx : x < cN P) (ha : a < cM P x) (hf : fr lCh (sI M (202 + x) a v) M2) (hC : HasC P (upd S (22 + (x * 3 + a)) v) M2) : LI b K P (upd S (22 + (x * 3 + a)) v) wr M2 := by
  have g : ∀ o, 108 ≤ o → gI M2 o = gI (sI M (202 + x) a v) o := fun o ho => hf.I (up_l (by omega))
  have g9 : ∀ j, gI M2 (202 + x) j = if j = a then v else gI M (202 + x) j := fun j => by
    rw [g (202 + x) (by omega), gI_sI]
    simp only [true_and]
  have go : ∀ o, 108 ≤ o → o ≠ 202 + x → gI M2 o = gI M o := fun o ho h9 => by rw [g o ho, gI_sI', if_neg h9]
  obtain ⟨s1, s2, s3, s4, s5⟩ := h.S
  have hN := h.C.N.2
  have hb3 := h.C.b.2
  have hm := h.C.z.2.1
  have hmx := hm x
  refine h.new hC (by rw [pn_c (upd_ne (by omega))]; exact h.2.1.2.1) (fun o a _ _ c => go o a (by omega)) (fun o ho => hf.L (up_l (by omega))) (fun o ho => hf.R (up_l (by omega))) (by rw [go 109 (by decide) (by omega)]) (by rw [go 109 (by decide) (by omega)]) ⟨by rw [go 109 (by decide) (by omega), upd_ne (by omega), upd_ne (by omega), upd_ne (by omega), upd_ne (by omega)]; exact s1, fun y hy c hc => ?_, fun y hy c hc => ?_, fun c hc => by rw [go 110 (by decide) (by omega), upd_ne (by omega)]; exact s4 c hc, fun n hn e => ?_⟩
  · have := h.R.2.2 y (by omega)
    rw [go (wr y) (by omega) (by omega), s2 y hy c hc]
    congr 1
    exact (sW_c (fun r hr => upd_ne (by omega)) _).symm
  · have := hm y
    by_cases cy : y = x
    · subst cy
      rw [g9]
      by_cases cc : c = a
      · rw [if_pos cc, cc, upd_eq]
      · rw [if_neg cc, upd_ne (by omega)]
        exact s3 y hy c hc
    · rw [go (202 + y) (by omega) (by omega), upd_ne (by omega)]
      exact s3 y hy c hc
  · rw [upd_ne (by omega)] at e
    obtain ⟨t1, t2⟩ := s5 n hn e
    exact ⟨fun t ht => by rw [go 208 (by decide) (by omega), upd_ne (by omega)]; exact t1 t ht, fun t ht => by rw [go 209 (by decide) (by omega), upd_ne (by omega)]; exact t2 t ht⟩
theorem act_walk {b K : Nat} {P S : Nat → Int32} {wr : Nat → Nat} {M M1 M2 : Mem} (h : LI b K P S wr M) (hJ : JG P S M (pn S 1) M1) (hf : fr lCh M1 M2) (hC : HasC P (Sw P S) M2) : LI b K P (Sw P S) wr M2 := by
  obtain ⟨f1, ⟨g1, gl1⟩, g2, g3, g4, g5, g6⟩ := hJ
  have g : ∀ o, 108 ≤ o → gI M2 o = gI M1 o := fun o ho => hf.I (up_l (by omega))
  have go : ∀ o, 108 ≤ o → o ≠ 109 → o ≠ 208 → o ≠ 209 → gI M2 o = gI M o := fun o ho a c d => by rw [g o ho]; exact f1.I (by simp; omega)
  obtain ⟨s1, s2, s3, s4, s5⟩ := h.S
  have hN := h.C.N.2
  have hm := h.C.z.2.1
  have hz := h.hz
  refine h.new hC (by rw [pn_c (Sw_ne (by decide) (by decide) (by decide))]; exact h.2.1.2.1) (fun o a c d e => go o a c (by omega) (by omega)) (fun o ho => by rw [hf.L (up_l (by omega)), gl1]) (fun o ho => by rw [hf.R (up_l (by omega)), g1]) ?_ ?_ ⟨⟨?_, ?_, ?_, ?_⟩, fun y hy c hc => ?_, fun y hy c hc => ?_, fun c hc => ?_, fun n hn e => ?_⟩
  · rw [g 109 (by decide), g2 1 (by decide) (by decide)]
  · rw [g 109 (by decide), g2 2 (by decide) (by decide)]
  · rw [g 109 (by decide), g2 5 (by decide) (by decide), Sw_ne (by decide) (by decide) (by decide)]
    exact s1.1
  · rw [g 109 (by decide), g2 3 (by decide) (by decide), Sw_ne (by decide) (by decide) (by decide)]
    exact s1.2.1
  · rw [g 109 (by decide), g3]
    rfl
  · rw [g 109 (by decide), g4]
    rfl
  · have := h.R.2.2 y (by omega)
    rw [go (wr y) (by omega) (by omega) (by omega) (by omega), s2 y hy c hc]
    congr 1
    exact (sW_c (fun r hr => Sw_ne (by omega) (by omega) (by omega)) _).symm
  · have := hm y
    rw [go (202 + y) (by omega) (by omega) (by omega) (by omega), Sw_ne (by omega) (by omega) (by omega)]
    exact s3 y hy c hc
  · have := h.C.b.2
    rw [go 110 (by decide) (by decide) (by decide) (by decide), Sw_ne (by omega) (by omega) (by omega)]
    exact s4 c hc
  · have e' : n = pn S 1 := by
      have e0 : Sw P S 3 = nI (pn S 1) := rfl
      rw [e0, nI_eqx (by omega) (by omega)] at e
      exact e.symm
    subst e'
    refine ⟨fun t ht => ?_, fun t ht => ?_⟩
    · rw [g 208 (by decide), g5 t ht, Sw_x (by omega), if_pos ht]
    · rw [g 209 (by decide), g6 t ht, Sw_a, if_pos ht]
