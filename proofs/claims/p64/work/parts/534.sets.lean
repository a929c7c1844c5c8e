/-! changes of the class -/
def lKp : List Nat := List.range' 35 45
def lCh : List Nat := List.range' 10 95
theorem lKp_in {o : Nat} : o ∈ lKp ↔ 35 ≤ o ∧ o < 80 := List.mem_range'_1
theorem lCh_in {o : Nat} : o ∈ lCh ↔ 10 ≤ o ∧ o < 105 := List.mem_range'_1
theorem kp_ch {M M' : Mem} (h : fr lKp M M') : fr lCh M M' := h.mono (fun o ho => by rw [lKp_in] at ho; rw [lCh_in]; omega)
theorem sc_ch {M M' : Mem} (h : fr [16, 17, 18] M M') : fr lCh M M' := h.mono (by decide)
theorem keep_C {Z : Nat} {P S : Nat → Int32} {M : Mem} (hZ : 60 < Z) (h : HasC P S M) : ∃ M', f_X3_keep Z M = some ((), M') ∧ fr lKp M M' ∧ HasC P S M' := by
  obtain ⟨h1, h2, h3, h4, n, rot, h5, h6, h7⟩ := h
  obtain ⟨_, M', e1, f1, r1, g1, -, -⟩ := keep_ok (Z := Z) (by omega) h7 h6 h5
  have hlt : (rot + n) % 7 < 7 := Nat.mod_lt _ (by decide)
  have hf : fr lKp M M' := f1.mono (fun o ho => by
    rw [lKp_in]
    rcases List.mem_append.mp ho with c | c
    · simp only [List.mem_cons, List.not_mem_nil, or_false] at c
      omega
    · have := blk_in.mp c
      omega)
  have e : ∀ o, o < 35 → gI M' o = gI M o := fun o ho => hf.I (fun z => by rw [lKp_in] at z; omega)
  have hs : n - shf n + 1 ≤ 7 := by
    unfold shf
    split <;> omega
  exact ⟨M', e1, hf, h1, h2.same (fun o a b => e o (by omega)), h3, h4.same (fun i hi => e _ (by omega)), _, _, hs, g1, r1⟩
/-- the class's settings with one number new -/
theorem hasSet {P S S' : Nat → Int32} {M M' : Mem} {l : List Nat} (h : HasC P S M) (hf : fr l M M') (hl : ∀ o, o ∈ l → 10 ≤ o ∧ o ≤ 15 ∨ o = 104) (hV : VS P S') (hR : RS P M' 10 S') : HasC P S' M' := by
  obtain ⟨h1, h2, h3, h4, n, rot, h5, h6, h7⟩ := h
  have e : ∀ o, o < 10 ∨ (15 < o ∧ o < 104) → o ∉ l := fun o ho z => by have := hl o z; omega
  exact ⟨h1, h2.same (fun o a b => hf.I (e o (by omega))), hV, hR, n, rot, h5, by rw [hf.I (e 35 (by decide))]; exact h6, h7.to (hf.R (e 36 (by decide)))⟩
theorem u_ne {S : Nat → Int32} {i j : Nat} {v : Int32} (h : i ≠ j) : upd S j v i = S i := upd_ne h
theorem VS.u0 {P S : Nat → Int32} {x : Nat} (h : VS P S) (hN : cN P ≤ 6) (hm : ∀ x, cM P x ≤ 3) (hx : x < cN P) : VS P (upd S 0 (nI x)) :=
  VS.mk ⟨by rw [upd_eq, pn_n upd_eq (by omega)], by rw [pn_n upd_eq (by omega)]; exact hx⟩ (h.v1.congr (u_ne (by decide))) (h.v2.congr (u_ne (by decide))) (h.v3.congr (fun r _ => u_ne (by omega))) (h.v4.congr hN hm (fun r _ => u_ne (by omega))) (h.v5.congr (fun b _ => u_ne (by omega))) (h.v6.congr (u_ne (by decide)) (fun i a b => u_ne (by omega)))
theorem VS.u1 {P S : Nat → Int32} {x : Nat} (h : VS P S) (hN : cN P ≤ 6) (hm : ∀ x, cM P x ≤ 3) (h1 : 1 ≤ x) (hx : x ≤ 5) : VS P (upd S 1 (nI x)) :=
  VS.mk (h.v0.congr (u_ne (by decide))) ⟨by rw [upd_eq, pn_n upd_eq (by omega)], by rw [pn_n upd_eq (by omega)]; exact ⟨h1, hx⟩⟩ (h.v2.congr (u_ne (by decide))) (h.v3.congr (fun r _ => u_ne (by omega))) (h.v4.congr hN hm (fun r _ => u_ne (by omega))) (h.v5.congr (fun b _ => u_ne (by omega))) (h.v6.congr (u_ne (by decide)) (fun i a b => u_ne (by omega)))
theorem VS.u5 {P S : Nat → Int32} {b x : Nat} (h : VS P S) (hN : cN P ≤ 6) (hm : ∀ x, cM P x ≤ 3) (hb : b < 3) (hx : x ≤ 9999) : VS P (upd S (40 + b) (nI x)) := by
  refine VS.mk (h.v0.congr (u_ne (by omega))) (h.v1.congr (u_ne (by omega))) (h.v2.congr (u_ne (by omega))) (h.v3.congr (fun r _ => u_ne (by omega))) (h.v4.congr hN hm (fun r _ => u_ne (by omega))) (fun c hc => ?_) (h.v6.congr (u_ne (by omega)) (fun i a b => u_ne (by omega)))
  by_cases e : c = b
  · subst e
    rw [upd_eq, pn_n upd_eq (by omega)]
    exact ⟨rfl, hx⟩
  · rw [upd_ne (show 40 + c ≠ 40 + b by omega), pn_c (upd_ne (show 40 + c ≠ 40 + b by omega))]
    exact h.v5 c hc
theorem RS.u0 {P S : Nat → Int32} {M : Mem} {v : Int32} (h : RS P M 10 S) : RS P (sI M 10 3 v) 10 (upd S 0 v) := by
  obtain ⟨⟨a1, a2, a3, a4⟩, b, c, d, e, f⟩ := h
  have g : ∀ o, o ≠ 10 → gI (sI M 10 3 v) o = gI M o := fun o ho => by rw [gI_sI', if_neg ho]
  refine ⟨⟨by rw [gI_sI, if_pos ⟨rfl, rfl⟩, upd_eq], by rw [gI_sI, if_neg (by decide), upd_ne (by decide)]; exact a2, by rw [gI_sI, if_neg (by decide), upd_ne (by decide)]; exact a3, by rw [gI_sI, if_neg (by decide), upd_ne (by decide)]; exact a4⟩, fun r hr => by rw [g _ (by decide), upd_ne (by omega)]; exact b r hr, fun x hx => ?_, fun k hk => by rw [g _ (by decide), upd_ne (by omega)]; exact d k hk, fun t ht => by rw [g _ (by decide), upd_ne (by omega)]; exact e t ht, fun t ht => by rw [g _ (by decide), upd_ne (by omega)]; exact f t ht⟩
  obtain ⟨q, q1, q2, q3⟩ := c x hx
  exact ⟨q, q1, by rw [g _ (by decide)]; exact q2, fun a ha => by rw [upd_ne (by omega)]; exact q3 a ha⟩
theorem RS.u1 {P S : Nat → Int32} {M : Mem} {v : Int32} (h : RS P M 10 S) : RS P (sI M 10 4 v) 10 (upd S 1 v) := by
  obtain ⟨⟨a1, a2, a3, a4⟩, b, c, d, e, f⟩ := h
  have g : ∀ o, o ≠ 10 → gI (sI M 10 4 v) o = gI M o := fun o ho => by rw [gI_sI', if_neg ho]
  refine ⟨⟨by rw [gI_sI, if_neg (by decide), upd_ne (by decide)]; exact a1, by rw [gI_sI, if_pos ⟨rfl, rfl⟩, upd_eq], by rw [gI_sI, if_neg (by decide), upd_ne (by decide)]; exact a3, by rw [gI_sI, if_neg (by decide), upd_ne (by decide)]; exact a4⟩, fun r hr => by rw [g _ (by decide), upd_ne (by omega)]; exact b r hr, fun x hx => ?_, fun k hk => by rw [g _ (by decide), upd_ne (by omega)]; exact d k hk, fun t ht => by rw [g _ (by decide), upd_ne (by omega)]; exact e t ht, fun t ht => by rw [g _ (by decide), upd_ne (by omega)]; exact f t ht⟩
  obtain ⟨q, q1, q2, q3⟩ := c x hx
  exact ⟨q, q1, by rw [g _ (by decide)]; exact q2, fun a ha => by rw [upd_ne (by omega)]; exact q3 a ha⟩
theorem RS.u5 {P S : Nat → Int32} {M : Mem} {v : Int32} {b9 : Nat} (hN : cN P ≤ 6) (hm : ∀ x, cM P x ≤ 3) (hb : b9 < 3) (h : RS P M 10 S) : RS P (sI M 13 b9 v) 10 (upd S (40 + b9) v) := by
  obtain ⟨⟨a1, a2, a3, a4⟩, b, c, d, e, f⟩ := h
  have g : ∀ o, o ≠ 13 → gI (sI M 13 b9 v) o = gI M o := fun o ho => by rw [gI_sI', if_neg ho]
  refine ⟨⟨by rw [g _ (by decide), upd_ne (by omega)]; exact a1, by rw [g _ (by decide), upd_ne (by omega)]; exact a2, by rw [g _ (by decide), upd_ne (by omega)]; exact a3, by rw [g _ (by decide), upd_ne (by omega)]; exact a4⟩, fun r hr => by rw [g _ (by decide), upd_ne (by omega)]; exact b r hr, fun x hx => ?_, fun k hk => ?_, fun t ht => by rw [g _ (by decide), upd_ne (by omega)]; exact e t ht, fun t ht => by rw [g _ (by decide), upd_ne (by omega)]; exact f t ht⟩
  · obtain ⟨q, q1, q2, q3⟩ := c x hx
    have := hm x
    exact ⟨q, q1, by rw [g _ (by decide)]; exact q2, fun a ha => by rw [upd_ne (by omega)]; exact q3 a ha⟩
  · show gI (sI M 13 b9 v) 13 k = _
    rw [gI_sI]
    by_cases ck : k = b9
    · rw [if_pos ⟨rfl, ck⟩, ck, upd_eq]
    · rw [if_neg (fun z => ck z.2), upd_ne (by omega)]
      exact d k hk
theorem c_setStart {Z x : Nat} {P S : Nat → Int32} {M : Mem} (hZ : 60 < Z) (h : HasC P S M) (hx : x < cN P) : ∃ M', f_X11_setStart Z M (nI x) = some (.ok (S 0), M') ∧ fr lCh M M' ∧ HasC P (upd S 0 (nI x)) M' := by
  obtain ⟨M1, e1, f1, h1⟩ := keep_C hZ h
  unfold f_X11_setStart
  rw [h.nS hx, clT_ok, e1, cl_some, bd_eq, bd_eq, h1.rs.1.1]
  have f2 : fr [10] M1 (sI M1 10 3 (nI x)) := fr_sI fr.rfl (by decide)
  exact ⟨_, rfl, (kp_ch f1).trans (f2.mono (by decide)), hasSet h1 f2 (by decide) (h.s.u0 h.N.2 h.z.2.1 hx) h1.rs.u0⟩
theorem c_setHorizon {Z x : Nat} {P S : Nat → Int32} {M : Mem} (hZ : 60 < Z) (h : HasC P S M) (hx1 : 1 ≤ x) (hx : x ≤ 5) : ∃ M', f_X11_setHorizon Z M (nI x) = some (.ok (S 1), M') ∧ fr lCh M M' ∧ HasC P (upd S 1 (nI x)) M' := by
  obtain ⟨M1, e1, f1, h1⟩ := keep_C hZ h
  unfold f_X11_setHorizon
  rw [h.nC, clT_ok, needRangeN (a := 1) (b := 5) (by decide) (by decide), if_pos (inN_of hx1 hx (by decide)), clT_ok, e1, cl_some, bd_eq, bd_eq, h1.rs.1.2.1]
  have f2 : fr [10] M1 (sI M1 10 4 (nI x)) := fr_sI fr.rfl (by decide)
  exact ⟨_, rfl, (kp_ch f1).trans (f2.mono (by decide)), hasSet h1 f2 (by decide) (h.s.u1 h.N.2 h.z.2.1 hx1 hx) h1.rs.u1⟩
theorem c_setLimit {Z b x : Nat} {P S : Nat → Int32} {M : Mem} (hZ : 60 < Z) (h : HasC P S M) (hb : b < cB P) (hx : x ≤ 9999) : ∃ M', f_X11_setLimit Z M (nI b) (nI x) = some (.ok (S (40 + b)), M') ∧ fr lCh M M' ∧ HasC P (upd S (40 + b) (nI x)) M' := by
  obtain ⟨M1, e1, f1, h1⟩ := keep_C hZ h
  have hb3 := h.b.2
  unfold f_X11_setLimit
  rw [h.nB hb, clT_ok, needRangeN (a := 0) (b := 9999) (by decide) (by decide), if_pos (inN_of (Nat.zero_le _) hx (by decide)), clT_ok, e1, cl_some, rdI_n (by omega) (by decide), wrI_n (by omega) (by decide), show gI M1 13 b = S (40 + b) from h1.rs.2.2.2.1 b (by omega)]
  have f2 : fr [13] M1 (sI M1 13 b (nI x)) := fr_sI fr.rfl (by decide)
  exact ⟨_, rfl, (kp_ch f1).trans (f2.mono (by decide)), hasSet h1 f2 (by decide) (h.s.u5 h.N.2 h.z.2.1 (by omega) hx) (RS.u5 h.N.2 h.z.2.1 (by omega) h1.rs)⟩
/-- law and class after a change -/
theorem LI.new {b K : Nat} {P S S' : Nat → Int32} {wr : Nat → Nat} {M M' : Mem} (h : LI b K P S wr M) (hC : HasC P S' M') (hH : pn S' 1 ≤ 4) (hg : ∀ o, 108 ≤ o → o ≠ 109 → o ≠ 110 → ¬ (202 ≤ o ∧ o < 210) → gI M' o = gI M o) (hL : ∀ o, 108 ≤ o → gL M' o = gL M o) (hR : ∀ o, 108 ≤ o → gR M' o = gR M o) (e1 : gI M' 109 1 = gI M 109 1) (e2 : gI M' 109 2 = gI M 109 2) (hS : LwS P S' wr M') : LI b K P S' wr M' := by
  obtain ⟨⟨h1, h2, h3, h4⟩, h5, h6, h7, k, hk, hk2⟩ := h
  refine ⟨⟨hC, h2.fr h1.N.2 h1.z.2.1 e1 e2 (fun o a c _ => hg o (by omega) (by omega) (by omega) (by omega)), hS, h4.fr (fun o a _ => hR o (by omega))⟩, ⟨h5.1, hH, h5.2.2⟩, fun o a c => ?_, fun o a c => ?_, k, by rw [hg 108 (by decide) (by decide) (by decide) (by decide)]; exact hk, hk2⟩
  · unfold zeroM
    rw [hg o (by omega) (by omega) (by omega) (by omega), hL o (by omega), hR o (by omega)]
    exact h6 o a c
  · have := h5.2.2.1
    unfold zeroM
    rw [hg o (by omega) (by omega) (by omega) (by omega), hL o (by omega), hR o (by omega)]
    exact h7 o a c
