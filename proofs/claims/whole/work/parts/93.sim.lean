/-! the two parsers side by side -/
def GCR (b : Nat → Nat) (n e : Nat) (Q : Nat → Int32) (Mc Mr : Mem) : Prop := okC b n e Mc ∧ CQ0 Q Mc ∧ CQW Q Mc ∧ okR b n e Q Mr
theorem okC.s {b : Nat → Nat} {n e o k : Nat} {v : Int32} {M : Mem} (h : okC b n e M) (h1 : o ≠ 1) (h2 : o ≠ 2) : okC b n e (sI M o k v) := h.fr (l := [o]) (fr_sI fr.rfl List.mem_cons_self) (by simp [Ne.symm h1]) (by simp [Ne.symm h2])
def rHead (Z : Nat) (M10 : Mem) (K : Mem → Option (Unit × Mem)) : Option (Unit × Mem) := cl (f_X12_expects Z M10 0) (fun v11 M12 => cl (f_X12_takes_ Z M12 1 (1 : Int32) (6 : Int32)) (fun v13 M14 => cl (f_X12_puts Z M14 (0 : Int32) v13) (fun v15 M16 => cl (f_X12_takes_ Z M16 2 (1 : Int32) (5 : Int32)) (fun v17 M18 => cl (f_X12_puts Z M18 (3 : Int32) v17) (fun v19 M20 => cl (f_X12_takes_ Z M20 3 (0 : Int32) (30010 : Int32)) (fun v21 M22 => cl (f_X12_puts Z M22 (4 : Int32) v21) (fun v23 M24 => K M24)))))))
theorem head_sim {Z : Nat} {Mc Mr : Mem} {b : Nat → Nat} {n e : Nat} {Q : Nat → Int32} (hZ : 4000 < Z) (h : GCR b n e Q Mc Mr) (hT : ∀ r, r < 18 → cT Q r ≤ 6) :
    (∃ e' N H s Mc' Mr', f_X4_parseHead Z Mc = some (1, Mc') ∧ (∀ K, rHead Z Mr K = K Mr') ∧ GCR b n e' (upd (upd (upd Q 0 (nI N)) 3 (nI H)) 4 (nI s)) Mc' Mr' ∧ (1 ≤ N ∧ N ≤ 6) ∧ (1 ≤ H ∧ H ≤ 5) ∧ s ≤ 30010 ∧ fr lP Mc Mc' ∧ fQ Mr Mr') ∨
    (∃ c p Mc' Mr', f_X4_parseHead Z Mc = some (0, Mc') ∧ (∀ K, rHead Z Mr K = K Mr') ∧ erC c p Mc' ∧ erR c p Mr' ∧ fr lP Mc Mc' ∧ fQ Mr Mr') := by
  obtain ⟨hc, h0, hw, hr⟩ := h
  have e1n : (1 : Int32) = nI 1 := rfl
  have e0n : (0 : Int32) = nI 0 := rfl
  unfold f_X4_parseHead rHead
  obtain ⟨R1, r1, s1, t1⟩ := expectsR (Z := Z) hZ hr (t := 0) (by decide)
  by_cases c1 : isW b n e 0 = true
  · rw [if_pos c1] at t1
    obtain ⟨C1, k1, f1, o1⟩ := takeWordC hZ hc (by decide) c1
    by_cases c2 : WN b n (tE b n e) 1 1 6
    · obtain ⟨C2, k2, f2, q2, o2⟩ := wnC hZ o1 (by decide) (by decide) c2
      obtain ⟨R2, r2, s2, t2⟩ := wnR hZ t1 (by decide) (by decide) c2
      have v2 := c2.2.2
      have g2 : tV b n (tE b n (tE b n e)) ≤ 6 := by have := v2.2; have e6 : (6 : Int32).toInt = 6 := by decide
                                                     omega
      obtain ⟨R3, r3, s3, t3⟩ := putsR (Z := Z) (v := nI (tV b n (tE b n (tE b n e)))) t2 (j := 0) (by decide) (fun _ => ⟨_, g2, rfl⟩)
      generalize hN : tV b n (tE b n (tE b n e)) = N at *
      have A3 : CQ0 (upd Q 0 (nI N)) (sI C2 22 0 (nI N)) := ((h0.fP f1).fP f2).upd01 hT (by decide)
      have W3 : CQW (upd Q 0 (nI N)) (sI C2 22 0 (nI N)) := ((hw.fP f1).fP f2).updL (by decide) (by rw [gI_sI', if_neg (by decide)])
      have T3 : ∀ r, r < 18 → cT (upd Q 0 (nI N)) r ≤ 6 := fun r hr => by rw [cT_upd (by omega)]; exact hT r hr
      have o3 : okC b n (tE b n (tE b n (tE b n e))) (sI C2 22 0 (nI N)) := o2.s (by decide) (by decide)
      have F3 : fr lP Mc (sI C2 22 0 (nI N)) := fr_sI (f1.p.trans f2.p) (by decide)
      generalize hC3 : sI C2 22 0 (nI N) = C3 at *
      generalize hE3 : tE b n (tE b n (tE b n e)) = e3 at *
      by_cases c4 : WN b n e3 2 1 5
      · obtain ⟨C4, k4, f4, q4, o4⟩ := wnC hZ o3 (by decide) (by decide) c4
        obtain ⟨R4, r4, s4, t4⟩ := wnR hZ t3 (by decide) (by decide) c4
        obtain ⟨R5, r5, s5, t5⟩ := putsR (Z := Z) (v := nI (tV b n (tE b n e3))) t4 (j := 3) (by decide)
        have v4 := c4.2.2
        have g4 : tV b n (tE b n e3) ≤ 5 := by have := v4.2; have e6 : (5 : Int32).toInt = 5 := by decide
                                               omega
        generalize hH : tV b n (tE b n e3) = H at *
        have A5 : CQ0 (upd (upd Q 0 (nI N)) 3 (nI H)) (sI C4 29 4 (nI H)) := (A3.fP f4).updS T3 (j := 3) (by decide)
        have W5 : CQW (upd (upd Q 0 (nI N)) 3 (nI H)) (sI C4 29 4 (nI H)) := (W3.fP f4).updL (by decide) (by rw [gI_sI', if_neg (by decide)])
        have T5 : ∀ r, r < 18 → cT (upd (upd Q 0 (nI N)) 3 (nI H)) r ≤ 6 := fun r hr => by rw [cT_upd (by omega)]; exact T3 r hr
        have o5 : okC b n (tE b n (tE b n e3)) (sI C4 29 4 (nI H)) := o4.s (by decide) (by decide)
        have F5 : fr lP Mc (sI C4 29 4 (nI H)) := fr_sI (F3.trans f4.p) (by decide)
        generalize hC5 : sI C4 29 4 (nI H) = C5 at *
        generalize hE5 : tE b n (tE b n e3) = e5 at *
        by_cases c6 : WN b n e5 3 0 30010
        · obtain ⟨C6, k6, f6, q6, o6⟩ := wnC hZ o5 (by decide) (by decide) c6
          obtain ⟨R6, r6, s6, t6⟩ := wnR hZ t5 (by decide) (by decide) c6
          obtain ⟨R7, r7, s7, t7⟩ := putsR (Z := Z) (v := nI (tV b n (tE b n e5))) t6 (j := 4) (by decide)
          have v6 := c6.2.2
          have g6 : tV b n (tE b n e5) ≤ 30010 := by have := v6.2; have e6 : (30010 : Int32).toInt = 30010 := by decide
                                                     omega
          generalize hs : tV b n (tE b n e5) = s at *
          refine Or.inl ⟨tE b n (tE b n e5), N, H, s, sI C6 29 5 (nI s), R7, ?_, fun K => ?_, ⟨o6.s (by decide) (by decide), (A5.fP f6).updS T5 (j := 4) (by decide), (W5.fP f6).updL (by decide) (by rw [gI_sI', if_neg (by decide)]), t7⟩, ⟨v2.1, g2⟩, ⟨v4.1, g4⟩, g6, fr_sI (F5.trans f6.p) (by decide), (((((s1.trans s2).trans s3).trans s4).trans s5).trans s6).trans s7⟩
          · rw [k1, cl_some, if_neg (by decide), e1n, k2, bd_eq, q2, bd_eq, hC3, k4, bd_eq, q4, bd_eq, hC5]
            refine (k6 _).trans ?_
            rw [bd_eq, q6, bd_eq]
          · rw [r1, cl_some, e1n, r2, cl_some, show (0 : Int32) = nI 0 from rfl, r3, cl_some, r4, cl_some, show (3 : Int32) = nI 3 from rfl, r5, cl_some, r6, cl_some, show (4 : Int32) = nI 4 from rfl, r7, cl_some]
        · obtain ⟨C6, k6, f6, o6⟩ := wnC_no hZ o5 (by decide) (by decide) c6
          obtain ⟨R6, r6, s6, t6⟩ := wnR_no hZ t5 (by decide) (by decide) c6
          refine Or.inr ⟨_, _, C6, R6, ?_, fun K => ?_, o6, t6, F5.trans (f6.mono (by decide)), ((((s1.trans s2).trans s3).trans s4).trans s5).trans s6⟩
          · rw [k1, cl_some, if_neg (by decide), e1n, k2, bd_eq, q2, bd_eq, hC3, k4, bd_eq, q4, bd_eq, hC5]
            exact k6 _
          · rw [r1, cl_some, e1n, r2, cl_some, show (0 : Int32) = nI 0 from rfl, r3, cl_some, r4, cl_some, show (3 : Int32) = nI 3 from rfl, r5, cl_some, r6, cl_some, putsE t6, cl_some]
      · obtain ⟨C4, k4, f4, o4⟩ := wnC_no hZ o3 (by decide) (by decide) c4
        obtain ⟨R4, r4, s4, t4⟩ := wnR_no hZ t3 (by decide) (by decide) c4
        refine Or.inr ⟨_, _, C4, R4, ?_, fun K => ?_, o4, t4, F3.trans (f4.mono (by decide)), ((s1.trans s2).trans s3).trans s4⟩
        · rw [k1, cl_some, if_neg (by decide), e1n, k2, bd_eq, q2, bd_eq, hC3, k4]
        · rw [r1, cl_some, e1n, r2, cl_some, show (0 : Int32) = nI 0 from rfl, r3, cl_some, r4, cl_some, putsE t4, cl_some, wnE t4, cl_some, putsE t4, cl_some]
    · obtain ⟨C2, k2, f2, o2⟩ := wnC_no hZ o1 (by decide) (by decide) c2
      obtain ⟨R2, r2, s2, t2⟩ := wnR_no hZ t1 (by decide) (by decide) c2
      refine Or.inr ⟨_, _, C2, R2, ?_, fun K => ?_, o2, t2, f1.p.trans (f2.mono (by decide)), s1.trans s2⟩
      · rw [k1, cl_some, if_neg (by decide), e1n, k2]
      · rw [r1, cl_some, e1n, r2, cl_some, putsE t2, cl_some, wnE t2, cl_some, putsE t2, cl_some, wnE t2, cl_some, putsE t2, cl_some]
  · have c1' : isW b n e 0 = false := by simpa using c1
    rw [if_neg c1] at t1
    obtain ⟨C1, k1, f1, o1⟩ := takeWordN hZ hc (by decide) c1'
    refine Or.inr ⟨_, _, C1, R1, ?_, fun K => ?_, o1, t1, f1.mono (by decide), s1⟩
    · rw [k1, cl_some, if_pos rfl]
    · rw [r1, cl_some, wnE t1, cl_some, putsE t1, cl_some, wnE t1, cl_some, putsE t1, cl_some, wnE t1, cl_some, putsE t1, cl_some]
