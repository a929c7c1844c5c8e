theorem rdX_n {β : Type} {xs : Nat → Int32} {L k : Nat} {kk : Int32 → Option β} (h : k < L) (hL : L < 100000) : rdX xs L (nI k) kk = kk (xs k) := by
  have e := nI_clamp (n := k) (by omega)
  have : inB (nI k) L = true := by
    simp only [inB, Bool.and_eq_true, decide_eq_true_eq, e]
    exact ⟨nI_pos' (by omega), h⟩
  simp only [rdX, this, if_true, e]
/-- the end of a case that compares what was thrown, then what was answered -/
theorem tail_l {Z : Nat} {M : Mem} {c : Int32} {v : Int64} {j : Mem → Option Unit} (hc : gI M 108 0 = c) (hv : c = 0 → gL M 124 0 = v) (hj : j M = some ()) : cl (f_X12_thrown Z M) (fun v7 M8 => if v7 = c then (if c = 0 then rdL M8 124 1 (0 : Int32) (fun v9 => if v9 = v then j M8 else none) else j M8) else none) = some () := by
  unfold f_X12_thrown
  rw [bd_eq, cl_some, if_pos hc]
  by_cases h : c = 0
  · rw [if_pos h, i0, rdL_n (by decide) (by decide), if_pos (hv h)]
    exact hj
  · rw [if_neg h]
    exact hj
theorem Has.N {M : Mem} (h : Has M) : 1 ≤ cN (gI M 112) ∧ cN (gI M 112) ≤ 6 := ⟨h.2.1.2.1.1, h.2.1.2.1.2.1⟩
theorem Has.c {M : Mem} (h : Has M) : ChC M (cN (gI M 112)) (cM (gI M 112)) (cP (gI M 112)) := h.2.2.1.chC h.2.1
theorem Has.r {M : Mem} (h : Has M) : ChR M (cN (gI M 112)) (cM (gI M 112)) (cP (gI M 112)) := h.2.1.chR rfl
theorem Has.z {M : Mem} (h : Has M) : Sz (cN (gI M 112)) (cM (gI M 112)) (cP (gI M 112)) := h.2.1.sz
theorem out_kp {M : Mem} {v : Int64} : kp M (sL M 124 0 v) := kp.of (fr_sL fr.rfl (List.mem_cons_self (l := []))) (by decide)
theorem b_law_8 {Z L : Nat} {xs : Nat → Int32} {M : Mem} {i : Int32} {j : Mem → Option Unit} (hI : Inv M) (hj : ∀ M1, Inv M1 → j M1 = some ()) : f_law_8 Z L xs M i j = some () := by
  unfold f_law_8
  rcases hI.2.2.2.2.2 with h | h
  · have e1 : f_L_start Z M = some (1, M) := by
      unfold f_L_start f_X11_start
      rw [needChain0 h.2.1]
      rfl
    have e2 : f_X12_start Z M = some (0, Tc M 1) := by
      unfold f_X12_start
      rw [noChain0 h.1]
      rfl
    rw [e1, cl_some, e2, cl_some]
    exact tail_l Tc_0 (fun z => absurd z (by decide)) (hj _ (hI.kp Tc.kp))
  · have e1 : f_L_start Z M = some (0, sL M 124 0 (gI M 10 3).toInt64) := by
      unfold f_L_start f_X11_start
      rw [needChain1 h.c.1 h.N]
      simp (disch := omega) only [clT_ok, bd_eq, i0, wrL_n]
    have e2 : f_X12_start Z (sL M 124 0 (gI M 10 3).toInt64) = some (gI M 109 0, T0 (sL M 124 0 (gI M 10 3).toInt64)) := by
      unfold f_X12_start
      rw [noChain1 (by exact h.1), cl_some, if_pos rfl, rd109 (c := 0) (i := 0) (by decide) (by decide), gI_sI', if_neg (by decide)]
      rfl
    rw [e1, cl_some, e2, cl_some]
    refine tail_l T0_0 (fun _ => ?_) (hj _ (hI.kp (out_kp.trans T0.kp)))
    rw [T0_L, gL_sL, if_pos ⟨rfl, rfl⟩, h.2.2.2.2.1.1.1]
