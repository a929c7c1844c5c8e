theorem Has.N {M : Mem} (h : Has M) : 1 ≤ cN (gI M 112) ∧ cN (gI M 112) ≤ 6 := ⟨h.2.1.2.1.1, h.2.1.2.1.2.1⟩
theorem Has.c {M : Mem} (h : Has M) : ChC M (cN (gI M 112)) (cM (gI M 112)) (cP (gI M 112)) := h.2.2.1.chC h.2.1
theorem Has.r {M : Mem} (h : Has M) : ChR M (cN (gI M 112)) (cM (gI M 112)) (cP (gI M 112)) := h.2.1.chR rfl
theorem Has.z {M : Mem} (h : Has M) : Sz (cN (gI M 112)) (cM (gI M 112)) (cP (gI M 112)) := h.2.1.sz
theorem out_kp {M : Mem} {v : Int64} : kp M (sL M 124 0 v) := kp.of (fr_sL fr.rfl (List.mem_cons_self (l := []))) (by decide)
