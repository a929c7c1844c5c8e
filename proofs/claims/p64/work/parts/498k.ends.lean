/-! the end of a text -/
def kC (Z : Nat) (M21 : Mem) : Option (Int32 × Mem) := bd (gI M21 (1) 3) (fun v22 => (if v22 = 0 then cl (f_X4_checkStates Z M21) (fun v26 M27 => (if v26 &&& 1 = v26 then some (v26, M27) else none)) else cl (f_X4_fail Z M21 (1 : Int32)) (fun v23 M24 => (if v23 &&& 1 = v23 then some (v23, M24) else none))))
theorem checkC {Z : Nat} {M : Mem} {b : Nat → Nat} {n e : Nat} {Q : Nat → Int32} (hZ : 4000 < Z) (hc : okC b n e M) (hq : CQ0 Q M) (hV : VW Q) :
    ((∀ x, x < cN Q → cM Q x ≠ 0) ∧ f_X4_checkStates Z M = some (1, M)) ∨ ((∃ x, x < cN Q ∧ cM Q x = 0) ∧ ∃ M', f_X4_checkStates Z M = some (0, M') ∧ fr [21] M M' ∧ erC 6 (tA b n e) M') := by
  have hN := hV.N
  obtain ⟨M', e1, f1, o1⟩ := failC (Z := Z) (c := 6) hc
  have c0 : gI M 22 0 = nI (cN Q) := hq.1.1.trans hN.1
  unfold f_X4_checkStates
  rw [show (6 : Int32) = nI 6 from rfl, e1, cl_some, if_pos (by decide)]
  refine lpS (σ := Unit) (fun m k _ => f_X4_checkStates_L2 Z M (some (0, M')) m (nI k)) (fun q => ((∀ x, x < cN Q → cM Q x ≠ 0) ∧ q = some (1, M)) ∨ ((∃ x, x < cN Q ∧ cM Q x = 0) ∧ ∃ M', q = some (0, M') ∧ fr [21] M M' ∧ erC 6 (tA b n e) M')) (fun k _ => ∀ x, x < k → cM Q x ≠ 0) 0 (cN Q) (s := ()) (by omega) (by omega) (fun x hx => absurd hx (by omega)) ?_ ?_
  · intro m k _ _ hk hI K
    have hM := hV.M k (by omega)
    have m8 : gI M 23 k = nI (cM Q k) := (hq.1.2.2.1 k (by omega)).trans hM.1
    rw [f_X4_checkStates_L2, bd_eq, c0, if_neg (by rw [nI_ile (by omega) (by omega)]; omega), rdI_n (by omega) (by decide), m8]
    by_cases z : cM Q k = 0
    · rw [if_pos (by rw [z]; rfl)]
      exact Or.inr ⟨⟨k, hk, z⟩, M', rfl, f1, o1⟩
    · rw [if_neg (by rw [show (0 : Int32) = nI 0 from rfl, nI_eq (by omega) (by decide)]; exact z), show nI k + (1 : Int32) = nI (k + 1) from nI_add k 1]
      refine K () (fun x hx => ?_)
      by_cases c : x = k
      · rw [c]; exact z
      · exact hI x (by omega)
  · intro m _ hI
    rw [f_X4_checkStates_L2, bd_eq, c0, if_pos (by rw [nI_ile (by omega) (by omega)]; omega)]
    exact Or.inl ⟨hI, rfl⟩
