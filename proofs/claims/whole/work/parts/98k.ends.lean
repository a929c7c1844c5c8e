/-! the end of a text -/
def kC (Z : Nat) (M21 : Mem) : Option (Int32 × Mem) := bd (gI M21 (1) 3) (fun v22 => (if v22 = 0 then cl (f_X4_checkStates Z M21) (fun v26 M27 => (if v26 &&& 1 = v26 then some (v26, M27) else none)) else cl (f_X4_fail Z M21 (1 : Int32)) (fun v23 M24 => (if v23 &&& 1 = v23 then some (v23, M24) else none))))
def rTail (Z : Nat) (M34 : Mem) : Option (Unit × Mem) := bd (gI M34 (108) 15) (fun v35 => jn (fun (t36 : Mem) => f_X12_reads_L134 Z Z (0 : Int32) t36) (fun j46 => (if v35 = 0 then j46 M34 else cl (f_X12_fails Z M34 (1 : Int32)) (fun v47 M48 => j46 M48))))
theorem checkC {Z : Nat} {M : Mem} {b : Nat → Nat} {n e : Nat} {Q : Nat → Int32} (hZ : 4000 < Z) (hc : okC b n e M) (hq : CQ0 Q M) (hV : VW Q) :
    ((∀ x, x < cN Q → cM Q x ≠ 0) ∧ f_X4_checkStates Z M = some (1, M)) ∨ ((∃ x, x < cN Q ∧ cM Q x = 0) ∧ ∃ M', f_X4_checkStates Z M = some (0, M') ∧ fr [21] M M' ∧ erC 6 (tA b n e) M') := by
  have hN := hV.N
  obtain ⟨M', e1, f1, o1⟩ := failC (Z := Z) (c := 6) hc
  have c0 : gI M 22 0 = nI (cN Q) := hq.1.1.trans hN.1
  unfold f_X4_checkStates
  rw [show (6 : Int32) = nI 6 from rfl, e1, cl_some, if_pos (by decide)]
  refine lpS (σ := Unit) (fun m k _ => f_X4_checkStates_L2 Z M (some (0, M')) m (nI k)) (fun q => ((∀ x, x < cN Q → cM Q x ≠ 0) ∧ q = some (1, M)) ∨ ((∃ x, x < cN Q ∧ cM Q x = 0) ∧ ∃ M', q = some (0, M') ∧ fr [21] M M' ∧ erC 6 (tA b n e) M')) (fun k _ => ∀ x, x < k → cM Q x ≠ 0) 0 (cN Q) (s := ()) (by omega) (by omega) (fun x hx => absurd hx (by omega)) ?_ ?_
  · intro m k _ _ hk hI K
    have hM := hV.M k (by omega)
    have m8 : gI M 23 k = nI (cM Q k) := (hq.1.2.2.1 k (by omega)).trans hM.1
    rw [f_X4_checkStates_L2, bd_eq, c0, if_neg (by rw [nI_ile (by omega) (by omega)]; omega), rdI_n (by omega) (by decide), m8]
    by_cases z : cM Q k = 0
    · rw [if_pos (by rw [z]; rfl)]
      exact Or.inr ⟨⟨k, hk, z⟩, M', rfl, f1, o1⟩
    · rw [if_neg (by rw [show (0 : Int32) = nI 0 from rfl, nI_eq (by omega) (by decide)]; exact z), show nI k + (1 : Int32) = nI (k + 1) from nI_add k 1]
      refine K () (fun x hx => ?_)
      by_cases c : x = k
      · rw [c]; exact z
      · exact hI x (by omega)
  · intro m _ hI
    rw [f_X4_checkStates_L2, bd_eq, c0, if_pos (by rw [nI_ile (by omega) (by omega)]; omega)]
    exact Or.inl ⟨hI, rfl⟩
theorem l134E {Z : Nat} {M : Mem} {c p : Nat} (hZ : 4000 < Z) (h : erR c p M) (h0 : sm0 M) : ∀ i, i ≤ 6 → ∀ m, 7 < m + i → f_X12_reads_L134 Z m (nI i) M = some ((), M) := by
  obtain ⟨N, n6, hN⟩ := h0
  have main : ∀ d i, i ≤ 6 → N - i ≤ d → ∀ m, d < m → f_X12_reads_L134 Z m (nI i) M = some ((), M) := by
    intro d
    induction d with
    | zero =>
      intro i hi hd m hm
      obtain ⟨m', rfl⟩ : ∃ m', m = m' + 1 := ⟨m - 1, by omega⟩
      rw [f_X12_reads_L134, show (0 : Int32) = nI 0 from rfl, rdI_n (by decide) (by decide), hN, if_pos (by rw [nI_ile (by omega) (by omega)]; omega)]
    | succ d ih =>
      intro i hi hd m hm
      obtain ⟨m', rfl⟩ : ∃ m', m = m' + 1 := ⟨m - 1, by omega⟩
      rw [f_X12_reads_L134, show (0 : Int32) = nI 0 from rfl, rdI_n (by decide) (by decide), hN]
      by_cases c : N ≤ i
      · rw [if_pos (by rw [nI_ile (by omega) (by omega)]; exact c)]
      · rw [if_neg (by rw [nI_ile (by omega) (by omega)]; exact c), show (8 : Int32) = nI 8 from rfl, nI_add, rdI_n (by omega) (by decide), jn_eq, failsE h, cl_some]
        have fin : f_X12_reads_L134 Z m' (nI i + (1 : Int32)) M = some ((), M) := by
          rw [show nI i + (1 : Int32) = nI (i + 1) from nI_add i 1]
          exact ih (i + 1) (by omega) (by omega) m' (by omega)
        by_cases z : gI M 113 (8 + i) = nI 0
        · rw [if_pos z]
          exact fin
        · rw [if_neg z]
          exact fin
  intro i hi m hm
  exact main (N - i) i hi (Nat.le_refl _) m (by omega)
theorem rTailE {Z : Nat} {M : Mem} {c p : Nat} (hZ : 4000 < Z) (h : erR c p M) (h0 : sm0 M) : rTail Z M = some ((), M) := by
  have k := l134E hZ h h0 0 (by decide) Z (by omega)
  unfold rTail
  rw [bd_eq, jn_eq, failsE h, cl_some]
  by_cases z : gI M 108 15 = 0
  · rw [if_pos z]
    exact k
  · rw [if_neg z]
    exact k
theorem l134R {Z : Nat} {M : Mem} {b : Nat → Nat} {n e : Nat} {Q : Nat → Int32} (hZ : 4000 < Z) (h : okR b n e Q M) (hV : VW Q) :
    ((∀ x, x < cN Q → cM Q x ≠ 0) → f_X12_reads_L134 Z Z (nI 0) M = some ((), M)) ∧ ((∃ x, x < cN Q ∧ cM Q x = 0) → ∃ M', f_X12_reads_L134 Z Z (nI 0) M = some ((), M') ∧ fQ M M' ∧ erR 6 (tA b n e) M') := by
  have hN := hV.N
  obtain ⟨M', e1, f1, o1⟩ := failsR (Z := Z) h (c := 6) (by decide) (by decide)
  have c0 : gI M 113 0 = nI (cN Q) := by rw [h.2.2.2.1]; exact hN.1
  have s0 : sm0 M' := f1.2.2 ⟨cN Q, hN.2, c0⟩
  have key : ((∀ x, x < cN Q → cM Q x ≠ 0) → f_X12_reads_L134 Z (Z - 8 + 8) (nI 0) M = some ((), M)) ∧ ((∃ x, x < cN Q ∧ cM Q x = 0) → ∃ M', f_X12_reads_L134 Z (Z - 8 + 8) (nI 0) M = some ((), M') ∧ fQ M M' ∧ erR 6 (tA b n e) M') := by
    refine lpS (σ := Unit) (fun m k _ => f_X12_reads_L134 Z (m + 8) (nI k) M) (fun q => ((∀ x, x < cN Q → cM Q x ≠ 0) → q = some ((), M)) ∧ ((∃ x, x < cN Q ∧ cM Q x = 0) → ∃ M', q = some ((), M') ∧ fQ M M' ∧ erR 6 (tA b n e) M')) (fun k _ => ∀ x, x < k → cM Q x ≠ 0) 0 (cN Q) (Z := Z - 8) (s := ()) (by omega) (by omega) (fun x hx => absurd hx (by omega)) ?_ ?_
    · intro m k _ _ hk hI K
      have hM := hV.M k (by omega)
      have m8 : gI M 113 (8 + k) = nI (cM Q k) := by rw [h.2.2.2.1]; exact hM.1
      rw [show m + 1 + 8 = m + 8 + 1 by omega, f_X12_reads_L134, show (0 : Int32) = nI 0 from rfl, rdI_n (by decide) (by decide), c0, if_neg (by rw [nI_ile (by omega) (by omega)]; omega), show (8 : Int32) = nI 8 from rfl, nI_add, rdI_n (by omega) (by decide), m8, jn_eq]
      by_cases z : cM Q k = 0
      · rw [if_pos (by rw [z]), show (6 : Int32) = nI 6 from rfl, e1, cl_some, show nI k + (1 : Int32) = nI (k + 1) from nI_add k 1]
        dsimp only
        rw [l134E hZ o1 s0 (k + 1) (by omega) (m + 8) (by omega)]
        exact ⟨fun g => absurd z (g k hk), fun _ => ⟨M', rfl, f1, o1⟩⟩
      · rw [if_neg (by rw [nI_eq (by omega) (by decide)]; exact z), show nI k + (1 : Int32) = nI (k + 1) from nI_add k 1]
        refine K () (fun x hx => ?_)
        by_cases c : x = k
        · rw [c]; exact z
        · exact hI x (by omega)
    · intro m _ hI
      rw [show m + 1 + 8 = m + 8 + 1 by omega, f_X12_reads_L134, show (0 : Int32) = nI 0 from rfl, rdI_n (by decide) (by decide), c0, if_pos (by rw [nI_ile (by omega) (by omega)]; omega)]
      exact ⟨fun _ => rfl, fun ⟨x, h1, h2⟩ => absurd h2 (hI x h1)⟩
  rw [show Z - 8 + 8 = Z by omega] at key
  exact key
theorem end_sim {Z : Nat} {Mc Mr : Mem} {b : Nat → Nat} {n e : Nat} {Q : Nat → Int32} (hZ : 4000 < Z) (h : GCR b n e Q Mc Mr) (hV : VQ Q) :
    (kC Z Mc = some (1, Mc) ∧ rTail Z Mr = some ((), Mr) ∧ ∀ x, x < cN Q → cM Q x ≠ 0) ∨
    (∃ c p Mc' Mr', kC Z Mc = some (0, Mc') ∧ rTail Z Mr = some ((), Mr') ∧ erC c p Mc' ∧ erR c p Mr' ∧ fr lP Mc Mc' ∧ fQ Mr Mr') := by
  have kl := tK_lt (b := b) (n := n) (e := e)
  have kl2 := kR_lt kl
  have hW := hV.1
  have s0 : sm0 Mr := ⟨cN Q, hW.N.2, by rw [h.2.2.2.2.2.2.1]; exact hW.N.1⟩
  unfold kC rTail
  rw [bd_eq, h.1.2.1.1, bd_eq, h.2.2.2.2.1.1, jn_eq]
  by_cases c : tK b n e = 0
  · rw [if_pos (by rw [c]; rfl), if_pos (by rw [c]; rfl)]
    obtain ⟨r1, r2⟩ := l134R hZ h.2.2.2 hW
    rcases checkC hZ h.1 h.2.1 hW with ⟨g, k⟩ | ⟨g, C1, k1, f1, o1⟩
    · refine Or.inl ⟨by rw [k, cl_some, if_pos (by decide)], r1 g, g⟩
    · obtain ⟨R1, q1, s1, t1⟩ := r2 g
      exact Or.inr ⟨_, _, C1, R1, by rw [k1, cl_some, if_pos (by decide)], q1, o1, t1, f1.mono (by decide), s1⟩
  · obtain ⟨C1, k1, f1, o1⟩ := failC (Z := Z) (c := 1) h.1
    obtain ⟨R1, q1, s1, t1⟩ := failsR (Z := Z) h.2.2.2 (c := 1) (by decide) (by decide)
    refine Or.inr ⟨_, _, C1, R1, ?_, ?_, o1, t1, f1.mono (by decide), s1⟩
    · rw [if_neg (by rw [show (0 : Int32) = nI 0 from rfl, nI_eq (by omega) (by decide)]; exact c), show (1 : Int32) = nI 1 from rfl, k1, cl_some, if_pos (by decide)]
    · rw [if_neg (by rw [show (0 : Int32) = nI 0 from rfl, nI_eq (by omega) (by decide), kR_0]; exact c), show (1 : Int32) = nI 1 from rfl, q1, cl_some]
      exact l134E hZ t1 (s1.2.2 s0) 0 (by decide) Z (by omega)
