/-! the gain of an act line -/
def gE (b : Nat → Nat) (n e : Nat) : Nat := if tK b n e = 3 then tE b n e else e
def gV (b : Nat → Nat) (n e : Nat) : Int32 := if tK b n e = 3 then -(nI (tV b n (gE b n e))) else nI (tV b n (gE b n e))
def gOK (b : Nat → Nat) (n e : Nat) : Prop := tK b n (gE b n e) = 2 ∧ nOK (tV b n (gE b n e)) 0 999
theorem gainC {Z : Nat} {M : Mem} {b : Nat → Nat} {n e r : Nat} (hZ : 4000 < Z) (h : okC b n e M) (hr : r < 18) (hg : gOK b n e) : ∃ M2, f_X4_parseGain Z M (nI r) = some (1, sI M2 24 r (gV b n e)) ∧ fP M M2 ∧ okC b n (tE b n (gE b n e)) (sI M2 24 r (gV b n e)) := by
  have kl := tK_lt (b := b) (n := n) (e := e)
  unfold f_X4_parseGain gV
  unfold gOK at hg
  rw [bd_eq, h.2.1.1, jnT]
  by_cases c : tK b n e = 3
  · have eg : gE b n e = tE b n e := if_pos c
    rw [eg] at hg ⊢
    obtain ⟨M1, e1, f1, _, o1⟩ := nextC hZ h
    obtain ⟨M2, e2, f2, q2, o2⟩ := takeC hZ o1 (lo := 0) (by decide) hg.1 hg.2
    rw [if_pos (show nI (tK b n e) = (3 : Int32) by rw [c]; rfl), if_pos c, jn_eq, if_neg (by decide), e1, cl_some]
    dsimp only
    rw [show f_X4_takeNumber Z M1 0 999 = some (1, M2) from e2, cl_some, if_neg (by decide), if_neg (by decide), bd_eq, q2, wrI_n hr (by decide)]
    exact ⟨M2, rfl, f1.trans f2, o2.s (by decide) (by decide)⟩
  · have eg : gE b n e = e := if_neg c
    rw [eg] at hg ⊢
    obtain ⟨M2, e2, f2, q2, o2⟩ := takeC hZ h (lo := 0) (by decide) hg.1 hg.2
    have c3 : ¬ nI (tK b n e) = (3 : Int32) := by
      rw [show (3 : Int32) = nI 3 from rfl, nI_eq (by omega) (by decide)]
      exact c
    rw [if_neg c3, if_neg c, jn_eq, if_pos rfl]
    dsimp only
    rw [show f_X4_takeNumber Z M 0 999 = some (1, M2) from e2, cl_some, if_neg (by decide), if_pos rfl, bd_eq, q2, wrI_n hr (by decide)]
    exact ⟨M2, rfl, f2, o2.s (by decide) (by decide)⟩
theorem gainN {Z : Nat} {M : Mem} {b : Nat → Nat} {n e r : Nat} (hZ : 4000 < Z) (h : okC b n e M) (hg : ¬ gOK b n e) : ∃ M', f_X4_parseGain Z M (nI r) = some (0, M') ∧ fr [1, 21] M M' ∧ erC (if tK b n (gE b n e) = 2 then 2 else 1) (tA b n (gE b n e)) M' := by
  have kl := tK_lt (b := b) (n := n) (e := e)
  unfold f_X4_parseGain
  unfold gOK at hg
  rw [bd_eq, h.2.1.1, jnT]
  by_cases c : tK b n e = 3
  · have eg : gE b n e = tE b n e := if_pos c
    rw [eg] at hg ⊢
    obtain ⟨M1, e1, f1, _, o1⟩ := nextC hZ h
    obtain ⟨M2, e2, f2, o2⟩ := takeN (Z := Z) o1 (lo := 0) (by decide) hg
    rw [if_pos (show nI (tK b n e) = (3 : Int32) by rw [c]; rfl), jn_eq, if_neg (by decide), e1, cl_some]
    dsimp only
    rw [show f_X4_takeNumber Z M1 0 999 = some (0, M2) from e2, cl_some, if_pos rfl]
    exact ⟨M2, rfl, f1.1.trans (f2.mono (by decide)), o2⟩
  · have eg : gE b n e = e := if_neg c
    rw [eg] at hg ⊢
    obtain ⟨M2, e2, f2, o2⟩ := takeN (Z := Z) h (lo := 0) (by decide) hg
    have c3 : ¬ nI (tK b n e) = (3 : Int32) := by
      rw [show (3 : Int32) = nI 3 from rfl, nI_eq (by omega) (by decide)]
      exact c
    rw [if_neg c3, jn_eq, if_pos rfl]
    dsimp only
    rw [show f_X4_takeNumber Z M 0 999 = some (0, M2) from e2, cl_some, if_pos rfl]
    exact ⟨M2, rfl, f2.mono (by decide), o2⟩
/-- the reference's -/
def rdGain (Z : Nat) (M8 : Mem) (idx : Int32) (K : Mem → Option (Unit × Mem)) : Option (Unit × Mem) := bd (gI M8 (108) 19) (fun v11 => jn (fun (t12 : Int32) => jn (fun (t13 : Mem) => cl (f_X12_takes Z t13 (0 : Int32) (999 : Int32)) (fun v14 M15 => jn (fun (t16 : Int32) => cl (f_X12_puts Z M15 idx t16) (fun v17 M18 => K M18)) (fun j47 => (if t12 = 0 then j47 v14 else j47 (-v14))))) (fun j49 => (if t12 = 0 then j49 M8 else cl (f_X12_token Z M8) (fun v50 M51 => j49 M51)))) (fun j53 => jn (fun (t54 : Unit) => j53 (0 : Int32)) (fun j55 => (if v11 = 0 then bd (gI M8 (108) 15) (fun v56 => (if v56 = (4 : Int32) then j53 (1 : Int32) else j55 ())) else j55 ()))))
theorem gainR {Z : Nat} {M : Mem} {b : Nat → Nat} {n e i : Nat} {Q : Nat → Int32} (hZ : 4000 < Z) (h : okR b n e Q M) (hi : i < 344) (hg : gOK b n e) (h0 : i ≠ 0 := by omega) : ∃ M', (∀ K, rdGain Z M (nI i) K = K M') ∧ fQ M M' ∧ okR b n (tE b n (gE b n e)) (upd Q i (gV b n e)) M' := by
  have kl := kR_lt (tK_lt (b := b) (n := n) (e := e))
  unfold rdGain gV
  unfold gOK at hg
  by_cases c : tK b n e = 3
  · have eg : gE b n e = tE b n e := if_pos c
    rw [eg] at hg ⊢
    obtain ⟨M1, e1, f1, o1⟩ := nextR hZ h
    obtain ⟨M2, e2, f2, o2⟩ := takesR hZ o1 (lo := 0) (by decide) hg.1 hg.2
    obtain ⟨M3, e3, f3, o3⟩ := putsR (Z := Z) (v := -(nI (tV b n (tE b n e)))) o2 hi
    rw [if_pos c]
    refine ⟨M3, fun K => ?_, (f1.trans f2).trans f3, o3⟩
    rw [bd_eq, h.2.2.1, jn_eq, jn_eq, if_pos (show nI 0 = (0 : Int32) from rfl), bd_eq, h.2.1.1, if_pos (show nI (kR (tK b n e)) = (4 : Int32) by rw [c]; rfl)]
    dsimp only
    rw [jn_eq, if_neg (by decide), e1, cl_some]
    dsimp only
    rw [show f_X12_takes Z M1 0 999 = some (nI (tV b n (tE b n e)), M2) from e2, cl_some, jn_eq, if_neg (by decide)]
    dsimp only
    rw [e3, cl_some]
  · have eg : gE b n e = e := if_neg c
    rw [eg] at hg ⊢
    obtain ⟨M2, e2, f2, o2⟩ := takesR hZ h (lo := 0) (by decide) hg.1 hg.2
    obtain ⟨M3, e3, f3, o3⟩ := putsR (Z := Z) (v := nI (tV b n e)) o2 hi
    have c3 : ¬ nI (kR (tK b n e)) = (4 : Int32) := by
      rw [show (4 : Int32) = nI 4 from rfl, nI_eq (by omega) (by decide), kR_4]
      exact c
    rw [if_neg c]
    refine ⟨M3, fun K => ?_, f2.trans f3, o3⟩
    rw [bd_eq, h.2.2.1, jn_eq, jn_eq, if_pos (show nI 0 = (0 : Int32) from rfl), bd_eq, h.2.1.1, if_neg c3]
    dsimp only
    rw [jn_eq, if_pos rfl]
    dsimp only
    rw [show f_X12_takes Z M 0 999 = some (nI (tV b n e), M2) from e2, cl_some, jn_eq, if_pos rfl]
    dsimp only
    rw [e3, cl_some]
theorem gainRN {Z : Nat} {M : Mem} {b : Nat → Nat} {n e : Nat} {i : Int32} {Q : Nat → Int32} (hZ : 4000 < Z) (h : okR b n e Q M) (hg : ¬ gOK b n e) : ∃ M', (∀ K, rdGain Z M i K = K M') ∧ fQ M M' ∧ erR (if tK b n (gE b n e) = 2 then 2 else 1) (tA b n (gE b n e)) M' := by
  have kl := kR_lt (tK_lt (b := b) (n := n) (e := e))
  unfold rdGain
  unfold gOK at hg
  by_cases c : tK b n e = 3
  · have eg : gE b n e = tE b n e := if_pos c
    rw [eg] at hg ⊢
    obtain ⟨M1, e1, f1, o1⟩ := nextR hZ h
    obtain ⟨M2, e2, f2, o2⟩ := takesN (Z := Z) o1 (lo := 0) (by decide) hg
    refine ⟨M2, fun K => ?_, f1.trans f2, o2⟩
    rw [bd_eq, h.2.2.1, jn_eq, jn_eq, if_pos (show nI 0 = (0 : Int32) from rfl), bd_eq, h.2.1.1, if_pos (show nI (kR (tK b n e)) = (4 : Int32) by rw [c]; rfl)]
    dsimp only
    rw [jn_eq, if_neg (by decide), e1, cl_some]
    dsimp only
    rw [show f_X12_takes Z M1 0 999 = some (nI 0, M2) from e2, cl_some, jn_eq, if_neg (by decide)]
    dsimp only
    rw [putsE o2, cl_some]
  · have eg : gE b n e = e := if_neg c
    rw [eg] at hg ⊢
    obtain ⟨M2, e2, f2, o2⟩ := takesN (Z := Z) h (lo := 0) (by decide) hg
    have c3 : ¬ nI (kR (tK b n e)) = (4 : Int32) := by
      rw [show (4 : Int32) = nI 4 from rfl, nI_eq (by omega) (by decide), kR_4]
      exact c
    refine ⟨M2, fun K => ?_, f2, o2⟩
    rw [bd_eq, h.2.2.1, jn_eq, jn_eq, if_pos (show nI 0 = (0 : Int32) from rfl), bd_eq, h.2.1.1, if_neg c3]
    dsimp only
    rw [jn_eq, if_pos rfl]
    dsimp only
    rw [show f_X12_takes Z M 0 999 = some (nI 0, M2) from e2, cl_some, jn_eq, if_pos rfl]
    dsimp only
    rw [putsE o2, cl_some]
theorem gainRE {Z : Nat} {M : Mem} {c p : Nat} {i : Int32} (h : erR c p M) (K : Mem → Option (Unit × Mem)) : rdGain Z M i K = K M := by
  unfold rdGain
  rw [bd_eq, jn_eq, jn_eq, if_neg (er_ne h)]
  dsimp only
  rw [jn_eq, if_pos rfl]
  dsimp only
  rw [takesE h, cl_some, jn_eq, if_pos rfl]
  dsimp only
  rw [putsE h, cl_some]
