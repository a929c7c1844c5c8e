/-! the gain of an act line -/
def gE (b : Nat → Nat) (n e : Nat) : Nat := if tK b n e = 3 then tE b n e else e
def gV (b : Nat → Nat) (n e : Nat) : Int32 := if tK b n e = 3 then -(nI (tV b n (gE b n e))) else nI (tV b n (gE b n e))
def gOK (b : Nat → Nat) (n e : Nat) : Prop := tK b n (gE b n e) = 2 ∧ nOK (tV b n (gE b n e)) 0 999
theorem gainC {Z : Nat} {M : Mem} {b : Nat → Nat} {n e r : Nat} (hZ : 4000 < Z) (h : okC b n e M) (hr : r < 18) (hg : gOK b n e) : ∃ M2, f_X4_parseGain Z M (nI r) = some (1, sI M2 24 r (gV b n e)) ∧ fP M M2 ∧ okC b n (tE b n (gE b n e)) (sI M2 24 r (gV b n e)) := by
  have kl := tK_lt (b := b) (n := n) (e := e)
  unfold f_X4_parseGain gV
  unfold gOK at hg
  rw [bd_eq, h.2.1.1, jnT]
  by_cases c : tK b n e = 3
  · have eg : gE b n e = tE b n e := if_pos c
    rw [eg] at hg ⊢
    obtain ⟨M1, e1, f1, _, o1⟩ := nextC hZ h
    obtain ⟨M2, e2, f2, q2, o2⟩ := takeC hZ o1 (lo := 0) (by decide) hg.1 hg.2
    rw [if_pos (show nI (tK b n e) = (3 : Int32) by rw [c]; rfl), if_pos c, jn_eq, if_neg (by decide), e1, cl_some]
    dsimp only
    rw [show f_X4_takeNumber Z M1 0 999 = some (1, M2) from e2, cl_some, if_neg (by decide), if_neg (by decide), bd_eq, q2, wrI_n hr (by decide)]
    exact ⟨M2, rfl, f1.trans f2, o2.s (by decide) (by decide)⟩
  · have eg : gE b n e = e := if_neg c
    rw [eg] at hg ⊢
    obtain ⟨M2, e2, f2, q2, o2⟩ := takeC hZ h (lo := 0) (by decide) hg.1 hg.2
    have c3 : ¬ nI (tK b n e) = (3 : Int32) := by
      rw [show (3 : Int32) = nI 3 from rfl, nI_eq (by omega) (by decide)]
      exact c
    rw [if_neg c3, if_neg c, jn_eq, if_pos rfl]
    dsimp only
    rw [show f_X4_takeNumber Z M 0 999 = some (1, M2) from e2, cl_some, if_neg (by decide), if_pos rfl, bd_eq, q2, wrI_n hr (by decide)]
    exact ⟨M2, rfl, f2, o2.s (by decide) (by decide)⟩
theorem gainN {Z : Nat} {M : Mem} {b : Nat → Nat} {n e r : Nat} (hZ : 4000 < Z) (h : okC b n e M) (hg : ¬ gOK b n e) : ∃ M', f_X4_parseGain Z M (nI r) = some (0, M') ∧ fr [1, 21] M M' ∧ erC (if tK b n (gE b n e) = 2 then 2 else 1) (tA b n (gE b n e)) M' := by
  have kl := tK_lt (b := b) (n := n) (e := e)
  unfold f_X4_parseGain
  unfold gOK at hg
  rw [bd_eq, h.2.1.1, jnT]
  by_cases c : tK b n e = 3
  · have eg : gE b n e = tE b n e := if_pos c
    rw [eg] at hg ⊢
    obtain ⟨M1, e1, f1, _, o1⟩ := nextC hZ h
    obtain ⟨M2, e2, f2, o2⟩ := takeN (Z := Z) o1 (lo := 0) (by decide) hg
    rw [if_pos (show nI (tK b n e) = (3 : Int32) by rw [c]; rfl), jn_eq, if_neg (by decide), e1, cl_some]
    dsimp only
    rw [show f_X4_takeNumber Z M1 0 999 = some (0, M2) from e2, cl_some, if_pos rfl]
    exact ⟨M2, rfl, f1.1.trans (f2.mono (by decide)), o2⟩
  · have eg : gE b n e = e := if_neg c
    rw [eg] at hg ⊢
    obtain ⟨M2, e2, f2, o2⟩ := takeN (Z := Z) h (lo := 0) (by decide) hg
    have c3 : ¬ nI (tK b n e) = (3 : Int32) := by
      rw [show (3 : Int32) = nI 3 from rfl, nI_eq (by omega) (by decide)]
      exact c
    rw [if_neg c3, jn_eq, if_pos rfl]
    dsimp only
    rw [show f_X4_takeNumber Z M 0 999 = some (0, M2) from e2, cl_some, if_pos rfl]
    exact ⟨M2, rfl, f2.mono (by decide), o2⟩
