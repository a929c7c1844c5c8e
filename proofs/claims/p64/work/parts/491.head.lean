/-! a word and its number; the head -/
def WN (b : Nat → Nat) (n e t lo : Nat) (hi : Int32) : Prop := isW b n e t = true ∧ tK b n (tE b n e) = 2 ∧ nOK (tV b n (tE b n e)) lo hi
def wc (b : Nat → Nat) (n e t : Nat) : Nat := if isW b n e t then (if tK b n (tE b n e) = 2 then 2 else 1) else 1
def wp (b : Nat → Nat) (n e t : Nat) : Nat := if isW b n e t then tA b n (tE b n e) else tA b n e
/-- the class -/
theorem wnC {Z : Nat} {M : Mem} {b : Nat → Nat} {n e t lo : Nat} {hi : Int32} (hZ : 4000 < Z) (h : okC b n e M) (ht : t < 10) (hlo : lo < 1000) (hw : WN b n e t lo hi) : ∃ M', (∀ (K : Mem → Option (Int32 × Mem)), cl (f_X4_takeWord Z M t) (fun v1 M2 => (if v1 = 0 then some ((0 : Int32), M2) else cl (f_X4_takeNumber Z M2 (nI lo) hi) (fun v5 M6 => (if v5 = 0 then some ((0 : Int32), M6) else K M6)))) = K M') ∧ fP M M' ∧ gI M' 21 5 = nI (tV b n (tE b n e)) ∧ okC b n (tE b n (tE b n e)) M' := by
  obtain ⟨M1, e1, f1, o1⟩ := takeWordC hZ h ht hw.1
  obtain ⟨M2, e2, f2, q2, o2⟩ := takeC hZ o1 hlo hw.2.1 hw.2.2
  exact ⟨M2, fun K => by rw [e1, cl_some, if_neg (by decide), e2, cl_some, if_neg (by decide)], f1.trans f2, q2, o2⟩
theorem wnC_no {Z : Nat} {M : Mem} {b : Nat → Nat} {n e t lo : Nat} {hi : Int32} (hZ : 4000 < Z) (h : okC b n e M) (ht : t < 10) (hlo : lo < 1000) (hw : ¬ WN b n e t lo hi) : ∃ M', (∀ (K : Mem → Option (Int32 × Mem)), cl (f_X4_takeWord Z M t) (fun v1 M2 => (if v1 = 0 then some ((0 : Int32), M2) else cl (f_X4_takeNumber Z M2 (nI lo) hi) (fun v5 M6 => (if v5 = 0 then some ((0 : Int32), M6) else K M6)))) = some (0, M')) ∧ fr [1, 21] M M' ∧ erC (wc b n e t) (wp b n e t) M' := by
  unfold wc wp
  by_cases c : isW b n e t = true
  · obtain ⟨M1, e1, f1, o1⟩ := takeWordC hZ h ht c
    obtain ⟨M2, e2, f2, o2⟩ := takeN (Z := Z) o1 hlo (fun z => hw ⟨c, z.1, z.2⟩)
    rw [if_pos c, if_pos c]
    exact ⟨M2, fun K => by rw [e1, cl_some, if_neg (by decide), e2, cl_some, if_pos rfl], f1.1.trans (f2.mono (by decide)), o2⟩
  · have c2 : isW b n e t = false := by simpa using c
    obtain ⟨M1, e1, f1, o1⟩ := takeWordN hZ h ht c2
    rw [if_neg c, if_neg c]
    exact ⟨M1, fun K => by rw [e1, cl_some, if_pos rfl], f1.mono (by decide), o1⟩
/-- the class's chain and settings while a text is read, beside the reference's row: all but the weights -/
def CQ0 (Q : Nat → Int32) (M : Mem) : Prop := RP Q M 22 ∧ (gI M 29 3 = Q 2 ∧ gI M 29 4 = Q 3 ∧ gI M 29 5 = Q 4 ∧ gI M 29 6 = -1) ∧ (∀ b, b < 3 → gI M 32 b = Q (5 + b)) ∧ (∀ x, x < 6 → gI M 31 x = nI 7) ∧ ∃ q, q < 64 ∧ (gI M 21 6 = nI q ∧ gI M 21 2 = 0 ∧ gI M 21 3 = -1) ∧ ∀ x, x < 6 → Q (320 + x) = nI (q / 2 ^ x % 2)
def CQW (Q : Nat → Int32) (M : Mem) : Prop := ∀ x, x < 6 → ∀ a, a < 3 → gI M 30 (x * 3 + a) = if Q (320 + x) = nI 1 then Q (326 + (x * 3 + a)) else if a = 0 then nI 10 else nI 0
def lP : List Nat := [1, 21, 22, 23, 24, 25, 26, 27, 28, 29, 30, 31, 32]
theorem lP_in {o : Nat} : o ∈ lP ↔ o = 1 ∨ (21 ≤ o ∧ o ≤ 32) := by
  unfold lP
  simp only [List.mem_cons, List.not_mem_nil, or_false]
  omega
theorem fP.p {M M' : Mem} (h : fP M M') : fr lP M M' := h.1.mono (by decide)
theorem CQ0.fP {Q : Nat → Int32} {M M' : Mem} (h : CQ0 Q M) (hf : fP M M') : CQ0 Q M' := by
  have e : ∀ o, 22 ≤ o → o ≤ 34 → gI M' o = gI M o := fun o a b => hf.1.I (by simp; omega)
  obtain ⟨h1, h2, h3, h4, h5⟩ := h
  refine ⟨?_, by rw [e 29 (by decide) (by decide)]; exact h2, by rw [e 32 (by decide) (by decide)]; exact h3, by rw [e 31 (by decide) (by decide)]; exact h4, by rw [hf.2 6 (by decide), hf.2 2 (by decide), hf.2 3 (by decide)]; exact h5⟩
  unfold RP
  rw [e 22 (by decide) (by decide), e (22 + 1) (by decide) (by decide), e (22 + 2) (by decide) (by decide), e (22 + 3) (by decide) (by decide), e (22 + 4) (by decide) (by decide), e (22 + 5) (by decide) (by decide), e (22 + 6) (by decide) (by decide)]
  exact h1
theorem CQW.fP {Q : Nat → Int32} {M M' : Mem} (h : CQW Q M) (hf : fP M M') : CQW Q M' := by
  unfold CQW
  rw [hf.1.I (by decide)]
  exact h

