/-! ends of lines, gains -/
def atEnd (b : Nat → Nat) (n e : Nat) : Prop := tK b n e = 4 ∨ tK b n e = 0
theorem endC {Z : Nat} {M : Mem} {b : Nat → Nat} {n e : Nat} (h : okC b n e M) (ha : atEnd b n e) : f_X4_endLine Z M (nI 0) = some (1, M) := by
  unfold f_X4_endLine
  rw [bd_eq, h.2.1.1, jn_eq]
  rcases ha with g | g
  · rw [if_pos (by rw [g]; rfl), if_pos (show nI 0 = (0 : Int32) from rfl)]
  · rw [if_neg (by rw [g]; decide), bd_eq, if_pos (by rw [g]; rfl), if_pos (show nI 0 = (0 : Int32) from rfl)]
def endE (b : Nat → Nat) (n e : Nat) : Nat := if tK b n e = 4 ∨ tK b n e = 0 then 5 else 1
theorem endN {Z : Nat} {M : Mem} {b : Nat → Nat} {n e rest : Nat} (h : okC b n e M) (hr : rest < 1000) (ha : ¬ (atEnd b n e ∧ rest = 0)) : ∃ M', f_X4_endLine Z M (nI rest) = some (0, M') ∧ fr [21] M M' ∧ erC (endE b n e) (tA b n e) M' := by
  have kl := tK_lt (b := b) (n := n) (e := e)
  unfold f_X4_endLine endE
  rw [bd_eq, h.2.1.1, jn_eq]
  by_cases c : tK b n e = 4 ∨ tK b n e = 0
  · have hr0 : rest ≠ 0 := fun z => ha ⟨c, z⟩
    have n0 : ¬ nI rest = (0 : Int32) := by
      rw [show (0 : Int32) = nI 0 from rfl, nI_eq (by omega) (by decide)]
      exact hr0
    obtain ⟨M1, e1, f1, o1⟩ := failC (Z := Z) (c := 5) h
    rw [if_pos c]
    rcases c with g | g
    · rw [if_pos (by rw [g]; rfl), if_neg n0, show (5 : Int32) = nI 5 from rfl, e1, cl_some, if_pos rfl]
      exact ⟨M1, rfl, f1, o1⟩
    · rw [if_neg (by rw [g]; decide), bd_eq, if_pos (by rw [g]; rfl), if_neg n0, show (5 : Int32) = nI 5 from rfl, e1, cl_some, if_pos rfl]
      exact ⟨M1, rfl, f1, o1⟩
  · obtain ⟨M1, e1, f1, o1⟩ := failC (Z := Z) (c := 1) h
    rw [if_neg c, if_neg (by rw [show (4 : Int32) = nI 4 from rfl, nI_eq (by omega) (by decide)]; omega), bd_eq, if_neg (by rw [show (0 : Int32) = nI 0 from rfl, nI_eq (by omega) (by decide)]; omega), show (1 : Int32) = nI 1 from rfl, e1, cl_some, if_pos (by decide)]
    exact ⟨M1, rfl, f1, o1⟩
/-- rows of the class's chain: gains -/
theorem CQ0.updG {Q : Nat → Int32} {M : Mem} {j : Nat} {v : Int32} (h : CQ0 Q M) (hT : ∀ r, r < 18 → cT Q r ≤ 6) (hj : j < 18) : CQ0 (upd Q (14 + j) v) (sI M 24 j v) := by
  obtain ⟨⟨p1, p2, p3, p4, p5, p6, p7, p8⟩, h2, h3, h4, h5⟩ := h
  have e : ∀ o, o ≠ 24 → gI (sI M 24 j v) o = gI M o := fun o ho => by rw [gI_sI', if_neg ho]
  refine ⟨⟨by rw [e 22 (by decide), upd_ne (by omega)]; exact p1, by rw [e 22 (by decide), upd_ne (by omega)]; exact p2, fun x hx => by rw [e (22 + 1) (by decide), upd_ne (by omega)]; exact p3 x hx, fun r hr => ?_, fun k hk => by rw [e (22 + 3) (by decide), upd_ne (by omega)]; exact p5 k hk, fun k hk => by rw [e (22 + 4) (by decide), upd_ne (by omega)]; exact p6 k hk, fun r hr => by rw [e (22 + 6) (by decide), upd_ne (by omega)]; exact p7 r hr, fun r hr k hk => ?_⟩, by rw [e 29 (by decide), upd_ne (by omega), upd_ne (by omega), upd_ne (by omega)]; exact h2, fun b hb => by rw [e 32 (by decide), upd_ne (by omega)]; exact h3 b hb, by rw [e 31 (by decide)]; exact h4, ?_⟩
  · show gI (sI M 24 j v) 24 r = _
    rw [gI_sI]
    by_cases c : r = j
    · rw [if_pos ⟨rfl, c⟩, c, upd_eq]
    · rw [if_neg (fun z => c z.2), upd_ne (by omega)]
      exact p4 r hr
  · rw [cT_upd (by omega)] at hk
    have := hT r hr
    rw [e (22 + 5) (by decide), upd_ne (by omega)]
    exact p8 r hr k hk
  · obtain ⟨q, q1, q2, q3⟩ := h5
    exact ⟨q, q1, by rw [e 21 (by decide)]; exact q2, fun x hx => by rw [upd_ne (by omega)]; exact q3 x hx⟩

