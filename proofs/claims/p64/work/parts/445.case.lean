/-! a case that answers or throws, class beside reference -/
def CK {β : Type} (x : Option (Int32 × Mem)) (y : Mem → Option (β × Mem)) (cw : β → Int64) : Prop := ∃ c M1 w M2, x = some (c, M1) ∧ y M1 = some (w, M2) ∧ Inv M2 ∧ gI M2 108 0 = c ∧ (c = 0 → gL M2 124 0 = cw w)
theorem CK.mk {α β : Type} {x : Option (Except Nat α × Mem)} {y : Mem → Option (β × Mem)} {cv : α → Int64} {cw : β → Int64} {er : Nat → Mem → Option (Int32 × Mem)} (h : OKc x y cv cw) : CK (clT x (fun v M2 => wrL M2 124 1 (0 : Int32) (cv v) (fun M3 => some ((0 : Int32), M3))) er) y cw := by
  obtain ⟨v, w, M1, M2, q1, q2, q3, q4, q5⟩ := h
  refine ⟨0, sL M1 124 0 (cv v), w, M2, ?_, q2, q3, q4, fun _ => q5⟩
  rw [q1, clT_ok, i0, wrL_n (by decide) (by decide)]
theorem CK.er {α β : Type} {M : Mem} {x : Option (Except Nat α × Mem)} {y : Mem → Option (β × Mem)} {k : α → Mem → Option (Int32 × Mem)} {cw : β → Int64} {er : Nat → Mem → Option (Int32 × Mem)} {e : Nat} {c : Int32} {w : β} (hI : Inv M) (hx : x = some (.error e, M)) (he : er e M = some (c, M)) (hc : c ≠ 0) (hy : y M = some (w, Tc M c)) : CK (clT x k er) y cw := by
  refine ⟨c, M, w, Tc M c, ?_, hy, hI.kp Tc.kp, Tc_0, fun z => absurd z hc⟩
  rw [hx, clT_err, he]
/-- a truth -/
def bL (v : Int32) : Int64 := if v = 0 then 0 else 1
theorem CK.mk_b {β : Type} {x : Option (Except Nat Int32 × Mem)} {y : Mem → Option (β × Mem)} {cw : β → Int64} {er : Nat → Mem → Option (Int32 × Mem)} (h : OKc x y bL cw) : CK (clT x (fun v1 M2 => (if v1 = 0 then wrL M2 124 1 (0 : Int32) (0 : Int64) (fun M3 => some ((0 : Int32), M3)) else wrL M2 124 1 (0 : Int32) (1 : Int64) (fun M4 => some ((0 : Int32), M4)))) er) y cw := by
  have e : ∀ (v1 : Int32) (M2 : Mem), (if v1 = 0 then wrL M2 124 1 (0 : Int32) (0 : Int64) (fun M3 => some ((0 : Int32), M3)) else wrL M2 124 1 (0 : Int32) (1 : Int64) (fun M4 => some ((0 : Int32), M4))) = wrL M2 124 1 (0 : Int32) (bL v1) (fun M3 => some ((0 : Int32), M3)) := fun v1 M2 => by
    unfold bL
    by_cases c : v1 = 0
    · simp only [c, if_true]
    · simp only [c, if_false]
  simp only [e]
  exact CK.mk h
abbrev inN (p : Int32) (a b : Nat) : Prop := (a : Int) ≤ p.toInt ∧ p.toInt ≤ (b : Int)
theorem inN_nI {p : Int32} {a b : Nat} (h : inN p a b) : ∃ x, a ≤ x ∧ x ≤ b ∧ p = nI x := by
  obtain ⟨x, hx, rfl⟩ := nI_of (x := p) (fun z => by
    have := Int32.lt_iff_toInt_lt.mp z
    rw [Int32.toInt_zero] at this
    exact absurd h.1 (by omega))
  have h1 := h.1
  have h2 := h.2
  rw [nI_toInt hx] at h1 h2
  exact ⟨x, by omega, by omega, rfl⟩
theorem inN_of {x a b : Nat} (h1 : a ≤ x) (h2 : x ≤ b) (hb : b < 2 ^ 31) : inN (nI x) a b := by
  unfold inN
  rw [nI_toInt (by omega)]
  omega
theorem needRangeN {Z : Nat} {M : Mem} {p lo hi : Int32} {a b : Nat} (h1 : lo.toInt = a) (h2 : hi.toInt = b) : f_X11_needRange Z M p lo hi = some (if inN p a b then .ok () else .error 2, M) := by
  rw [needRange_eq, h1, h2]
/-- .. and where the upper bound is n - 1 -/
theorem needRangeR {Z : Nat} {M : Mem} {p lo hi : Int32} {n : Nat} (h1 : lo.toInt = 0) (h2 : hi.toInt = (n : Int) - 1) : f_X11_needRange Z M p lo hi = some (if inR p n then .ok () else .error 2, M) := by
  rw [needRange_eq, h1, h2]
  by_cases c : inR p n
  · rw [if_pos c, if_pos (by unfold inR at c; omega)]
  · rw [if_neg c, if_neg (by unfold inR at c; omega)]
/-- the guards of a loaded object at once -/
theorem Has.nC {M : Mem} (h : Has M) {Z : Nat} : f_X11_needChain Z M = some (.ok (), M) := needChain1 h.c.1 h.N
theorem Has.nS {M : Mem} (h : Has M) {Z : Nat} {p : Int32} : f_X11_needState Z M p = some (if inR p (cN (gI M 112)) then .ok () else .error 1, M) := needState1 h.c.1 h.N
theorem Has.nA {M : Mem} (h : Has M) {Z x : Nat} (hx : x < cN (gI M 112)) {p : Int32} : f_X11_needAction Z M (nI x) p = some (if inR p (cM (gI M 112) x) then .ok () else .error 1, M) := needAction1 h.c h.z h.N.1 hx
theorem Has.nAX {M : Mem} (h : Has M) {Z : Nat} {p p2 : Int32} (hp : ¬ inR p (cN (gI M 112))) : f_X11_needAction Z M p p2 = some (.error 1, M) := needActionX h.c.1 h.N hp
theorem Has.nB {M : Mem} (h : Has M) {Z : Nat} {p : Int32} : f_X11_needBudget Z M p = some (if inR p (cB (gI M 112)) then .ok () else .error 1, M) := needBudget1 h.c.1 h.N h.b.1 h.b.2.2
theorem Has.nT {M : Mem} (h : Has M) {Z : Nat} {p : Int32} : f_X11_needTime Z M p = some (if inR p (pn (gI M 109) 1 + 1) then .ok () else .error 2, M) := needTime1 h.c.1 h.N h.hz.1 h.hz.2.2.2
theorem Has.s112 {M : Mem} (v : Int64) : gI (sL M 124 0 v) 112 = gI M 112 := rfl
theorem Has.s109 {M : Mem} (v : Int64) : gI (sL M 124 0 v) 109 = gI M 109 := rfl
theorem MT.at {o : Nat} {M : Mem} {A : Nat → Nat → Int64} (h : MT o M A) {x y : Nat} (hx : x < 6) (hy : y < 6) : gL M o (x * 6 + y) = A x y := h x hx y hy

