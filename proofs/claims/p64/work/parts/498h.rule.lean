/-! the weights of a rule line -/
def kW (Z : Nat) (M21 : Mem) : Option (Int32 × Mem) := cl (f_X4_fail Z M21 (1 : Int32)) (fun v22 M23 => (if v22 &&& 1 = v22 then some (v22, M23) else none))
/-- the class's weights while those of x are read: a of them so far -/
def CQWx (Q : Nat → Int32) (x a : Nat) (M : Mem) : Prop := (∀ y, y < 6 → y ≠ x → ∀ i, i < 3 → gI M 30 (y * 3 + i) = if Q (320 + y) = nI 1 then Q (326 + (y * 3 + i)) else if i = 0 then nI 10 else nI 0) ∧ Q (320 + x) = nI 1 ∧ ∀ i, i < 3 → (i < a → gI M 30 (x * 3 + i) = Q (326 + (x * 3 + i))) ∧ (a ≤ i → gI M 30 (x * 3 + i) = (if i = 0 then nI 10 else nI 0) ∧ Q (326 + (x * 3 + i)) = nI 0)
theorem CQWx.fP {Q : Nat → Int32} {x a : Nat} {M M' : Mem} (h : CQWx Q x a M) (hf : fP M M') : CQWx Q x a M' := by
  unfold CQWx
  rw [hf.1.I (by decide)]
  exact h
theorem CQWx.all {Q : Nat → Int32} {x a : Nat} {M : Mem} (h : CQWx Q x a M) (ha : a ≠ 0) : CQW Q M := fun y hy i hi => by
  by_cases c : y = x
  · rw [c, if_pos h.2.1]
    obtain ⟨h1, h2⟩ := h.2.2 i hi
    by_cases d : i < a
    · exact h1 d
    · obtain ⟨h3, h4⟩ := h2 (by omega)
      rw [h3, h4, if_neg (by omega)]
  · exact h.1 y hy c i hi
theorem CQWx.put {Q : Nat → Int32} {x a : Nat} {M : Mem} {v : Int32} (h : CQWx Q x a M) (hx : x < 6) (ha : a < 3) : CQWx (upd Q (326 + (x * 3 + a)) v) x (a + 1) (sI M 30 (x * 3 + a) v) := by
  refine ⟨fun y hy hn i hi => ?_, by rw [upd_ne (by omega)]; exact h.2.1, fun i hi => ⟨fun z => ?_, fun z => ?_⟩⟩
  · rw [gI_sI, if_neg (fun z => hn (by have := z.2; omega)), upd_ne (by omega), upd_ne (by omega)]
    exact h.1 y hy hn i hi
  · by_cases c : i = a
    · rw [c, upd_eq, gI_sI, if_pos ⟨rfl, rfl⟩]
    · rw [gI_sI, if_neg (fun z => c (by have := z.2; omega)), upd_ne (by omega)]
      exact (h.2.2 i hi).1 (by omega)
  · rw [gI_sI, if_neg (fun z => by have := z.2; omega), upd_ne (by omega)]
    exact (h.2.2 i hi).2 (by omega)
def sW3 (Q : Nat → Int32) (x : Nat) : Nat := pn Q (326 + (x * 3 + 0)) + pn Q (326 + (x * 3 + 1)) + pn Q (326 + (x * 3 + 2))
theorem sW3_upd {Q : Nat → Int32} {x a v : Nat} (ha : a < 3) (hz : pn Q (326 + (x * 3 + a)) = 0) (hv : v < 2 ^ 31) : sW3 (upd Q (326 + (x * 3 + a)) (nI v)) x = sW3 Q x + v := by
  have g : ∀ i, pn (upd Q (326 + (x * 3 + a)) (nI v)) (326 + (x * 3 + i)) = if i = a then v else pn Q (326 + (x * 3 + i)) := fun i => by
    rw [pn_upd hv]
    by_cases c : i = a
    · rw [if_pos (by rw [c]), if_pos c]
    · rw [if_neg (by omega), if_neg c]
  unfold sW3
  rw [g, g, g]
  have : a = 0 ∨ a = 1 ∨ a = 2 := by omega
  rcases this with c | c | c
  · subst c
    rw [if_pos rfl, if_neg (by decide), if_neg (by decide), hz]
    omega
  · subst c
    rw [if_neg (by decide), if_pos rfl, if_neg (by decide), hz]
    omega
  · subst c
    rw [if_neg (by decide), if_neg (by decide), if_pos rfl, hz]
    omega
