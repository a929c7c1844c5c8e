/-! the head -/
theorem upd_eq {f : Nat → Int32} {j : Nat} {v : Int32} : upd f j v j = v := if_pos rfl
theorem upd_ne {f : Nat → Int32} {i j : Nat} {v : Int32} (h : i ≠ j) : upd f j v i = f i := if_neg h
theorem cT_upd {f : Nat → Int32} {j r : Nat} {v : Int32} (h : j < 194 ∨ 212 ≤ j) : cT (upd f j v) r = cT f r := by
  unfold cT
  by_cases c : r < 18
  · rw [if_pos c, if_pos c]
    unfold pn
    rw [upd_ne (by omega)]
  · rw [if_neg c, if_neg c]
/-- a write of the reference that the class's chain does not show -/
theorem RP.updO {Q : Nat → Int32} {M : Mem} {o j : Nat} {v : Int32} (h : RP Q M o) (hT : ∀ r, r < 18 → cT Q r ≤ 6) (hj : (2 ≤ j ∧ j < 8) ∨ 320 ≤ j) : RP (upd Q j v) M o := by
  obtain ⟨h1, h2, h3, h4, h5, h6, h7, h8⟩ := h
  refine ⟨by rw [upd_ne (by omega)]; exact h1, by rw [upd_ne (by omega)]; exact h2, fun x hx => by rw [upd_ne (by omega)]; exact h3 x hx, fun r hr => by rw [upd_ne (by omega)]; exact h4 r hr, fun k hk => by rw [upd_ne (by omega)]; exact h5 k hk, fun k hk => by rw [upd_ne (by omega)]; exact h6 k hk, fun r hr => by rw [upd_ne (by omega)]; exact h7 r hr, fun r hr k hk => ?_⟩
  rw [cT_upd (by omega)] at hk
  have := hT r hr
  rw [upd_ne (by omega)]
  exact h8 r hr k hk
/-- the class's own objects are as in M -/
theorem RP.at {Q : Nat → Int32} {M M' : Mem} {o : Nat} (h : RP Q M o) (hk : ∀ i, i < 7 → gI M' (o + i) = gI M (o + i)) : RP Q M' o := by
  unfold RP
  rw [show gI M' o = gI M o from hk 0 (by decide), hk 1 (by decide), hk 2 (by decide), hk 3 (by decide), hk 4 (by decide), hk 5 (by decide), hk 6 (by decide)]
  exact h
/-- the number of states, of budgets -/
theorem RP.upd01 {Q : Nat → Int32} {M : Mem} {j : Nat} {v : Int32} (h : RP Q M 22) (hT : ∀ r, r < 18 → cT Q r ≤ 6) (hj : j < 2) : RP (upd Q j v) (sI M 22 j v) 22 := by
  obtain ⟨h1, h2, h3, h4, h5, h6, h7, h8⟩ := h
  have e : ∀ i, 1 ≤ i → gI (sI M 22 j v) (22 + i) = gI M (22 + i) := fun i hi => by rw [gI_sI', if_neg (by omega)]
  have e0 : ∀ i, i < 2 → gI (sI M 22 j v) 22 i = upd Q j v i := fun i hi => by
    rw [gI_sI]
    by_cases c : i = j
    · rw [if_pos ⟨rfl, c⟩, c, upd_eq]
    · rw [if_neg (fun z => c z.2), upd_ne c]
      have : i = 0 ∨ i = 1 := by omega
      rcases this with g | g
      · rw [g]; exact h1
      · rw [g]; exact h2
  refine ⟨e0 0 (by decide), e0 1 (by decide), fun x hx => by rw [e 1 (by decide), upd_ne (by omega)]; exact h3 x hx, fun r hr => by rw [e 2 (by decide), upd_ne (by omega)]; exact h4 r hr, fun k hk => by rw [e 3 (by decide), upd_ne (by omega)]; exact h5 k hk, fun k hk => by rw [e 4 (by decide), upd_ne (by omega)]; exact h6 k hk, fun r hr => by rw [e 6 (by decide), upd_ne (by omega)]; exact h7 r hr, fun r hr k hk => ?_⟩
  rw [cT_upd (by omega)] at hk
  have := hT r hr
  rw [e 5 (by decide), upd_ne (by omega)]
  exact h8 r hr k hk
theorem CQ0.upd01 {Q : Nat → Int32} {M : Mem} {j : Nat} {v : Int32} (h : CQ0 Q M) (hT : ∀ r, r < 18 → cT Q r ≤ 6) (hj : j < 2) : CQ0 (upd Q j v) (sI M 22 j v) := by
  obtain ⟨h1, h2, h3, h4, h5⟩ := h
  have e : ∀ o, o ≠ 22 → gI (sI M 22 j v) o = gI M o := fun o ho => by rw [gI_sI', if_neg ho]
  refine ⟨h1.upd01 hT hj, by rw [e 29 (by decide), upd_ne (by omega), upd_ne (by omega), upd_ne (by omega)]; exact h2, fun b hb => by rw [e 32 (by decide), upd_ne (by omega)]; exact h3 b hb, by rw [e 31 (by decide)]; exact h4, ?_⟩
  obtain ⟨q, q1, q2, q3⟩ := h5
  exact ⟨q, q1, by rw [e 21 (by decide)]; exact q2, fun x hx => by rw [upd_ne (by omega)]; exact q3 x hx⟩
/-- start, horizon, seed -/
theorem CQ0.updS {Q : Nat → Int32} {M : Mem} {j : Nat} {v : Int32} (h : CQ0 Q M) (hT : ∀ r, r < 18 → cT Q r ≤ 6) (hj : 2 ≤ j ∧ j < 5) : CQ0 (upd Q j v) (sI M 29 (j + 1) v) := by
  obtain ⟨h1, ⟨a1, a2, a3, a4⟩, h3, h4, h5⟩ := h
  have e : ∀ o, o ≠ 29 → gI (sI M 29 (j + 1) v) o = gI M o := fun o ho => by rw [gI_sI', if_neg ho]
  have s : ∀ i, 2 ≤ i → i < 5 → gI M 29 (i + 1) = Q i → gI (sI M 29 (j + 1) v) 29 (i + 1) = upd Q j v i := fun i b1 b2 b3 => by
    rw [gI_sI]
    by_cases c : i = j
    · rw [if_pos ⟨rfl, by omega⟩, c, upd_eq]
    · rw [if_neg (fun z => c (by omega)), upd_ne c]
      exact b3
  refine ⟨(h1.updO hT (by omega)).at (fun i hi => e _ (by omega)), ⟨s 2 (by decide) (by decide) a1, s 3 (by decide) (by decide) a2, s 4 (by decide) (by decide) a3, by rw [gI_sI, if_neg (fun z => absurd z.2 (by omega))]; exact a4⟩, fun b hb => by rw [e 32 (by decide), upd_ne (by omega)]; exact h3 b hb, by rw [e 31 (by decide)]; exact h4, ?_⟩
  obtain ⟨q, q1, q2, q3⟩ := h5
  exact ⟨q, q1, by rw [e 21 (by decide)]; exact q2, fun x hx => by rw [upd_ne (by omega)]; exact q3 x hx⟩
theorem CQW.updL {Q : Nat → Int32} {M M' : Mem} {j : Nat} {v : Int32} (h : CQW Q M) (hj : j < 320) (h30 : gI M' 30 = gI M 30) : CQW (upd Q j v) M' := fun x hx a ha => by
  rw [h30, upd_ne (by omega), upd_ne (by omega)]
  exact h x hx a ha

