/-! more writes while reading -/
theorem CQ0.updA {Q : Nat → Int32} {M : Mem} {j : Nat} {v : Int32} (h : CQ0 Q M) (hT : ∀ r, r < 18 → cT Q r ≤ 6) (hj : j < 54) : CQ0 (upd Q (32 + j) v) (sI M 25 j v) := by
  obtain ⟨⟨p1, p2, p3, p4, p5, p6, p7, p8⟩, h2, h3, h4, h5⟩ := h
  have e : ∀ o, o ≠ 25 → gI (sI M 25 j v) o = gI M o := fun o ho => by rw [gI_sI', if_neg ho]
  refine ⟨⟨by rw [e 22 (by decide), upd_ne (by omega)]; exact p1, by rw [e 22 (by decide), upd_ne (by omega)]; exact p2, fun x hx => by rw [e (22 + 1) (by decide), upd_ne (by omega)]; exact p3 x hx, fun r hr => by rw [e (22 + 2) (by decide), upd_ne (by omega)]; exact p4 r hr, fun k hk => ?_, fun k hk => by rw [e (22 + 4) (by decide), upd_ne (by omega)]; exact p6 k hk, fun r hr => by rw [e (22 + 6) (by decide), upd_ne (by omega)]; exact p7 r hr, fun r hr k hk => ?_⟩, by rw [e 29 (by decide), upd_ne (by omega), upd_ne (by omega), upd_ne (by omega)]; exact h2, fun b hb => by rw [e 32 (by decide), upd_ne (by omega)]; exact h3 b hb, by rw [e 31 (by decide)]; exact h4, ?_⟩
  · show gI (sI M 25 j v) 25 k = _
    rw [gI_sI]
    by_cases c : k = j
    · rw [if_pos ⟨rfl, c⟩, c, upd_eq]
    · rw [if_neg (fun z => c z.2), upd_ne (by omega)]
      exact p5 k hk
  · rw [cT_upd (by omega)] at hk
    have := hT r hr
    rw [e (22 + 5) (by decide), upd_ne (by omega)]
    exact p8 r hr k hk
  · obtain ⟨q, q1, q2, q3⟩ := h5
    exact ⟨q, q1, by rw [e 21 (by decide)]; exact q2, fun x hx => by rw [upd_ne (by omega)]; exact q3 x hx⟩
theorem CQ0.updM {Q : Nat → Int32} {M : Mem} {j : Nat} {v : Int32} (h : CQ0 Q M) (hT : ∀ r, r < 18 → cT Q r ≤ 6) (hj : j < 6) : CQ0 (upd Q (8 + j) v) (sI M 23 j v) := by
  obtain ⟨⟨p1, p2, p3, p4, p5, p6, p7, p8⟩, h2, h3, h4, h5⟩ := h
  have e : ∀ o, o ≠ 23 → gI (sI M 23 j v) o = gI M o := fun o ho => by rw [gI_sI', if_neg ho]
  refine ⟨⟨by rw [e 22 (by decide), upd_ne (by omega)]; exact p1, by rw [e 22 (by decide), upd_ne (by omega)]; exact p2, fun x hx => ?_, fun r hr => by rw [e (22 + 2) (by decide), upd_ne (by omega)]; exact p4 r hr, fun k hk => by rw [e (22 + 3) (by decide), upd_ne (by omega)]; exact p5 k hk, fun k hk => by rw [e (22 + 4) (by decide), upd_ne (by omega)]; exact p6 k hk, fun r hr => by rw [e (22 + 6) (by decide), upd_ne (by omega)]; exact p7 r hr, fun r hr k hk => ?_⟩, by rw [e 29 (by decide), upd_ne (by omega), upd_ne (by omega), upd_ne (by omega)]; exact h2, fun b hb => by rw [e 32 (by decide), upd_ne (by omega)]; exact h3 b hb, by rw [e 31 (by decide)]; exact h4, ?_⟩
  · show gI (sI M 23 j v) 23 x = _
    rw [gI_sI]
    by_cases c : x = j
    · rw [if_pos ⟨rfl, c⟩, c, upd_eq]
    · rw [if_neg (fun z => c z.2), upd_ne (by omega)]
      exact p3 x hx
  · rw [cT_upd (by omega)] at hk
    have := hT r hr
    rw [e (22 + 5) (by decide), upd_ne (by omega)]
    exact p8 r hr k hk
  · obtain ⟨q, q1, q2, q3⟩ := h5
    exact ⟨q, q1, by rw [e 21 (by decide)]; exact q2, fun x hx => by rw [upd_ne (by omega)]; exact q3 x hx⟩
/-- a bit of the ruled states -/
theorem bitOr : ∀ q, q < 64 → ∀ x, x < 6 → ∃ q', q' < 64 ∧ (nI q ||| ((1 : Int32) <<< (nI x &&& 31))) = nI q' ∧ ∀ y, y < 6 → q' / 2 ^ y % 2 = if y = x then 1 else q / 2 ^ y % 2 := by decide +kernel
theorem bitAt : ∀ q, q < 64 → ∀ x, x < 6 → (((nI q >>> (nI x &&& 31)) &&& (1 : Int32)) = (1 : Int32)) = (q / 2 ^ x % 2 = 1) := by decide +kernel
theorem CQ0.updR {Q : Nat → Int32} {M : Mem} {x : Nat} (h : CQ0 Q M) (hT : ∀ r, r < 18 → cT Q r ≤ 6) (hx : x < 6) : CQ0 (upd Q (320 + x) (nI 1)) (sI M 21 6 (gI M 21 6 ||| ((1 : Int32) <<< (nI x &&& 31)))) := by
  obtain ⟨h1, h2, h3, h4, q, q1, q2, q3⟩ := h
  have e : ∀ o, o ≠ 21 → gI (sI M 21 6 (gI M 21 6 ||| ((1 : Int32) <<< (nI x &&& 31)))) o = gI M o := fun o ho => by rw [gI_sI', if_neg ho]
  obtain ⟨q', r1, r2, r3⟩ := bitOr q q1 x hx
  refine ⟨(h1.updO hT (by omega)).at (fun i hi => e _ (by omega)), by rw [e 29 (by decide), upd_ne (by omega), upd_ne (by omega), upd_ne (by omega)]; exact h2, fun b hb => by rw [e 32 (by decide), upd_ne (by omega)]; exact h3 b hb, by rw [e 31 (by decide)]; exact h4, q', r1, ⟨by rw [gI_sI, if_pos ⟨rfl, rfl⟩, q2.1, r2], by rw [gI_sI, if_neg (fun z => absurd z.2 (by decide))]; exact q2.2.1, by rw [gI_sI, if_neg (fun z => absurd z.2 (by decide))]; exact q2.2.2⟩, fun y hy => ?_⟩
  rw [r3 y hy]
  by_cases c : y = x
  · rw [if_pos c, c, upd_eq]
  · rw [if_neg c, upd_ne (by omega)]
    exact q3 y hy
theorem CQ0.ruled {Q : Nat → Int32} {M : Mem} {x : Nat} (h : CQ0 Q M) (hx : x < 6) : (((gI M 21 6 >>> (nI x &&& 31)) &&& (1 : Int32)) = (1 : Int32)) = (Q (320 + x) = (1 : Int32)) := by
  obtain ⟨h1, h2, h3, h4, q, q1, q2, q3⟩ := h
  have m2 : q / 2 ^ x % 2 < 2 := Nat.mod_lt _ (by decide)
  rw [q2.1, bitAt q q1 x hx, q3 x hx, show (1 : Int32) = nI 1 from rfl, nI_eq (by omega) (by decide)]
/-- weights: a first write of rule lines -/
theorem CQ0.updW {Q : Nat → Int32} {M : Mem} {j : Nat} {v : Int32} (h : CQ0 Q M) (hT : ∀ r, r < 18 → cT Q r ≤ 6) (hj : j < 18) : CQ0 (upd Q (326 + j) v) (sI M 30 j v) := by
  obtain ⟨h1, h2, h3, h4, q, q1, q2, q3⟩ := h
  have e : ∀ o, o ≠ 30 → gI (sI M 30 j v) o = gI M o := fun o ho => by rw [gI_sI', if_neg ho]
  exact ⟨(h1.updO hT (by omega)).at (fun i hi => e _ (by omega)), by rw [e 29 (by decide), upd_ne (by omega), upd_ne (by omega), upd_ne (by omega)]; exact h2, fun b hb => by rw [e 32 (by decide), upd_ne (by omega)]; exact h3 b hb, by rw [e 31 (by decide)]; exact h4, q, q1, by rw [e 21 (by decide)]; exact q2, fun y hy => by rw [upd_ne (by omega)]; exact q3 y hy⟩

