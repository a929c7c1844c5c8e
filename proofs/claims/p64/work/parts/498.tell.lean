/-! a state told -/
def rowT (Q : Nat → Int32) (r y t v : Nat) : Nat → Int32 := upd (upd (upd Q (86 + (r * 6 + y)) (nI v)) (212 + (r * 6 + t)) (nI y)) (194 + r) (nI (t + 1))
theorem rowT_ne {Q : Nat → Int32} {r y t v i : Nat} (h1 : i ≠ 86 + (r * 6 + y)) (h2 : i ≠ 212 + (r * 6 + t)) (h3 : i ≠ 194 + r) : rowT Q r y t v i = Q i := by
  unfold rowT
  rw [upd_ne h3, upd_ne h2, upd_ne h1]
theorem rowT_cT {Q : Nat → Int32} {r y t v : Nat} (hr : r < 18) (hy : y < 6) (ht : t < 6) (r' : Nat) : cT (rowT Q r y t v) r' = if r' = r then t + 1 else cT Q r' := by
  unfold cT
  by_cases c : r' < 18
  · rw [if_pos c, if_pos c]
    by_cases d : r' = r
    · rw [if_pos d, d]
      exact pn_n (by unfold rowT; rw [upd_eq]) (by omega)
    · rw [if_neg d]
      unfold pn
      rw [rowT_ne (by omega) (by omega) (by omega)]
  · rw [if_neg c, if_neg c, if_neg (by omega)]
theorem CQ0.tell {Q : Nat → Int32} {M : Mem} {r y t v : Nat} (h : CQ0 Q M) (hT : ∀ r, r < 18 → cT Q r ≤ 6) (hr : r < 18) (hy : y < 6) (ht : t < 6) (hc : cT Q r = t) : CQ0 (rowT Q r y t v) (sI (sI (sI M 27 (r * 6 + t) (nI y)) 28 r (nI (t + 1))) 26 (r * 6 + y) (nI v)) := by
  obtain ⟨⟨p1, p2, p3, p4, p5, p6, p7, p8⟩, h2, h3, h4, h5⟩ := h
  have e : ∀ o, o ≠ 26 → o ≠ 27 → o ≠ 28 → gI (sI (sI (sI M 27 (r * 6 + t) (nI y)) 28 r (nI (t + 1))) 26 (r * 6 + y) (nI v)) o = gI M o := fun o a b c => by rw [gI_sI', if_neg a, gI_sI', if_neg c, gI_sI', if_neg b]
  have n : ∀ i, (i < 86 ∨ 320 ≤ i) → rowT Q r y t v i = Q i := fun i hi => rowT_ne (by omega) (by omega) (by omega)
  refine ⟨⟨by rw [e 22 (by decide) (by decide) (by decide), n _ (by omega)]; exact p1, by rw [e 22 (by decide) (by decide) (by decide), n _ (by omega)]; exact p2, fun x hx => by rw [e (22 + 1) (by decide) (by decide) (by decide), n _ (by omega)]; exact p3 x hx, fun r hr => by rw [e (22 + 2) (by decide) (by decide) (by decide), n _ (by omega)]; exact p4 r hr, fun k hk => by rw [e (22 + 3) (by decide) (by decide) (by decide), n _ (by omega)]; exact p5 k hk, fun k hk => ?_, fun r' hr' => ?_, fun r' hr' k hk => ?_⟩, by rw [e 29 (by decide) (by decide) (by decide), n _ (by omega), n _ (by omega), n _ (by omega)]; exact h2, fun b hb => by rw [e 32 (by decide) (by decide) (by decide), n _ (by omega)]; exact h3 b hb, by rw [e 31 (by decide) (by decide) (by decide)]; exact h4, ?_⟩
  · show gI _ 26 k = _
    rw [gI_sI]
    by_cases c : k = r * 6 + y
    · rw [if_pos ⟨rfl, c⟩, c]
      unfold rowT
      rw [upd_ne (by omega), upd_ne (by omega), upd_eq]
    · rw [if_neg (fun z => c z.2), gI_sI, if_neg (fun z => absurd z.1 (by decide)), gI_sI, if_neg (fun z => absurd z.1 (by decide)), rowT_ne (by omega) (by omega) (by omega)]
      exact p6 k hk
  · show gI _ 28 r' = _
    rw [gI_sI, if_neg (fun z => absurd z.1 (by decide)), gI_sI]
    by_cases c : r' = r
    · rw [if_pos ⟨rfl, c⟩, c]
      unfold rowT
      rw [upd_eq]
    · rw [if_neg (fun z => c z.2), gI_sI, if_neg (fun z => absurd z.1 (by decide)), rowT_ne (by omega) (by omega) (by omega)]
      exact p7 r' hr'
  · have hk6 := hT r' hr'
    rw [rowT_cT hr hy ht] at hk
    show gI _ 27 (r' * 6 + k) = _
    rw [gI_sI, if_neg (fun z => absurd z.1 (by decide)), gI_sI, if_neg (fun z => absurd z.1 (by decide)), gI_sI]
    by_cases c : r' = r
    · rw [if_pos c] at hk
      subst c
      by_cases d : k = t
      · rw [if_pos ⟨rfl, by omega⟩, d]
        unfold rowT
        rw [upd_ne (by omega), Nat.add_assoc, upd_eq]
      · rw [if_neg (fun z => d (by have := z.2; omega)), rowT_ne (by omega) (by omega) (by omega)]
        exact p8 r' hr' k (by omega)
    · rw [if_neg c] at hk
      rw [if_neg (fun z => c (by have := z.2; omega)), rowT_ne (by omega) (by omega) (by omega)]
      exact p8 r' hr' k hk
  · obtain ⟨q, q1, q2, q3⟩ := h5
    exact ⟨q, q1, by rw [e 21 (by decide) (by decide) (by decide)]; exact q2, fun x hx => by rw [n _ (by omega)]; exact q3 x hx⟩

