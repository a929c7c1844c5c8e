/-! budget and start lines -/
theorem CQ0.updL {Q : Nat → Int32} {M : Mem} {j : Nat} {v : Int32} (h : CQ0 Q M) (hT : ∀ r, r < 18 → cT Q r ≤ 6) (hj : j < 3) : CQ0 (upd Q (5 + j) v) (sI M 32 j v) := by
  obtain ⟨h1, h2, h3, h4, h5⟩ := h
  have e : ∀ o, o ≠ 32 → gI (sI M 32 j v) o = gI M o := fun o ho => by rw [gI_sI', if_neg ho]
  refine ⟨(h1.updO hT (by omega)).at (fun i hi => e _ (by omega)), by rw [e 29 (by decide), upd_ne (by omega), upd_ne (by omega), upd_ne (by omega)]; exact h2, fun b hb => ?_, by rw [e 31 (by decide)]; exact h4, ?_⟩
  · rw [gI_sI]
    by_cases c : b = j
    · rw [if_pos ⟨rfl, c⟩, c, upd_eq]
    · rw [if_neg (fun z => c z.2), upd_ne (by omega)]
      exact h3 b hb
  · obtain ⟨q, q1, q2, q3⟩ := h5
    exact ⟨q, q1, by rw [e 21 (by decide)]; exact q2, fun x hx => by rw [upd_ne (by omega)]; exact q3 x hx⟩
theorem erR.w {c p k : Nat} {v : Int32} {M : Mem} (h : erR c p M) : erR c p (sI M 113 k v) := by
  unfold erR
  rw [gI_sI, if_neg (fun z => absurd z.1 (by decide)), gI_sI, if_neg (fun z => absurd z.1 (by decide))]
  exact h
theorem okR.w {b : Nat → Nat} {n e k : Nat} {v : Int32} {Q : Nat → Int32} {M : Mem} (h : okR b n e Q M) : okR b n e (upd Q k v) (sI M 113 k v) := by
  obtain ⟨hB, hT, h19, hQ, he⟩ := h
  have f : fr [113] M (sI M 113 k v) := fr_sI fr.rfl (by decide)
  refine ⟨?_, ?_, by rw [f.I (by decide)]; exact h19, by rw [gI_sI', if_pos rfl, hQ], he⟩
  · unfold BR
    rw [f.I (by decide), f.I (by decide)]
    exact hB
  · unfold TR
    rw [f.I (by decide), f.I (by decide)]
    exact hT
theorem tE_le {b : Nat → Nat} {n e : Nat} (he : e ≤ n) : e ≤ tE b n e := Nat.le_trans (tA_ok he).1 (tE_ok he).1
