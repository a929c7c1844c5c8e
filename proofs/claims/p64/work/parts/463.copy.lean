/-! settings copied, kept, given back -/
theorem copyRow_ok {Z : Nat} {M : Mem} {a b n : Nat} (hn : n < 3000) : OK (f_X11_copyRow Z M a n b n) (fun _ M' => fr [b] M M' ∧ ∀ k, k < n → gI M' b k = gI M a k) := by
  unfold f_X11_copyRow
  rw [bd_eq, ofN, if_neg (show ¬ nI n < nI n by rw [nI_ilt (by omega) (by omega)]; omega)]
  unfold cpI
  rw [i0, nI_clamp (by omega), nI_clamp (by omega), if_pos ⟨nI_nlt0 (by decide), nI_nlt0 (by decide), nI_nlt0 (by omega), by omega, by omega⟩]
  refine OK.ret ⟨fun o ho => ⟨?_, rfl, rfl⟩, fun k hk => ?_⟩
  · funext k
    show (if o = b then _ else _) = _
    rw [if_neg (fun z => ho (by rw [z]; exact List.mem_cons_self))]
    rfl
  · show (if b = b then va_cpy (gI M a) (gI M b) 0 0 n k else _) = _
    rw [if_pos rfl]
    show (if 0 ≤ k ∧ k < 0 + n then gI M a (0 + (k - 0)) else _) = _
    rw [if_pos ⟨Nat.zero_le _, by omega⟩, show 0 + (k - 0) = k by omega]
/-- the settings of the object o are those that o2 had -/
def cpd (M' : Mem) (o : Nat) (M : Mem) (o2 : Nat) : Prop := (∀ k, 3 ≤ k → k < 7 → gI M' o k = gI M o2 k) ∧ (∀ k, k < 18 → gI M' (o + 1) k = gI M (o2 + 1) k) ∧ (∀ k, k < 6 → gI M' (o + 2) k = gI M (o2 + 2) k) ∧ (∀ k, k < 3 → gI M' (o + 3) k = gI M (o2 + 3) k) ∧ (∀ k, k < 6 → gI M' (o + 4) k = gI M (o2 + 4) k) ∧ ∀ k, k < 5 → gI M' (o + 5) k = gI M (o2 + 5) k
def blk (o : Nat) : List Nat := [o, o + 1, o + 2, o + 3, o + 4, o + 5]
theorem blk_in {o x : Nat} : x ∈ blk o ↔ o ≤ x ∧ x < o + 6 := by
  unfold blk
  simp only [List.mem_cons, List.not_mem_nil, or_false]
  omega
theorem RS.cpd {P : Nat → Int32} {M M' : Mem} {o o2 : Nat} {S : Nat → Int32} (h : RS P M o2 S) (hN : cN P ≤ 6) (hc : cpd M' o M o2) : RS P M' o S := by
  obtain ⟨⟨a1, a2, a3, a4⟩, b, c, d, e, f⟩ := h
  refine ⟨⟨?_, ?_, ?_, ?_⟩, fun r hr => ?_, fun x hx => ?_, fun k hk => ?_, fun t ht => ?_, fun t ht => ?_⟩
  · rw [hc.1 3 (by decide) (by decide)]; exact a1
  · rw [hc.1 4 (by decide) (by decide)]; exact a2
  · rw [hc.1 5 (by decide) (by decide)]; exact a3
  · rw [hc.1 6 (by decide) (by decide)]; exact a4
  · rw [hc.2.1 r (by omega)]; exact b r hr
  · rw [hc.2.2.1 x (by omega)]; exact c x hx
  · rw [hc.2.2.2.1 k hk]; exact d k hk
  · rw [hc.2.2.2.2.1 t ht]; exact e t ht
  · rw [hc.2.2.2.2.2 t ht]; exact f t ht
theorem RS.congr {P S S' : Nat → Int32} {M : Mem} {o : Nat} (h : RS P M o S) (hN : cN P ≤ 6) (hm : ∀ x, cM P x ≤ 3) (hS : ∀ i, i < 54 → S' i = S i) : RS P M o S' := by
  obtain ⟨⟨a1, a2, a3, a4⟩, b, c, d, e, f⟩ := h
  refine ⟨⟨?_, ?_, ?_, ?_⟩, fun r hr => ?_, fun x hx => ?_, fun k hk => ?_, fun t ht => ?_, fun t ht => ?_⟩
  · rw [hS 0 (by decide)]; exact a1
  · rw [hS 1 (by decide)]; exact a2
  · rw [hS 2 (by decide)]; exact a3
  · rw [hS 3 (by decide)]; exact a4
  · rw [hS _ (by omega)]; exact b r hr
  · obtain ⟨q, q1, q2, q3⟩ := c x hx
    refine ⟨q, q1, q2, fun a ha => ?_⟩
    have := hm x
    rw [hS _ (by omega)]
    exact q3 a ha
  · rw [hS _ (by omega)]; exact d k hk
  · rw [hS _ (by omega)]; exact e t ht
  · rw [hS _ (by omega)]; exact f t ht
theorem VS.congr {P S S' : Nat → Int32} (h : VS P S) (hN : cN P ≤ 6) (hm : ∀ x, cM P x ≤ 3) (hS : ∀ i, i < 54 → S' i = S i) : VS P S' := by
  have hp : ∀ i, i < 54 → pn S' i = pn S i := fun i hi => by unfold pn; rw [hS i hi]
  have hw : ∀ r, sW9 S' r = sW9 S r := fun r => by
    unfold sW9
    by_cases c : r < 18
    · rw [if_pos c, if_pos c, hp _ (by omega)]
    · rw [if_neg c, if_neg c]
  obtain ⟨a, b, c, d, e, f, g, i, j, k⟩ := h
  refine ⟨?_, ?_, ?_, fun r hr => ?_, fun r => ?_, fun x hx => ?_, fun r hr => ?_, fun x hx => ?_, fun l hl => ?_, ?_⟩
  · rw [hS 0 (by decide), hp 0 (by decide)]; exact a
  · rw [hS 1 (by decide), hp 1 (by decide)]; exact b
  · rw [hS 2 (by decide), hp 2 (by decide)]; exact c
  · rw [hS _ (by omega), hw]; exact d r hr
  · rw [hw]; exact e r
  · simp only [hw]
    exact f x hx
  · rw [hS _ (by omega)]; exact g r hr
  · obtain ⟨y, y1, y2⟩ := i x hx
    have := hm x
    exact ⟨y, y1, by rw [hS _ (by omega)]; exact y2⟩
  · rw [hS _ (by omega), hp _ (by omega)]; exact j l hl
  · rw [hS 3 (by decide), hp 3 (by decide)]
    rcases k with k | ⟨k1, k2, k3, k4, k5⟩
    · exact Or.inl k
    · refine Or.inr ⟨k1, k2, k3, fun t ht => ?_, fun t ht => ?_⟩
      · rw [hS _ (by omega), hp _ (by omega)]; exact k4 t ht
      · rw [hS _ (by omega), hp _ (by omega), hp _ (by omega)]; exact k5 t ht

