/-! settings copied, kept, given back -/
theorem copyRow_ok {Z : Nat} {M : Mem} {a b n : Nat} (hn : n < 3000) : OK (f_X11_copyRow Z M a n b n) (fun _ M' => fr [b] M M' ∧ ∀ k, k < n → gI M' b k = gI M a k) := by
  unfold f_X11_copyRow
  rw [bd_eq, ofN, if_neg (show ¬ nI n < nI n by rw [nI_ilt (by omega) (by omega)]; omega)]
  unfold cpI
  rw [i0, nI_clamp (by omega), nI_clamp (by omega), if_pos ⟨nI_nlt0 (by decide), nI_nlt0 (by decide), nI_nlt0 (by omega), by omega, by omega⟩]
  refine OK.ret ⟨fun o ho => ⟨?_, rfl, rfl⟩, fun k hk => ?_⟩
  · funext k
    show (if o = b then _ else _) = _
    rw [if_neg (fun z => ho (by rw [z]; exact List.mem_cons_self))]
    rfl
  · show (if b = b then va_cpy (gI M a) (gI M b) 0 0 n k else _) = _
    rw [if_pos rfl]
    show (if 0 ≤ k ∧ k < 0 + n then gI M a (0 + (k - 0)) else _) = _
    rw [if_pos ⟨Nat.zero_le _, by omega⟩, show 0 + (k - 0) = k by omega]
/-- the settings of the object o are those that o2 had -/
def cpd (M' : Mem) (o : Nat) (M : Mem) (o2 : Nat) : Prop := (∀ k, 3 ≤ k → k < 7 → gI M' o k = gI M o2 k) ∧ (∀ k, k < 18 → gI M' (o + 1) k = gI M (o2 + 1) k) ∧ (∀ k, k < 6 → gI M' (o + 2) k = gI M (o2 + 2) k) ∧ (∀ k, k < 3 → gI M' (o + 3) k = gI M (o2 + 3) k) ∧ (∀ k, k < 6 → gI M' (o + 4) k = gI M (o2 + 4) k) ∧ ∀ k, k < 5 → gI M' (o + 5) k = gI M (o2 + 5) k
def blk (o : Nat) : List Nat := [o, o + 1, o + 2, o + 3, o + 4, o + 5]
theorem blk_in {o x : Nat} : x ∈ blk o ↔ o ≤ x ∧ x < o + 6 := by
  unfold blk
  simp only [List.mem_cons, List.not_mem_nil, or_false]
  omega
theorem copyFrom_ok {Z : Nat} {M : Mem} {o o2 : Nat} (hd : o + 6 ≤ o2 ∨ o2 + 6 ≤ o) : OK (f_X7_copyFrom Z M o o2) (fun _ M' => fr (blk o) M M' ∧ cpd M' o M o2) := by
  have nn : ∀ i j, i < 6 → j < 6 → o2 + i ∉ [o + j] := fun i j hi hj z => by
    have := List.mem_singleton.mp z
    omega
  have nb : ∀ i j, i < 6 → j < 6 → i ≠ j → o + i ∉ [o + j] := fun i j hi hj hne z => by
    have := List.mem_singleton.mp z
    omega
  have inb : ∀ j, j < 6 → ∀ x ∈ [o + j], x ∈ blk o := fun j hj x hx => by
    have := List.mem_singleton.mp hx
    rw [blk_in]
    omega
  unfold f_X7_copyFrom
  obtain ⟨_, M1, e1, f1, v1⟩ := copyRow_ok (Z := Z) (M := M) (a := o2 + 1) (b := o + 1) (n := 18) (by decide)
  rw [e1, cl_some]
  obtain ⟨_, M2, e2, f2, v2⟩ := copyRow_ok (Z := Z) (M := M1) (a := o2 + 2) (b := o + 2) (n := 6) (by decide)
  rw [e2, cl_some]
  obtain ⟨_, M3, e3, f3, v3⟩ := copyRow_ok (Z := Z) (M := M2) (a := o2 + 3) (b := o + 3) (n := 3) (by decide)
  rw [e3, cl_some]
  simp only [bd_eq]
  have no2 : ∀ k w, gI (sI M3 o k w) o2 = gI M3 o2 := fun k w => by rw [gI_sI', if_neg (by omega)]
  have no2' : ∀ M9 k w, gI (sI M9 o k w) o2 = gI M9 o2 := fun M9 k w => by rw [gI_sI', if_neg (by omega)]
  simp only [no2']
  generalize hM4 : sI (sI (sI (sI M3 o 3 (gI M3 o2 3)) o 4 (gI M3 o2 4)) o 5 (gI M3 o2 5)) o 6 (gI M3 o2 6) = M4
  have f4 : fr [o] M3 M4 := by
    rw [← hM4]
    exact fr_sI (fr_sI (fr_sI (fr_sI fr.rfl List.mem_cons_self) List.mem_cons_self) List.mem_cons_self) List.mem_cons_self
  have v4 : ∀ k, 3 ≤ k → k < 7 → gI M4 o k = gI M3 o2 k := fun k h1 h2 => by
    rw [← hM4]
    by_cases c6 : k = 6
    · rw [c6, gI_sI, if_pos ⟨rfl, rfl⟩]
    · rw [gI_sI, if_neg (fun z => c6 z.2)]
      by_cases c5 : k = 5
      · rw [c5, gI_sI, if_pos ⟨rfl, rfl⟩]
      · rw [gI_sI, if_neg (fun z => c5 z.2)]
        by_cases c4 : k = 4
        · rw [c4, gI_sI, if_pos ⟨rfl, rfl⟩]
        · rw [gI_sI, if_neg (fun z => c4 z.2), gI_sI, if_pos ⟨rfl, by omega⟩, show k = 3 by omega]
  obtain ⟨_, M5, e5, f5, v5⟩ := copyRow_ok (Z := Z) (M := M4) (a := o2 + 4) (b := o + 4) (n := 6) (by decide)
  rw [e5, cl_some]
  obtain ⟨_, M6, e6, f6, v6⟩ := copyRow_ok (Z := Z) (M := M5) (a := o2 + 5) (b := o + 5) (n := 5) (by decide)
  rw [e6, cl_some]
  have g1 := f1
  have n0 : ∀ i, i < 6 → o2 + i ∉ [o] := fun i hi => nn i 0 hi (by decide)
  have b0 : ∀ i, i < 6 → i ≠ 0 → o + i ∉ [o] := fun i hi h0 => nb i 0 hi (by decide) h0
  have h0b : ∀ j, j < 6 → j ≠ 0 → o ∉ [o + j] := fun j hj h0 => nb 0 j (by decide) hj (Ne.symm h0)
  have h02 : ∀ j, j < 6 → o2 ∉ [o + j] := fun j hj => nn 0 j (by decide) hj
  have i1' : o ∈ blk o := blk_in.mpr ⟨by omega, by omega⟩
  refine OK.ret ⟨((((f1.mono (inb 1 (by decide))).trans (f2.mono (inb 2 (by decide)))).trans (f3.mono (inb 3 (by decide)))).trans (f4.mono (fun x hx => by rw [List.mem_singleton.mp hx]; exact i1'))).trans ((f5.mono (inb 4 (by decide))).trans (f6.mono (inb 5 (by decide)))), fun k h1 h2 => ?_, fun k hk => ?_, fun k hk => ?_, fun k hk => ?_, fun k hk => ?_, fun k hk => ?_⟩
  · rw [f6.I (h0b 5 (by decide) (by decide)), f5.I (h0b 4 (by decide) (by decide)), v4 k h1 h2, f3.I (h02 3 (by decide)), f2.I (h02 2 (by decide)), f1.I (h02 1 (by decide))]
  · rw [f6.I (nb 1 5 (by decide) (by decide) (by decide)), f5.I (nb 1 4 (by decide) (by decide) (by decide)), f4.I (b0 1 (by decide) (by decide)), f3.I (nb 1 3 (by decide) (by decide) (by decide)), f2.I (nb 1 2 (by decide) (by decide) (by decide)), v1 k hk]
  · rw [f6.I (nb 2 5 (by decide) (by decide) (by decide)), f5.I (nb 2 4 (by decide) (by decide) (by decide)), f4.I (b0 2 (by decide) (by decide)), f3.I (nb 2 3 (by decide) (by decide) (by decide)), v2 k hk, f1.I (nn 2 1 (by decide) (by decide))]
  · rw [f6.I (nb 3 5 (by decide) (by decide) (by decide)), f5.I (nb 3 4 (by decide) (by decide) (by decide)), f4.I (b0 3 (by decide) (by decide)), v3 k hk, f2.I (nn 3 2 (by decide) (by decide)), f1.I (nn 3 1 (by decide) (by decide))]
  · rw [f6.I (nb 4 5 (by decide) (by decide) (by decide)), v5 k hk, f4.I (n0 4 (by decide)), f3.I (nn 4 3 (by decide) (by decide)), f2.I (nn 4 2 (by decide) (by decide)), f1.I (nn 4 1 (by decide) (by decide))]
  · rw [v6 k hk, f5.I (nn 5 4 (by decide) (by decide)), f4.I (n0 5 (by decide)), f3.I (nn 5 3 (by decide) (by decide)), f2.I (nn 5 2 (by decide) (by decide)), f1.I (nn 5 1 (by decide) (by decide))]
theorem RS.cpd {P : Nat → Int32} {M M' : Mem} {o o2 : Nat} {S : Nat → Int32} (h : RS P M o2 S) (hN : cN P ≤ 6) (hc : cpd M' o M o2) : RS P M' o S := by
  obtain ⟨⟨a1, a2, a3, a4⟩, b, c, d, e, f⟩ := h
  refine ⟨⟨?_, ?_, ?_, ?_⟩, fun r hr => ?_, fun x hx => ?_, fun k hk => ?_, fun t ht => ?_, fun t ht => ?_⟩
  · rw [hc.1 3 (by decide) (by decide)]; exact a1
  · rw [hc.1 4 (by decide) (by decide)]; exact a2
  · rw [hc.1 5 (by decide) (by decide)]; exact a3
  · rw [hc.1 6 (by decide) (by decide)]; exact a4
  · rw [hc.2.1 r (by omega)]; exact b r hr
  · rw [hc.2.2.1 x (by omega)]; exact c x hx
  · rw [hc.2.2.2.1 k hk]; exact d k hk
  · rw [hc.2.2.2.2.1 t ht]; exact e t ht
  · rw [hc.2.2.2.2.2 t ht]; exact f t ht
theorem RS.congr {P S S' : Nat → Int32} {M : Mem} {o : Nat} (h : RS P M o S) (hN : cN P ≤ 6) (hm : ∀ x, cM P x ≤ 3) (hS : ∀ i, i < 54 → S' i = S i) : RS P M o S' := by
  obtain ⟨⟨a1, a2, a3, a4⟩, b, c, d, e, f⟩ := h
  refine ⟨⟨?_, ?_, ?_, ?_⟩, fun r hr => ?_, fun x hx => ?_, fun k hk => ?_, fun t ht => ?_, fun t ht => ?_⟩
  · rw [hS 0 (by decide)]; exact a1
  · rw [hS 1 (by decide)]; exact a2
  · rw [hS 2 (by decide)]; exact a3
  · rw [hS 3 (by decide)]; exact a4
  · rw [hS _ (by omega)]; exact b r hr
  · obtain ⟨q, q1, q2, q3⟩ := c x hx
    refine ⟨q, q1, q2, fun a ha => ?_⟩
    have := hm x
    rw [hS _ (by omega)]
    exact q3 a ha
  · rw [hS _ (by omega)]; exact d k hk
  · rw [hS _ (by omega)]; exact e t ht
  · rw [hS _ (by omega)]; exact f t ht
theorem VS.congr {P S S' : Nat → Int32} (h : VS P S) (hN : cN P ≤ 6) (hm : ∀ x, cM P x ≤ 3) (hS : ∀ i, i < 54 → S' i = S i) : VS P S' := by
  have hp : ∀ i, i < 54 → pn S' i = pn S i := fun i hi => by unfold pn; rw [hS i hi]
  have hw : ∀ r, sW9 S' r = sW9 S r := fun r => by
    unfold sW9
    by_cases c : r < 18
    · rw [if_pos c, if_pos c, hp _ (by omega)]
    · rw [if_neg c, if_neg c]
  obtain ⟨a, b, c, d, e, f, g, i, j, k⟩ := h
  refine ⟨?_, ?_, ?_, fun r hr => ?_, fun r => ?_, fun x hx => ?_, fun r hr => ?_, fun x hx => ?_, fun l hl => ?_, ?_⟩
  · rw [hS 0 (by decide), hp 0 (by decide)]; exact a
  · rw [hS 1 (by decide), hp 1 (by decide)]; exact b
  · rw [hS 2 (by decide), hp 2 (by decide)]; exact c
  · rw [hS _ (by omega), hw]; exact d r hr
  · rw [hw]; exact e r
  · simp only [hw]
    exact f x hx
  · rw [hS _ (by omega)]; exact g r hr
  · obtain ⟨y, y1, y2⟩ := i x hx
    have := hm x
    exact ⟨y, y1, by rw [hS _ (by omega)]; exact y2⟩
  · rw [hS _ (by omega), hp _ (by omega)]; exact j l hl
  · rw [hS 3 (by decide), hp 3 (by decide)]
    rcases k with k | ⟨k1, k2, k3, k4, k5⟩
    · exact Or.inl k
    · refine Or.inr ⟨k1, k2, k3, fun t ht => ?_, fun t ht => ?_⟩
      · rw [hS _ (by omega), hp _ (by omega)]; exact k4 t ht
      · rw [hS _ (by omega), hp _ (by omega), hp _ (by omega)]; exact k5 t ht

