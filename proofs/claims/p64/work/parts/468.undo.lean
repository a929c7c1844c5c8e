/-! undo, save, restore -/
theorem hasBack {M M' : Mem} (h : Has M) {rot n n' : Nat} (hr : rot < 7) (h7 : n ≤ 7) (hn' : n' ≤ n) (hro : RoT M rot) (hst : ∀ k, k < n → VS (gI M 112) (fun i => gI M 110 (54 * (1 + k) + i)) ∧ RS (gI M 112) M (38 + 6 * ((rot + k) % 7)) (fun i => gI M 110 (54 * (1 + k) + i)))
    (c1 : gI M' 108 1 = nI 1) (c2 : gI M' 112 = gI M 112) (c3 : ∀ o, 3 ≤ o → o ≤ 9 → gI M' o = gI M o) (c4 : VS (gI M 112) (gI M' 109)) (c5 : RS (gI M 112) M' 10 (gI M' 109))
    (c6 : gR M' 36 = gR M 36) (c7 : gI M' 35 0 = nI n') (c8 : gI M' 35 3 = gI M 35 3) (c9 : gI M' 108 4 = nI n') (c10 : ∀ o, 38 ≤ o → o < 92 → gI M' o = gI M o) (c14 : gI M' 110 = gI M 110) (c15 : gI M' 111 = gI M 111) (c17 : gI M' 96 = gI M 96 ∧ gL M' 97 = gL M 97 ∧ gL M' 98 = gL M 98) : Has M' := by
  have e4 : pn (gI M' 108) 4 = n' := by
    unfold pn
    rw [c9, nI_clamp (by omega)]
  obtain ⟨h1, h2, h3, h4, h5, _, _, ⟨q, q1, q2, q3⟩, h9⟩ := h
  refine ⟨c1, by rw [c2]; exact h2, by rw [c2]; exact h3.same c3, by rw [c2]; exact c4, by rw [c2]; exact c5, ⟨c7.trans c9.symm, by rw [e4]; exact c9, by rw [e4]; omega⟩, ⟨rot, hr, (hro.to c6), ?_⟩, ⟨q, q1, by rw [c8]; exact q2, ?_⟩, ?_⟩
  · rw [e4, c2, c14]
    intro k hk
    obtain ⟨a, b⟩ := hst k (by omega)
    have hm7 : (rot + k) % 7 < 7 := Nat.mod_lt _ (by decide)
    exact ⟨a, b.same (fun i hi => c10 _ (by omega) (by omega))⟩
  · rw [c15, c2, c14]
    intro z hz2
    obtain ⟨a, b⟩ := q3 z hz2
    exact ⟨a, fun y => ⟨(b y).1, (b y).2.same (fun i hi => c10 _ (by omega) (by omega))⟩⟩
  · rw [c2]
    unfold Cache
    rw [c17.1, c17.2.1, c17.2.2]
    exact h9
/-- what a change of the settings now, of the stack and of the slots leaves -/
def fz (l : List Nat) (M M' : Mem) : Prop := (∀ o, o ∉ l → o ≠ 108 → gI M' o = gI M o ∧ gL M' o = gL M o ∧ gR M' o = gR M o) ∧ ∀ k, k ≠ 0 → k ≠ 4 → gI M' 108 k = gI M 108 k
theorem fz.inv {l : List Nat} {M M' : Mem} (h : fz l M M') (hI : Inv M) (hl : ∀ o, o ∈ [1, 2, 21, 33, 34, 37, 92, 105, 106, 114, 123] → o ∉ l) (hH : Has M') : Inv M' := by
  have u : ∀ o, o ∈ [1, 2, 21, 33, 34, 37, 92, 105, 106, 114, 123] → gI M' o = gI M o ∧ gL M' o = gL M o ∧ gR M' o = gR M o := fun o ho => h.1 o (hl o ho) (fun z => absurd ho (by rw [z]; decide))
  exact Inv.mk (hI.ib.to (by rw [(u 1 (by decide)).1]) (h.2 9 (by decide) (by decide)) (u 2 (by decide)).1 (u 114 (by decide)).1) (by rw [(u 21 (by decide)).1, h.2 10 (by decide) (by decide), h.2 11 (by decide) (by decide)]; exact hI.2.1) (hI.it.to (u 105 (by decide)).1 (h.2 31 (by decide) (by decide)) (u 106 (by decide)).1 (u 123 (by decide)).1) (hI.is.to (u 37 (by decide)).2.2) (hI.ih.to (u 92 (by decide)).2.2 (u 33 (by decide)).1 (u 34 (by decide)).1) (Or.inr hH)
theorem f4z {M M' : Mem} {l : List Nat} (h : fr l M M') (h8 : 108 ∉ l) : fz l M M' := ⟨fun o ho _ => h o ho, fun k _ _ => by rw [h.I h8]⟩
theorem fz.trans {l : List Nat} {M M1 M2 : Mem} (h : fz l M M1) (h2 : fz l M1 M2) : fz l M M2 := ⟨fun o a b => ⟨(h2.1 o a b).1.trans (h.1 o a b).1, (h2.1 o a b).2.1.trans (h.1 o a b).2.1, (h2.1 o a b).2.2.trans (h.1 o a b).2.2⟩, fun k a b => (h2.2 k a b).trans (h.2 k a b)⟩
theorem fz.mono {l l2 : List Nat} {M M1 : Mem} (h : fz l M M1) (hl : ∀ o, o ∈ l → o ∈ l2) : fz l2 M M1 := ⟨fun o a b => h.1 o (fun z => a (hl o z)) b, h.2⟩
theorem fz_T0 {l : List Nat} {M : Mem} : fz l M (T0 M) := ⟨fun o _ b => ⟨T0_I b, rfl, rfl⟩, fun k hk _ => by unfold T0; rw [gI_sI, if_neg (fun z => hk z.2)]⟩
theorem fz_4 {l : List Nat} {M : Mem} {v : Int32} : fz l M (sI M 108 4 v) := ⟨fun o _ b => ⟨by rw [gI_sI', if_neg b], rfl, rfl⟩, fun k _ hk => by rw [gI_sI, if_neg (fun z => hk z.2)]⟩
def lU : List Nat := [10, 11, 12, 13, 14, 15, 35, 109, 124]
theorem lU_in {o : Nat} : o ∈ lU ↔ (10 ≤ o ∧ o ≤ 15) ∨ o = 35 ∨ o = 109 ∨ o = 124 := by
  unfold lU
  simp only [List.mem_cons, List.not_mem_nil, or_false]
  omega
theorem blk10 : ∀ o, o ∈ blk 10 → o ∈ lU := fun o ho => by
  rw [lU_in]
  have := blk_in.mp ho
  omega
