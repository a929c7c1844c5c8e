/-! undo, save, restore -/
theorem hasBack {M M' : Mem} (h : Has M) {rot n n' : Nat} (hr : rot < 7) (h7 : n ≤ 7) (hn' : n' ≤ n) (hro : RoT M rot) (hst : ∀ k, k < n → VS (gI M 112) (fun i => gI M 110 (54 * (1 + k) + i)) ∧ RS (gI M 112) M (38 + 6 * ((rot + k) % 7)) (fun i => gI M 110 (54 * (1 + k) + i)))
    (c1 : gI M' 108 1 = nI 1) (c2 : gI M' 112 = gI M 112) (c3 : ∀ o, 3 ≤ o → o ≤ 9 → gI M' o = gI M o) (c4 : VS (gI M 112) (gI M' 109)) (c5 : RS (gI M 112) M' 10 (gI M' 109))
    (c6 : gR M' 36 = gR M 36) (c7 : gI M' 35 0 = nI n') (c8 : gI M' 35 3 = gI M 35 3) (c9 : gI M' 108 4 = nI n') (c10 : ∀ o, 38 ≤ o → o < 92 → gI M' o = gI M o) (c14 : gI M' 110 = gI M 110) (c15 : gI M' 111 = gI M 111) (c17 : gI M' 96 = gI M 96 ∧ gL M' 97 = gL M 97 ∧ gL M' 98 = gL M 98) : Has M' := by
  have e4 : pn (gI M' 108) 4 = n' := by
    unfold pn
    rw [c9, nI_clamp (by omega)]
  obtain ⟨h1, h2, h3, h4, h5, _, _, ⟨q, q1, q2, q3⟩, h9⟩ := h
  refine ⟨c1, by rw [c2]; exact h2, by rw [c2]; exact h3.same c3, by rw [c2]; exact c4, by rw [c2]; exact c5, ⟨c7.trans c9.symm, by rw [e4]; exact c9, by rw [e4]; omega⟩, ⟨rot, hr, (hro.to c6), ?_⟩, ⟨q, q1, by rw [c8]; exact q2, ?_⟩, ?_⟩
  · rw [e4, c2, c14]
    intro k hk
    obtain ⟨a, b⟩ := hst k (by omega)
    have hm7 : (rot + k) % 7 < 7 := Nat.mod_lt _ (by decide)
    exact ⟨a, b.same (fun i hi => c10 _ (by omega) (by omega))⟩
  · rw [c15, c2, c14]
    intro z hz2
    obtain ⟨a, b⟩ := q3 z hz2
    exact ⟨a, fun y => ⟨(b y).1, (b y).2.same (fun i hi => c10 _ (by omega) (by omega))⟩⟩
  · rw [c2]
    unfold Cache
    rw [c17.1, c17.2.1, c17.2.2]
    exact h9
/-- what a change of the settings now, of the stack and of the slots leaves -/
def fz (l : List Nat) (M M' : Mem) : Prop := (∀ o, o ∉ l → o ≠ 108 → gI M' o = gI M o ∧ gL M' o = gL M o ∧ gR M' o = gR M o) ∧ ∀ k, k ≠ 0 → k ≠ 4 → gI M' 108 k = gI M 108 k
theorem fz.inv {l : List Nat} {M M' : Mem} (h : fz l M M') (hI : Inv M) (hl : ∀ o, o ∈ [1, 2, 21, 33, 34, 37, 92, 105, 106, 114, 123] → o ∉ l) (hH : Has M') : Inv M' := by
  have u : ∀ o, o ∈ [1, 2, 21, 33, 34, 37, 92, 105, 106, 114, 123] → gI M' o = gI M o ∧ gL M' o = gL M o ∧ gR M' o = gR M o := fun o ho => h.1 o (hl o ho) (fun z => absurd ho (by rw [z]; decide))
  exact Inv.mk (hI.ib.to (by rw [(u 1 (by decide)).1]) (h.2 9 (by decide) (by decide)) (u 2 (by decide)).1 (u 114 (by decide)).1) (by rw [(u 21 (by decide)).1, h.2 10 (by decide) (by decide), h.2 11 (by decide) (by decide)]; exact hI.2.1) (hI.it.to (u 105 (by decide)).1 (h.2 31 (by decide) (by decide)) (u 106 (by decide)).1 (u 123 (by decide)).1) (hI.is.to (u 37 (by decide)).2.2) (hI.ih.to (u 92 (by decide)).2.2 (u 33 (by decide)).1 (u 34 (by decide)).1) (Or.inr hH)
theorem f4z {M M' : Mem} {l : List Nat} (h : fr l M M') (h8 : 108 ∉ l) : fz l M M' := ⟨fun o ho _ => h o ho, fun k _ _ => by rw [h.I h8]⟩
theorem fz.trans {l : List Nat} {M M1 M2 : Mem} (h : fz l M M1) (h2 : fz l M1 M2) : fz l M M2 := ⟨fun o a b => ⟨(h2.1 o a b).1.trans (h.1 o a b).1, (h2.1 o a b).2.1.trans (h.1 o a b).2.1, (h2.1 o a b).2.2.trans (h.1 o a b).2.2⟩, fun k a b => (h2.2 k a b).trans (h.2 k a b)⟩
theorem fz.mono {l l2 : List Nat} {M M1 : Mem} (h : fz l M M1) (hl : ∀ o, o ∈ l → o ∈ l2) : fz l2 M M1 := ⟨fun o a b => h.1 o (fun z => a (hl o z)) b, h.2⟩
theorem fz_T0 {l : List Nat} {M : Mem} : fz l M (T0 M) := ⟨fun o _ b => ⟨T0_I b, rfl, rfl⟩, fun k hk _ => by unfold T0; rw [gI_sI, if_neg (fun z => hk z.2)]⟩
theorem fz_4 {l : List Nat} {M : Mem} {v : Int32} : fz l M (sI M 108 4 v) := ⟨fun o _ b => ⟨by rw [gI_sI', if_neg b], rfl, rfl⟩, fun k _ hk => by rw [gI_sI, if_neg (fun z => hk z.2)]⟩
def lU : List Nat := [10, 11, 12, 13, 14, 15, 35, 109, 124]
theorem lU_in {o : Nat} : o ∈ lU ↔ (10 ≤ o ∧ o ≤ 15) ∨ o = 35 ∨ o = 109 ∨ o = 124 := by
  unfold lU
  simp only [List.mem_cons, List.not_mem_nil, or_false]
  omega
theorem blk10 : ∀ o, o ∈ blk 10 → o ∈ lU := fun o ho => by
  rw [lU_in]
  have := blk_in.mp ho
  omega
theorem ok_undo {Z : Nat} (hZ : 4000 < Z) {M : Mem} (hI : Inv M) (h : Has M) {rot n : Nat} (hr : rot < 7) (h7 : n + 1 ≤ 7) (hn : gI M 35 0 = nI (n + 1)) (hn8 : gI M 108 4 = nI (n + 1)) (hro : RoT M rot) (hst : ∀ k, k < n + 1 → VS (gI M 112) (fun i => gI M 110 (54 * (1 + k) + i)) ∧ RS (gI M 112) M (38 + 6 * ((rot + k) % 7)) (fun i => gI M 110 (54 * (1 + k) + i))) : OKc (f_X11_undo Z M) (fun M => f_X12_undo Z M) (·.toInt64) (·.toInt64) := by
  have hN := h.N
  have hz := h.z
  have hm7 : (rot + n) % 7 < 7 := Nat.mod_lt _ (by decide)
  have er := hro n (by omega)
  -- class
  have fA : fr lU M (sI M 35 0 (nI n)) := fr_sI fr.rfl (by decide)
  obtain ⟨_, M2, e2, f2, c2⟩ := copyFrom_ok (Z := Z) (M := sI M 35 0 (nI n)) (o := 10) (o2 := 38 + 6 * ((rot + n) % 7)) (Or.inl (by omega))
  have fB : fr lU M M2 := fA.trans (f2.mono blk10)
  have g35 : gI M2 35 = gI (sI M 35 0 (nI n)) 35 := f2.I (by rw [blk_in]; omega)
  have g350 : gI M2 35 0 = nI n := by rw [g35, gI_sI, if_pos ⟨rfl, rfl⟩]
  have g353 : gI M2 35 3 = gI M 35 3 := by rw [g35, gI_sI, if_neg (by decide)]
  generalize hv : nI n = v at g350
  have fC : fr lU M (sL M2 124 0 v.toInt64) := fr_sL fB (by decide)
  -- reference
  have zC : fz lU M (sI (T0 (sL M2 124 0 v.toInt64)) 108 4 (nI n)) := ((f4z fC (by decide)).trans fz_T0).trans fz_4
  obtain ⟨_, M4, e4, f4, t4⟩ := fetches_ok (Z := Z) (by omega) (M := sI (T0 (sL M2 124 0 v.toInt64)) 108 4 (nI n)) (r := 1 + n) (by omega)
  have zD : fz lU M M4 := zC.trans ((f4z f4 (by decide)).mono (by decide))
  have j110 : gI M4 110 = gI M 110 := (zD.1 110 (by decide) (by decide)).1
  have S4 : ∀ i, i < 54 → gI M4 109 i = gI M 110 (54 * (1 + n) + i) := fun i hi => by
    rw [t4 i hi, (zC.1 110 (by decide) (by decide)).1, mc54]
  obtain ⟨sV, sR⟩ := hst n (by omega)
  have m10 : ∀ i, i < 6 → gI M4 (10 + i) = gI M2 (10 + i) := fun i hi => by
    rw [f4.I (by simp; omega), gI_sI', if_neg (by omega), T0_I (by omega), gI_sL']
  have c4 : cpd M4 10 M (38 + 6 * ((rot + n) % 7)) := by
    obtain ⟨b1, b2, b3, b4, b5, b6⟩ := c2
    have w : ∀ i, i < 6 → gI (sI M 35 0 (nI n)) (38 + 6 * ((rot + n) % 7) + i) = gI M (38 + 6 * ((rot + n) % 7) + i) := fun i hi => by rw [gI_sI', if_neg (by omega)]
    have w0 : gI (sI M 35 0 (nI n)) (38 + 6 * ((rot + n) % 7)) = gI M (38 + 6 * ((rot + n) % 7)) := w 0 (by decide)
    have m0 : gI M4 10 = gI M2 10 := m10 0 (by decide)
    refine ⟨fun k h1 h2 => ?_, fun k hk => ?_, fun k hk => ?_, fun k hk => ?_, fun k hk => ?_, fun k hk => ?_⟩
    · rw [m0, b1 k h1 h2, w0]
    · rw [m10 1 (by decide), b2 k hk, w 1 (by decide)]
    · rw [m10 2 (by decide), b3 k hk, w 2 (by decide)]
    · rw [m10 3 (by decide), b4 k hk, w 3 (by decide)]
    · rw [m10 4 (by decide), b5 k hk, w 4 (by decide)]
    · rw [m10 5 (by decide), b6 k hk, w 5 (by decide)]
  have g4 : gI M4 108 4 = nI n := by rw [f4.I (by decide), gI_sI, if_pos ⟨rfl, rfl⟩]
  have hH : Has M4 := hasBack h hr h7 (Nat.le_succ n) hro hst (by rw [zD.2 1 (by decide) (by decide)]; exact h.1) (zD.1 112 (by decide) (by decide)).1 (fun o a b => (zD.1 o (by rw [lU_in]; omega) (by omega)).1) (sV.congr hN.2 hz.2.1 S4) ((sR.cpd hN.2 c4).congr hN.2 hz.2.1 S4) (zD.1 36 (by decide) (by decide)).2.2
    (by rw [f4.I (by decide), gI_sI', if_neg (by decide), T0_I (by decide), gI_sL', g350, ← hv]) (by rw [f4.I (by decide), gI_sI', if_neg (by decide), T0_I (by decide), gI_sL', g353]) g4 (fun o a b => (zD.1 o (by rw [lU_in]; omega) (by omega)).1) j110 (zD.1 111 (by decide) (by decide)).1 ⟨(zD.1 96 (by decide) (by decide)).1, (zD.1 97 (by decide) (by decide)).2.1, (zD.1 98 (by decide) (by decide)).2.1⟩
  have hI4 : Inv M4 := zD.inv hI (by decide) hH
  refine ⟨v, v, M2, M4, ?_, ?_, hI4, ?_, ?_⟩
  · unfold f_X11_undo
    rw [bd_eq, hn, if_neg (nI_ne0 (by omega) (by omega))]
    unfold f_X3_giveBack
    rw [bd_eq, hn, i0, if_neg (by rw [nI_ile (by omega) (by decide)]; omega), bd_eq, i1, nI_sub (by omega), Nat.add_sub_cancel, bd_eq, bd_eq, gI_sI, if_pos ⟨rfl, rfl⟩, rdR_n (by omega) (by decide) (by rw [gR_sI']; exact er) (rot_sh' _), e2, cl_some, cl_some, bd_eq, g350]
  · show f_X12_undo Z (sL M2 124 0 v.toInt64) = _
    have k4 : gI (T0 (sL M2 124 0 v.toInt64)) 108 4 = nI (n + 1) := by
      unfold T0
      rw [gI_sI, if_neg (by decide), fC.I (by decide)]
      exact hn8
    unfold f_X12_undo
    rw [bd_eq, show sI (sL M2 124 0 v.toInt64) 108 0 0 = T0 (sL M2 124 0 v.toInt64) from rfl, bd_eq, k4, jn_eq, if_neg (nI_ne0 (by omega) (by omega))]
    dsimp only
    rw [ref0 T0_0, cl_some, if_pos rfl, bd_eq, k4, i1, nI_sub (by omega), Nat.add_sub_cancel, bd_eq, bd_eq, gI_sI, if_pos ⟨rfl, rfl⟩, nI_add, e4, cl_some, bd_eq, g4, hv]
  · rw [f4.I (by decide), gI_sI, if_neg (by decide)]
    exact T0_0
  · rw [f4.L (by decide), gL_sI', T0_L, gL_sL, if_pos ⟨rfl, rfl⟩]
theorem undo0 {Z : Nat} {M : Mem} (hI : Inv M) (h35 : gI M 35 0 = nI 0) (h8 : gI M 108 4 = nI 0) : CK (f_L_undo Z M) (fun M => f_X12_undo Z M) (·.toInt64) := by
  unfold f_L_undo
  refine CK.er hI (e := 0) (c := 1) (w := 0) ?_ rfl (by decide) ?_
  · unfold f_X11_undo
    rw [bd_eq, h35, if_pos (by decide)]
  · have k4 : gI (T0 M) 108 4 = nI 0 := by
      unfold T0
      rw [gI_sI, if_neg (by decide)]
      exact h8
    unfold f_X12_undo
    rw [bd_eq, show sI M 108 0 0 = T0 M from rfl, bd_eq, k4, jn_eq, if_pos (by decide)]
    dsimp only
    rw [ref1 T0_0 (by decide), cl_some]
    rfl
theorem ck_undo {Z : Nat} {M : Mem} (hZ : 4000 < Z) (hI : Inv M) : CK (f_L_undo Z M) (fun M => f_X12_undo Z M) (·.toInt64) := by
  rcases hI.2.2.2.2.2 with h | h
  · exact undo0 hI h.2.2.2.2.1 h.2.2.2.2.2.1
  · obtain ⟨rot, n, hr, h7, hn, hn8, hro, hst⟩ := hasStk h
    by_cases c : n = 0
    · subst c
      exact undo0 hI hn hn8
    · obtain ⟨m, rfl⟩ : ∃ m, n = m + 1 := ⟨n - 1, by omega⟩
      unfold f_L_undo
      exact CK.mk (ok_undo hZ hI h hr h7 hn hn8 hro hst)
theorem b_law_57 {Z L a : Nat} {xs : Nat → Int32} {M : Mem} {j : Mem → Option Unit} (hZ : 4000 < Z) (hI : Inv M) (ha : a + 6 ≤ L) (hL : L ≤ 3072) (hj : ∀ M1, Inv M1 → j M1 = some ()) : f_law_57 Z L xs M (nI a) j = some () := by
  unfold f_law_57
  exact (ck_undo hZ hI).tail hj
