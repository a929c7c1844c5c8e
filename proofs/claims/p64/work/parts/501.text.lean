/-! the text that grows -/
def TB (M : Mem) (T : List Nat) : Prop := (∃ m, SBM M T.length m) ∧ (∀ j, j < T.length → gI M 211 j = nI (T.getD j 0)) ∧ ∀ b ∈ T, b < 128
theorem apM_at {M : Mem} {T bs : List Nat} (h : TB M T) {j : Nat} (hj : j < T.length + bs.length) : gI (apM M bs) 211 j = nI ((T ++ bs).getD j 0) := by
  obtain ⟨⟨m, hB⟩, hT, -⟩ := h
  rw [apM_eq hB, gI_sI, if_neg (fun z => absurd z.1 (by decide)), putT_211]
  by_cases hl : j < T.length
  · rw [if_neg (by omega), growM_at hB hl, hT j hl]
    simp only [List.getD_eq_getElem?_getD, List.getElem?_append_left hl]
  · rw [if_pos (by omega)]
    simp only [List.getD_eq_getElem?_getD, List.getElem?_append_right (Nat.le_of_not_lt hl)]
theorem TB.app {M : Mem} {T bs : List Nat} (h : TB M T) (hb : ∀ b ∈ bs, b < 128) (hn : T.length + bs.length ≤ 1100) : TB (apM M bs) (T ++ bs) := by
  obtain ⟨m, hB⟩ := h.1
  obtain ⟨m', hB'⟩ := hB.app hb hn
  refine ⟨⟨m', by rw [List.length_append]; exact hB'⟩, fun j hj => ?_, fun b hb9 => (List.mem_append.mp hb9).elim (h.2.2 b) (hb b)⟩
  rw [List.length_append] at hj
  exact apM_at h hj
/-- all but some objects stay -/
def frS (S : Nat → Prop) (M M' : Mem) : Prop := (∀ o, ¬ S o → gI M' o = gI M o) ∧ (∀ o, o ≠ 211 → o ≠ 300 → gL M' o = gL M o) ∧ gR M' = gR M
def S7 (o : Nat) : Prop := o = 210 ∨ o = 211 ∨ o = 300
def S8 (o : Nat) : Prop := o = 108 ∨ S7 o
theorem frS.rfl {S : Nat → Prop} {M : Mem} : frS S M M := ⟨fun _ _ => Eq.refl _, fun _ _ _ => Eq.refl _, Eq.refl _⟩
theorem frS.trans {S : Nat → Prop} {M M1 M2 : Mem} (h : frS S M M1) (h2 : frS S M1 M2) : frS S M M2 := ⟨fun o a => (h2.1 o a).trans (h.1 o a), fun o a b => (h2.2.1 o a b).trans (h.2.1 o a b), h2.2.2.trans h.2.2⟩
theorem frS.wk {S S1 : Nat → Prop} {M M1 : Mem} (h : frS S M M1) (hs : ∀ o, S o → S1 o) : frS S1 M M1 := ⟨fun o a => h.1 o (fun z => a (hs o z)), h.2⟩
theorem frS_sI {S : Nat → Prop} {M : Mem} {o k : Nat} {v : Int32} (h : S o) : frS S M (sI M o k v) := ⟨fun o1 a => funext fun j => by rw [gI_sI, if_neg (fun (z : o1 = o ∧ j = k) => a (z.1 ▸ h))], fun _ _ _ => Eq.refl _, Eq.refl _⟩
theorem frT_ap {M : Mem} {bs : List Nat} : frS S7 M (apM M bs) := ⟨fun o a => funext fun k => apM_nI (fun z => a (.inl z)) (fun z => a (.inr (.inl z))) (fun z => a (.inr (.inr z))), fun o b c => funext fun k => apM_nL b c, funext fun o => funext fun k => apM_R⟩
theorem apK_ok {β : Type} {M : Mem} {T bs : List Nat} {k : Mem → Option β} (h : TB M T) (hn : T.length + bs.length ≤ 1100) : apK M bs k = k (apM M bs) := by
  obtain ⟨m, hB⟩ := h.1
  exact if_pos ⟨_, m, hB, hn⟩
theorem apI_ok {β : Type} {M : Mem} {T : List Nat} {v : Nat} {k : Mem → Option β} (h : TB M T) (hv : v < 100000) (hn : T.length + (dgs v).length ≤ 1100) : apI M (nI v) k = k (apM M (dgs v)) := by
  obtain ⟨m, hB⟩ := h.1
  have e : (nI v).toNatClampNeg = v := nI_clamp (by omega)
  unfold apI
  rw [e]
  exact if_pos ⟨nI_pos (by omega), hv, _, m, hB, hn⟩
/-- the same under any goal of the outcome -/
theorem apK_R {β : Type} {R : Option β → Prop} {M : Mem} {T bs : List Nat} {k : Mem → Option β} (h : TB M T) (hb : ∀ b ∈ bs, b < 128) (hn : T.length + bs.length ≤ 1100) (K : ∀ M1, TB M1 (T ++ bs) → frS S7 M M1 → R (k M1)) : R (apK M bs k) := by
  rw [apK_ok h hn]
  exact K _ (h.app hb hn) frT_ap
theorem apI_R {β : Type} {R : Option β → Prop} {M : Mem} {T : List Nat} {v : Nat} {k : Mem → Option β} (h : TB M T) (hv : v < 100000) (hn : T.length + (dgs v).length ≤ 1100) (K : ∀ M1, TB M1 (T ++ dgs v) → frS S7 M M1 → R (k M1)) : R (apI M (nI v) k) := by
  rw [apI_ok h hv hn]
  exact K _ (h.app (dgs_b hv) hn) frT_ap
theorem apW_R {β : Type} {R : Option β → Prop} {M : Mem} {T : List Nat} {t : Nat} {k : Mem → Option β} (h : TB M T) (ht : t < 21) (hn : T.length + (WL.getD t []).length ≤ 1100) (K : ∀ M1, TB M1 (T ++ WL.getD t []) → frS S7 M M1 → R (k M1)) : R (apK M (WL.getD t []) k) := apK_R h (wl_b t ht) hn K
theorem next_R {β : Type} {R : Option β → Prop} {LX k a b : Nat} {xs : Nat → Int32} {M : Mem} {x y : Int32} {kk : Int32 → Mem → Option β} (hk : gI M 108 1 = nI k) (hk2 : k < 1000000) (hx : x = nI a) (hy : y = nI b) (hab : a ≤ b) (hb : b < 1000000) (hL : LX < 2147483647) (K : ∀ v, a ≤ v → v ≤ b → R (kk (nI v) (sI M 108 1 (nI (k + 1))))) : R (cl (f_X13_next LX xs M x y) kk) := by
  subst hx; subst hy
  obtain ⟨v, ⟨h1, h2⟩, e⟩ := next_ok (xs := xs) hk hk2 hab hb hL
  rw [e]
  exact K v h1 h2
/-- other rows changed: the text stays -/
theorem TB.wr {M : Mem} {T : List Nat} {o k : Nat} {v : Int32} (h : TB M T) (h0 : o ≠ 210) (h1 : o ≠ 211) (h3 : o ≠ 300) : TB (sI M o k v) T := by
  have e0 : gI (sI M o k v) 210 = gI M 210 := funext fun j => by rw [gI_sI, if_neg (fun z => h0 z.1.symm)]
  have e1 : gI (sI M o k v) 211 = gI M 211 := funext fun j => by rw [gI_sI, if_neg (fun z => h1 z.1.symm)]
  have e3 : gI (sI M o k v) 300 = gI M 300 := funext fun j => by rw [gI_sI, if_neg (fun z => h3 z.1.symm)]
  obtain ⟨⟨m, b1, b2, b3, b4, b5, b6, b7, b8, b9⟩, h2⟩ := h
  exact ⟨⟨m, by rw [e0]; exact b1, by rw [e0]; exact b2, b3, b4, b5, fun j => by rw [e1]; exact b6 j, fun j => by rw [e3]; exact b7 j, b8, b9⟩, fun j hj => by rw [e1]; exact h2.1 j hj, h2.2⟩
