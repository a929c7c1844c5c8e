/-! pieces of the settings -/
theorem pn_c {S S' : Nat → Int32} {i : Nat} (h : S' i = S i) : pn S' i = pn S i := by unfold pn; rw [h]
theorem pn_n {S : Nat → Int32} {i n : Nat} (h : S i = nI n) (hn : n < 2 ^ 31) : pn S i = n := by unfold pn; rw [h, nI_clamp hn]
def V0 (P S : Nat → Int32) : Prop := S 0 = nI (pn S 0) ∧ pn S 0 < cN P
def V1 (S : Nat → Int32) : Prop := S 1 = nI (pn S 1) ∧ 1 ≤ pn S 1 ∧ pn S 1 ≤ 5
def V2 (S : Nat → Int32) : Prop := S 2 = nI (pn S 2) ∧ pn S 2 < 30011
def V3 (P S : Nat → Int32) : Prop := (∀ r, r < 18 → S (4 + r) = nI (sW9 S r)) ∧ (∀ r, sW9 S r ≤ 10) ∧ (∀ x, x < cN P → sm (cM P x) (fun a => sW9 S (x * 3 + a)) = 10 ∧ ∀ a, cM P x ≤ a → a < 3 → sW9 S (x * 3 + a) = 0)
def V4 (P S : Nat → Int32) : Prop := (∀ r, r < 18 → S (22 + r) = nI 0 ∨ S (22 + r) = nI 1) ∧ (∀ x, x < cN P → ∃ a, a < cM P x ∧ S (22 + (x * 3 + a)) = nI 1)
def V5 (S : Nat → Int32) : Prop := ∀ b, b < 3 → S (40 + b) = nI (pn S (40 + b)) ∧ pn S (40 + b) ≤ 9999
def V6 (P S : Nat → Int32) : Prop := S 3 = -1 ∨ (S 3 = nI (pn S 3) ∧ 1 ≤ pn S 3 ∧ pn S 3 ≤ 5 ∧ (∀ t, t ≤ pn S 3 → S (43 + t) = nI (pn S (43 + t)) ∧ pn S (43 + t) < cN P) ∧ ∀ t, t < pn S 3 → S (49 + t) = nI (pn S (49 + t)) ∧ pn S (49 + t) < cM P (pn S (43 + t)))
theorem VS.mk {P S : Nat → Int32} (h0 : V0 P S) (h1 : V1 S) (h2 : V2 S) (h3 : V3 P S) (h4 : V4 P S) (h5 : V5 S) (h6 : V6 P S) : VS P S := ⟨h0, h1, h2, h3.1, h3.2.1, h3.2.2, h4.1, h4.2, h5, h6⟩
theorem VS.v0 {P S : Nat → Int32} (h : VS P S) : V0 P S := h.1
theorem VS.v1 {P S : Nat → Int32} (h : VS P S) : V1 S := h.2.1
theorem VS.v2 {P S : Nat → Int32} (h : VS P S) : V2 S := h.2.2.1
theorem VS.v3 {P S : Nat → Int32} (h : VS P S) : V3 P S := ⟨h.2.2.2.1, h.2.2.2.2.1, h.2.2.2.2.2.1⟩
theorem VS.v4 {P S : Nat → Int32} (h : VS P S) : V4 P S := ⟨h.2.2.2.2.2.2.1, h.2.2.2.2.2.2.2.1⟩
theorem VS.v5 {P S : Nat → Int32} (h : VS P S) : V5 S := h.2.2.2.2.2.2.2.2.1
theorem VS.v6 {P S : Nat → Int32} (h : VS P S) : V6 P S := h.2.2.2.2.2.2.2.2.2
theorem V0.congr {P S S' : Nat → Int32} (h : V0 P S) (e : S' 0 = S 0) : V0 P S' := by
  unfold V0
  rw [pn_c e, e]
  exact h
theorem V1.congr {S S' : Nat → Int32} (h : V1 S) (e : S' 1 = S 1) : V1 S' := by
  unfold V1
  rw [pn_c e, e]
  exact h
theorem V2.congr {S S' : Nat → Int32} (h : V2 S) (e : S' 2 = S 2) : V2 S' := by
  unfold V2
  rw [pn_c e, e]
  exact h
theorem sW_c {S S' : Nat → Int32} (e : ∀ r, r < 18 → S' (4 + r) = S (4 + r)) (r : Nat) : sW9 S' r = sW9 S r := by
  unfold sW9
  by_cases c : r < 18
  · rw [if_pos c, if_pos c, pn_c (e r c)]
  · rw [if_neg c, if_neg c]
theorem V3.congr {P S S' : Nat → Int32} (h : V3 P S) (e : ∀ r, r < 18 → S' (4 + r) = S (4 + r)) : V3 P S' := by
  refine ⟨fun r hr => ?_, fun r => ?_, fun x hx => ?_⟩
  · rw [sW_c e, e r hr]
    exact h.1 r hr
  · rw [sW_c e]
    exact h.2.1 r
  · simp only [sW_c e]
    exact h.2.2 x hx
theorem V4.congr {P S S' : Nat → Int32} (hN : cN P ≤ 6) (hm : ∀ x, cM P x ≤ 3) (h : V4 P S) (e : ∀ r, r < 18 → S' (22 + r) = S (22 + r)) : V4 P S' := by
  refine ⟨fun r hr => ?_, fun x hx => ?_⟩
  · rw [e r hr]
    exact h.1 r hr
  · obtain ⟨a, ha, g⟩ := h.2 x hx
    have := hm x
    exact ⟨a, ha, by rw [e _ (by omega)]; exact g⟩
theorem V5.congr {S S' : Nat → Int32} (h : V5 S) (e : ∀ b, b < 3 → S' (40 + b) = S (40 + b)) : V5 S' := fun b hb => by
  rw [pn_c (e b hb), e b hb]
  exact h b hb
theorem V6.congr {P S S' : Nat → Int32} (h : V6 P S) (e3 : S' 3 = S 3) (e : ∀ i, 43 ≤ i → i < 54 → S' i = S i) : V6 P S' := by
  unfold V6
  rw [e3, pn_c e3]
  rcases h with k | ⟨k1, k2, k3, k4, k5⟩
  · exact Or.inl k
  · refine Or.inr ⟨k1, k2, k3, fun t ht => ?_, fun t ht => ?_⟩
    · rw [pn_c (e (43 + t) (by omega) (by omega)), e (43 + t) (by omega) (by omega)]
      exact k4 t ht
    · rw [pn_c (e (43 + t) (by omega) (by omega)), pn_c (e (49 + t) (by omega) (by omega)), e (49 + t) (by omega) (by omega)]
      exact k5 t ht
/-- what a change leaves of the guards -/
theorem chg_sL {M1 M2 : Mem} {v : Int64} {M : Mem} (h : Has M) (m1 : ∀ o, o ≠ 35 → o ≠ 36 → (o < 38 ∨ 80 ≤ o) → gI M1 o = gI M o ∧ gL M1 o = gL M o ∧ gR M1 o = gR M o) (f2 : fr lC9 M1 M2) : gI (sL M2 124 0 v) 108 1 = nI 1 ∧ gI (sL M2 124 0 v) 112 = gI M 112 ∧ gI (sL M2 124 0 v) 109 = gI M 109 := by
  refine ⟨?_, ?_, ?_⟩
  · rw [gI_sL', f2.I (by decide), (m1 108 (by decide) (by decide) (by decide)).1]
    exact h.1
  · rw [gI_sL', f2.I (by decide), (m1 112 (by decide) (by decide) (by decide)).1]
  · rw [gI_sL', f2.I (by decide), (m1 109 (by decide) (by decide) (by decide)).1]
theorem f4.i {l : List Nat} {M M' : Mem} (h : f4 l M M') {o : Nat} (ho : o ∉ l) (h8 : o ≠ 108) : gI M' o = gI M o := (h.1 o ho h8).1
