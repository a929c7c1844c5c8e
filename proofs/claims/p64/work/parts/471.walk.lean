/-! walk -/
def wkS (s : Nat) : Nat → Nat
  | 0 => s
  | n + 1 => sd (sd (wkS s n))
def wkX (P : Nat → Int32) (W : Nat → Nat) (s x : Nat) : Nat → Nat
  | 0 => x
  | n + 1 => stX P W (wkS s n) (wkX P W s x n)
def wkA (P : Nat → Int32) (W : Nat → Nat) (s x n : Nat) : Nat := stA P W (wkS s n) (wkX P W s x n)
theorem wkS_lt {s : Nat} (h : s < 30011) : ∀ n, wkS s n < 30011
  | 0 => h
  | _ + 1 => sd_lt
theorem wkX_lt {P : Nat → Int32} (hV : VP P) {W : Nat → Nat} (hK : WOK P W) {s x : Nat} (hx : x < cN P) : ∀ n, wkX P W s x n < cN P
  | 0 => hx
  | n + 1 => stX_lt hV hK (wkX_lt hV hK hx n)
theorem wkA_lt {P : Nat → Int32} (hV : VP P) {W : Nat → Nat} (hK : WOK P W) {s x : Nat} (hx : x < cN P) (n : Nat) : wkA P W s x n < cM P (wkX P W s x n) := stA_lt hK (wkX_lt hV hK hx n)
/-- the class's walk at t -/
def WKC (P : Nat → Int32) (W : Nat → Nat) (s x t : Nat) (M M' : Mem) : Prop := fr [14, 15, 104] M M' ∧ gI M' 104 1 = nI (wkS s t) ∧ gI M' 104 2 = nI (wkX P W s x t) ∧ (∀ i, gI M' 14 i = if i ≤ t then nI (wkX P W s x i) else gI M 14 i) ∧ ∀ i, gI M' 15 i = if i < t then nI (wkA P W s x i) else gI M 15 i
theorem walkC_ok {Z : Nat} {M M0 : Mem} {P : Nat → Int32} (hV : VP P) (hc : DC P M) (hZ : 10 < Z) {W : Nat → Nat} (hK : WOK P W) (hW : ∀ r, r < 3 * cN P → gI M 11 r = nI (W r)) {s x H : Nat} (hs : s < 30011) (hx : x < cN P) (hH : H ≤ 5) (h4 : gI M 10 4 = nI H) (h0 : WKC P W s x 0 M M0) (k : Mem → Option (Except Nat Int32 × Mem)) : ∃ Mf, f_X11_walk_L61 Z k Z (nI 0) M0 = k Mf ∧ WKC P W s x H M Mf := by
  have hN := hV.2.1
  have no3 : ∀ o, 3 ≤ o → o ≤ 9 → o ∉ [14, 15, 104] := fun o a b z => by
    simp only [List.mem_cons, List.not_mem_nil, or_false] at z
    omega
  refine lpS (σ := Mem) (fun n t M' => f_X11_walk_L61 Z k n (nI t) M') (fun q => ∃ Mf, q = k Mf ∧ WKC P W s x H M Mf) (fun t M' => WKC P W s x t M M') 0 H (s := M0) (by omega) (by omega) h0 ?_ ?_
  · intro n t M' _ ht hI K
    obtain ⟨g1, g2, g3, g4, g5⟩ := hI
    have hx' := wkX_lt hV hK hx (s := s) t
    rw [f_X11_walk_L61, bd_eq, g1.I (by decide), h4, if_neg (by rw [nI_ile (by omega) (by omega)]; omega)]
    obtain ⟨_, M2, e1, q1, q2, q3, q4⟩ := step_ok (Z := Z) hV (hc.fr g1 no3) hZ hK (fun r hr => by rw [g1.I (by decide)]; exact hW r hr) (wkS_lt hs t) hx' g2 g3
    have no : ∀ {a b : Nat} {p : Prop}, a ≠ b → ¬ (a = b ∧ p) := fun h z => h z.1
    rw [e1, cl_some, bd_eq, q4, wrI_n (by omega) (by decide), bd_eq, gI_sI, if_neg (no (by decide)), q3, i1, nI_add, wrI_n (by omega) (by decide)]
    refine K _ ⟨fr_sI (fr_sI (g1.trans (q1.mono (by decide))) (by decide)) (by decide), ?_, ?_, fun i => ?_, fun i => ?_⟩
    · rw [gI_sI, if_neg (no (by decide)), gI_sI, if_neg (no (by decide))]
      exact q2
    · rw [gI_sI, if_neg (no (by decide)), gI_sI, if_neg (no (by decide))]
      exact q3
    · rw [gI_sI]
      by_cases c : i = t + 1
      · rw [if_pos ⟨rfl, c⟩, if_pos (by omega), c]
        rfl
      · rw [if_neg (fun z => c z.2), gI_sI, if_neg (no (by decide)), q1.I (by decide), g4]
        by_cases d : i ≤ t
        · rw [if_pos d, if_pos (by omega)]
        · rw [if_neg d, if_neg (by omega)]
    · rw [gI_sI, if_neg (no (by decide)), gI_sI]
      by_cases c : i = t
      · rw [if_pos ⟨rfl, c⟩, if_pos (by omega), c]
        rfl
      · rw [if_neg (fun z => c z.2), q1.I (by decide), g5]
        by_cases d : i < t
        · rw [if_pos d, if_pos (by omega)]
        · rw [if_neg d, if_neg (by omega)]
  · intro n M' hI
    refine ⟨M', ?_, hI⟩
    rw [f_X11_walk_L61, bd_eq, hI.1.I (by decide), h4, if_pos (by rw [nI_ile (by omega) (by omega)]; omega)]
/-- the reference's walk at t -/
def WKR (P : Nat → Int32) (W : Nat → Nat) (s x H t : Nat) (M M' : Mem) : Prop := fr [109] M M' ∧ (∀ i, i ≠ 2 → i ≠ 3 → (i < 43 ∨ 54 ≤ i) → gI M' 109 i = gI M 109 i) ∧ gI M' 109 2 = nI (wkS s t) ∧ gI M' 109 3 = nI H ∧ (∀ i, i < 6 → gI M' 109 (43 + i) = if i ≤ t then nI (wkX P W s x i) else gI M 109 (43 + i)) ∧ ∀ i, i < 5 → gI M' 109 (49 + i) = if i < t then nI (wkA P W s x i) else gI M 109 (49 + i)
theorem WKR.wk {P : Nat → Int32} {W : Nat → Nat} {s x H : Nat} {M M' : Mem} (h : WKR P W s x H H M M') (hV : VP P) (hK : WOK P W) (hx : x < cN P) (h1 : 1 ≤ H) (hH : H ≤ 5) : WK P (gI M' 109) H := by
  have hN := hV.2.1
  have eX : ∀ t, t ≤ H → gI M' 109 (43 + t) = nI (wkX P W s x t) := fun t ht => by rw [h.2.2.2.2.1 t (by omega), if_pos ht]
  have eA : ∀ t, t < H → gI M' 109 (49 + t) = nI (wkA P W s x t) := fun t ht => by rw [h.2.2.2.2.2 t (by omega), if_pos ht]
  refine ⟨h.2.2.2.1, h1, hH, fun t ht => ?_, fun t ht => ?_⟩
  · have hx' := wkX_lt hV hK hx (s := s) t
    rw [pn_n (eX t ht) (by omega)]
    exact ⟨eX t ht, hx'⟩
  · have hx' := wkX_lt hV hK hx (s := s) t
    have ha' := wkA_lt hV hK hx (s := s) t
    have hm := hV.2.2.1 (wkX P W s x t)
    rw [pn_n (eX t (by omega)) (by omega), pn_n (eA t ht) (by omega)]
    exact ⟨eA t ht, ha'⟩
theorem WK.v6 {P S : Nat → Int32} {n : Nat} (h : WK P S n) : V6 P S := by
  obtain ⟨h1, h2, h3, h4, h5⟩ := h
  unfold V6
  rw [pn_n h1 (by omega)]
  exact Or.inr ⟨h1, h2, h3, h4, h5⟩
