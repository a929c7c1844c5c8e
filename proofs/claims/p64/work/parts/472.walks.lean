/-! what the reference tries and takes back -/
def kt (M M' : Mem) : Prop := (∀ o, o ∉ scrL → o ≠ 108 → o ∉ [96, 97, 98, 109, 110] → gI M' o = gI M o ∧ gL M' o = gL M o ∧ gR M' o = gR M o) ∧ (∀ k, k = 1 ∨ k = 4 ∨ k = 9 ∨ k = 10 ∨ k = 11 ∨ k = 31 → gI M' 108 k = gI M 108 k) ∧ (∀ i, i < 54 → gI M' 109 i = gI M 109 i) ∧ ∀ j, 54 ≤ j → gI M' 110 j = gI M 110 j
theorem now_t : ∀ i, i < 6 → 10 + i ∉ [96, 97, 98, 109, 110] := by decide
theorem rot_t : ∀ j, j < 7 → ∀ i, i < 6 → 38 + 6 * j + i ∉ [96, 97, 98, 109, 110] := by decide
theorem slot_t : ∀ j, j < 2 → ∀ i, i < 6 → 80 + 6 * j + i ∉ [96, 97, 98, 109, 110] := by decide
theorem hasKt {M M' : Mem} (h : Has M) (hk : kt M M') (hc : Cache (gI M 112) M') : Has M' := by
  have hN := h.N
  have hz := h.z
  obtain ⟨h1, h2, h3, h4, h5, h6, ⟨rot, r1, r2, r3⟩, ⟨q, q1, q2, q3⟩, h9⟩ := h
  obtain ⟨k1, k2, k3, k5⟩ := hk
  have e112 := (k1 112 (by decide) (by decide) (by decide)).1
  have e35 := (k1 35 (by decide) (by decide) (by decide)).1
  have e111 := (k1 111 (by decide) (by decide) (by decide)).1
  have e36 := (k1 36 (by decide) (by decide) (by decide)).2.2
  have k4 := k2 4 (by decide)
  have p4 : pn (gI M' 108) 4 = pn (gI M 108) 4 := by unfold pn; rw [k4]
  refine ⟨by rw [k2 1 (by decide)]; exact h1, by rw [e112]; exact h2, ?_, by rw [e112]; exact h4.congr hN.2 hz.2.1 k3, by rw [e112]; exact (h5.same (fun i hi => (k1 _ (now_ok i hi).1 (now_ok i hi).2 (now_t i hi)).1)).congr hN.2 hz.2.1 k3, ?_, ⟨rot, r1, by rw [e36]; exact r2, ?_⟩, ⟨q, q1, by rw [e35]; exact q2, ?_⟩, ?_⟩
  · rw [e112]
    exact h3.same (fun o a b => (k1 o (by have : ∀ o, o < 10 → o ∉ scrL := by decide
                                          exact this o (by omega)) (by omega) (by simp; omega)).1)
  · rw [e35, k4, p4]
    exact h6
  · rw [p4, e112]
    intro k hk9
    obtain ⟨a, b⟩ := r3 k hk9
    have m7 := Nat.mod_lt (rot + k) (show 0 < 7 by decide)
    have e : ∀ i, i < 54 → gI M' 110 (54 * (1 + k) + i) = gI M 110 (54 * (1 + k) + i) := fun i _ => k5 _ (by omega)
    exact ⟨a.congr hN.2 hz.2.1 e, (b.same (fun i hi => (k1 _ (rot_ok _ m7 i hi).1 (rot_ok _ m7 i hi).2 (rot_t _ m7 i hi)).1)).congr hN.2 hz.2.1 e⟩
  · rw [e111, e112]
    intro z hz2
    obtain ⟨a, b⟩ := q3 z hz2
    have e : ∀ i, i < 54 → gI M' 110 (54 * (8 + z) + i) = gI M 110 (54 * (8 + z) + i) := fun i _ => k5 _ (by omega)
    exact ⟨a, fun y => ⟨(b y).1.congr hN.2 hz.2.1 e, ((b y).2.same (fun i hi => (k1 _ (slot_ok z hz2 i hi).1 (slot_ok z hz2 i hi).2 (slot_t z hz2 i hi)).1)).congr hN.2 hz.2.1 e⟩⟩
  · rw [e112]
    exact hc
theorem invKt {M M' : Mem} (hI : Inv M) (h : Has M) (hk : kt M M') (hc : Cache (gI M 112) M') : Inv M' := by
  have hh := hasKt h hk hc
  obtain ⟨h1, h2, h3, h4, h5, _⟩ := hI
  obtain ⟨k1, k2, k3, k5⟩ := hk
  have k9 := k2 9 (by decide)
  have k31 := k2 31 (by decide)
  have p9 : pn (gI M' 108) 9 = pn (gI M 108) 9 := by unfold pn; rw [k9]
  have p31 : pn (gI M' 108) 31 = pn (gI M 108) 31 := by unfold pn; rw [k31]
  refine ⟨?_, ?_, ?_, ?_, ?_, Or.inr hh⟩
  · rw [k9, p9, (k1 1 (by decide) (by decide) (by decide)).1, (k1 2 (by decide) (by decide) (by decide)).1, (k1 114 (by decide) (by decide) (by decide)).1]
    exact h1
  · rw [k2 10 (by decide), k2 11 (by decide), (k1 21 (by decide) (by decide) (by decide)).1]
    exact h2
  · rw [k31, p31, (k1 105 (by decide) (by decide) (by decide)).1, (k1 106 (by decide) (by decide) (by decide)).1, (k1 123 (by decide) (by decide) (by decide)).1]
    exact h3
  · rw [(k1 37 (by decide) (by decide) (by decide)).2.2]
    exact h4
  · rw [(k1 92 (by decide) (by decide) (by decide)).2.2, (k1 33 (by decide) (by decide) (by decide)).1, (k1 34 (by decide) (by decide) (by decide)).1]
    exact h5
/-! gainOfWalks -/
def wkG (P : Nat → Int32) (W : Nat → Nat) (s x H : Nat) : Int32 := smI H (fun t => P (14 + (wkX P W s x t * 3 + wkA P W s x t)))
def wkN (s H : Nat) : Nat → Nat
  | 0 => s
  | n + 1 => wkS (wkN s H n) H
theorem wkN_lt {s H : Nat} (h : s < 30011) : ∀ n, wkN s H n < 30011
  | 0 => h
  | n + 1 => wkS_lt (wkN_lt h n) H
theorem smI_congr {f g : Nat → Int32} {n : Nat} (h : ∀ t, t < n → f t = g t) : smI n f = smI n g := by
  induction n with
  | zero => rfl
  | succ n ih =>
    show smI n f + f n = smI n g + g n
    rw [ih (fun t ht => h t (by omega)), h n (by omega)]
theorem gainOfNext_ok {Z : Nat} {M : Mem} {P : Nat → Int32} (hV : VP P) (hc : DC P M) (hg : ∀ r, r < 18 → gI M 5 r = P (14 + r)) (hZ : 10 < Z) {W : Nat → Nat} (hK : WOK P W) (hW : ∀ r, r < 3 * cN P → gI M 11 r = nI (W r)) {s x H : Nat} (hs : s < 30011) (hx : x < cN P) (hH : H ≤ 5) (h3 : gI M 10 3 = nI x) (h4 : gI M 10 4 = nI H) (h1 : gI M 104 1 = nI s) : ∃ M', f_X10_gainOfNext Z M = some (wkG P W s x H, M') ∧ fr [104] M M' ∧ gI M' 104 1 = nI (wkS s H) := by
  have hN := hV.2.1
  have no3 : ∀ o, 3 ≤ o → o ≤ 9 → o ∉ [104] := fun o a b z => by
    have := List.mem_singleton.mp z
    omega
  unfold f_X10_gainOfNext
  rw [bd_eq, h3, bd_eq, i0]
  refine lpS (σ := Mem) (fun n t M' => f_X10_gainOfNext_L12 Z n (smI t (fun t => P (14 + (wkX P W s x t * 3 + wkA P W s x t)))) (nI t) M') (fun q => ∃ M', q = some (wkG P W s x H, M') ∧ fr [104] M M' ∧ gI M' 104 1 = nI (wkS s H)) (fun t M' => fr [104] M M' ∧ gI M' 104 1 = nI (wkS s t) ∧ gI M' 104 2 = nI (wkX P W s x t)) 0 H (by omega) (by omega) ⟨fr_sI fr.rfl (by decide), by rw [gI_sI, if_neg (by decide)]; exact h1, by rw [gI_sI, if_pos ⟨rfl, rfl⟩]; rfl⟩ ?_ ?_
  · intro n t M' _ ht hI K
    obtain ⟨g1, g2, g3⟩ := hI
    have hx' := wkX_lt hV hK hx (s := s) t
    have ha' := wkA_lt hV hK hx (s := s) t
    have hm := hV.2.2.1 (wkX P W s x t)
    obtain ⟨_, M2, e1, q1, q2, q3, q4⟩ := step_ok (Z := Z) hV (hc.fr g1 no3) hZ hK (fun r hr => by rw [g1.I (by decide)]; exact hW r hr) (wkS_lt hs t) hx' g2 g3
    have q4' : gI M2 104 3 = nI (wkA P W s x t) := q4
    have K1 := K M2 ⟨g1.trans q1, q2, q3⟩
    rw [f_X10_gainOfNext_L12, bd_eq, g1.I (by decide), h4, if_neg (by rw [nI_ile (by omega) (by omega)]; omega), bd_eq, g3, e1, cl_some, bd_eq, q4', rowOf_eq, cl_some, rdI_n (by omega) (by decide), (g1.trans q1).I (by decide), hg _ (by omega), i1, nI_add]
    exact K1
  · intro n M' hI
    rw [f_X10_gainOfNext_L12, bd_eq, hI.1.I (by decide), h4, if_pos (by rw [nI_ile (by omega) (by omega)]; omega)]
    exact ⟨M', rfl, hI.1, hI.2.1⟩
