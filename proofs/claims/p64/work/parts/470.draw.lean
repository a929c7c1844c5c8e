/-! draws -/
theorem nI_div {a b : Nat} (ha : a < 2 ^ 31) (hb : b < 2 ^ 31) : nI a / nI b = nI (a / b) := by
  apply Int32.toInt_inj.mp
  have h1 : a / b ≤ a := Nat.div_le_self a b
  rw [Int32.toInt_div, nI_toInt ha, nI_toInt hb, nI_toInt (by omega), ← Int.ofNat_tdiv]
  generalize a / b = c at h1
  exact Int.bmod_eq_of_le (by omega) (by omega)
theorem nI_mod {a b : Nat} (ha : a < 2 ^ 31) (hb : b < 2 ^ 31) : nI a - nI a / nI b * nI b = nI (a % b) := by
  have h1 : a / b * b ≤ a := Nat.div_mul_le_self a b
  have h2 : a % b = a - a / b * b := by
    have := Nat.div_add_mod a b
    rw [Nat.mul_comm] at this
    omega
  rw [nI_div ha hb, nI_mul, nI_sub h1, h2]
def sd (s : Nat) : Nat := (s * 109 + 1021) % 30011
theorem sd_lt {s : Nat} : sd s < 30011 := Nat.mod_lt _ (by decide)
theorem sd_I {s : Nat} (h : s < 30011) : ((nI s * (109 : Int32)) + (1021 : Int32)) - ((nI s * (109 : Int32)) + (1021 : Int32)) / (30011 : Int32) * (30011 : Int32) = nI (sd s) := by
  rw [show (109 : Int32) = nI 109 from rfl, show (1021 : Int32) = nI 1021 from rfl, show (30011 : Int32) = nI 30011 from rfl, nI_mul, nI_add, nI_mod (by omega) (by decide)]
  rfl
theorem nzI_n {β : Type} {y : Int32} {k : Option β} (h : ¬ y = 0) : nzI y k = k := if_neg h
/-- the action, the next state that a draw gives -/
def pa (P : Nat → Int32) (W : Nat → Nat) (x d : Nat) : Nat := fi (fun a => decide (d < sm (a + 1) (fun a => W (x * 3 + a)))) (cM P x)
def pj (P : Nat → Int32) (r d : Nat) : Nat := fi (fun k => decide (d < sm (k + 1) (fun k => cP P r (cO P r k)))) (cT P r)
def ps (P : Nat → Int32) (r d : Nat) : Nat := cO P r (pj P r d)
theorem pa_ok {P : Nat → Int32} {W : Nat → Nat} (hK : WOK P W) {x d : Nat} (hx : x < cN P) (hd : d < 10) : pa P W x d < cM P x ∧ d < sm (pa P W x d + 1) (fun a => W (x * 3 + a)) ∧ ∀ k, k < pa P W x d → sm (k + 1) (fun a => W (x * 3 + a)) ≤ d := by
  have hs := hK.2 x hx
  have h0 : cM P x ≠ 0 := fun z => by
    rw [z] at hs
    exact absurd (show (0 : Nat) = 10 from hs) (by decide)
  have hlt : pa P W x d < cM P x := fi_lt (y := cM P x - 1) (by omega) (decide_eq_true (by rw [show cM P x - 1 + 1 = cM P x by omega, hs]; exact hd))
  refine ⟨hlt, of_decide_eq_true (fi_at (f := fun a => decide (d < sm (a + 1) (fun a => W (x * 3 + a)))) (cM P x) hlt), fun k hk => ?_⟩
  have := of_decide_eq_false (fi_min (f := fun a => decide (d < sm (a + 1) (fun a => W (x * 3 + a)))) (cM P x) k hk)
  omega
theorem pj_ok {P : Nat → Int32} (hV : VP P) {x a d : Nat} (hx : x < cN P) (ha : a < cM P x) (hd : d < 100) : pj P (x * 3 + a) d < cT P (x * 3 + a) ∧ d < sm (pj P (x * 3 + a) d + 1) (fun k => cP P (x * 3 + a) (cO P (x * 3 + a) k)) ∧ ∀ k, k < pj P (x * 3 + a) d → sm (k + 1) (fun k => cP P (x * 3 + a) (cO P (x * 3 + a) k)) ≤ d := by
  have hs := (hV.2.2.2.2.2.2.2 x hx a ha).2.2.2
  have h0 : cT P (x * 3 + a) ≠ 0 := fun z => by
    rw [z] at hs
    exact absurd (show (0 : Nat) = 100 from hs) (by decide)
  have hlt : pj P (x * 3 + a) d < cT P (x * 3 + a) := fi_lt (y := cT P (x * 3 + a) - 1) (by omega) (decide_eq_true (by rw [show cT P (x * 3 + a) - 1 + 1 = cT P (x * 3 + a) by omega, hs]; exact hd))
  refine ⟨hlt, of_decide_eq_true (fi_at (f := fun k => decide (d < sm (k + 1) (fun k => cP P (x * 3 + a) (cO P (x * 3 + a) k)))) (cT P (x * 3 + a)) hlt), fun k hk => ?_⟩
  have := of_decide_eq_false (fi_min (f := fun k => decide (d < sm (k + 1) (fun k => cP P (x * 3 + a) (cO P (x * 3 + a) k)))) (cT P (x * 3 + a)) k hk)
  omega
theorem ps_lt {P : Nat → Int32} (hV : VP P) {x a d : Nat} (hx : x < cN P) (ha : a < cM P x) (hd : d < 100) : ps P (x * 3 + a) d < cN P := (hV.2.2.2.2.2.2.2 x hx a ha).2.2.1 _ (pj_ok hV hx ha hd).1
theorem sm_mono {f : Nat → Nat} {n k : Nat} (h : k ≤ n) : sm k f ≤ sm n f := by
  induction n with
  | zero => rw [show k = 0 by omega]; exact Nat.le_refl _
  | succ n ih =>
    by_cases c : k = n + 1
    · rw [c]; exact Nat.le_refl _
    · have h2 := ih (by omega)
      show sm k f ≤ sm n f + f n
      omega
theorem VP.o {P : Nat → Int32} (h : VP P) {r k : Nat} (hr : r < 18) (hk : k < 6) : P (212 + r * 6 + k) = nI (cO P r k) := by
  rw [h.at (by omega) (by omega), cO, if_pos ⟨hr, hk⟩]
theorem VP.t {P : Nat → Int32} (h : VP P) {r : Nat} (hr : r < 18) : P (194 + r) = nI (cT P r) := by
  rw [h.at (by omega) (by omega), cT, if_pos hr]
/-- class: the chain's rows, as the draws read them -/
def DC (P : Nat → Int32) (M : Mem) : Prop := ChC M (cN P) (cM P) (cP P) ∧ (∀ r, r < 18 → gI M 9 r = nI (cT P r)) ∧ ∀ r, r < 18 → ∀ k, k < cT P r → k < 6 → gI M 8 (r * 6 + k) = nI (cO P r k)
theorem Has.dc {M : Mem} (h : Has M) : DC (gI M 112) M := by
  refine ⟨h.c, fun r hr => ?_, fun r hr k hk hk6 => ?_⟩
  · rw [show (9 : Nat) = 3 + 6 from rfl, h.2.2.1.2.2.2.2.2.2.1 r hr]
    exact h.2.1.t hr
  · rw [show (8 : Nat) = 3 + 5 from rfl, h.2.2.1.2.2.2.2.2.2.2 r hr k hk]
    exact h.2.1.o hr hk6
theorem DC.fr {P : Nat → Int32} {l : List Nat} {M M' : Mem} (h : DC P M) (hf : fr l M M') (h3 : ∀ o, 3 ≤ o → o ≤ 9 → o ∉ l) : DC P M' := by
  refine ⟨h.1.fr hf (h3 3 (by decide) (by decide)) (h3 4 (by decide) (by decide)) (h3 7 (by decide) (by decide)), ?_, ?_⟩
  · rw [hf.I (h3 9 (by decide) (by decide))]
    exact h.2.1
  · rw [hf.I (h3 8 (by decide) (by decide))]
    exact h.2.2
theorem draw_eq {Z : Nat} {M : Mem} {s : Nat} (h : gI M 104 1 = nI s) (hs : s < 30011) : f_X10_draw Z M = some (nI (sd s), sI M 104 1 (nI (sd s))) := by
  unfold f_X10_draw
  rw [bd_eq, h, nzI_n (by decide), sd_I hs, bd_eq, bd_eq, gI_sI, if_pos ⟨rfl, rfl⟩]
theorem drawAction_eq {Z : Nat} {M : Mem} {P : Nat → Int32} (hV : VP P) (hc : DC P M) (hZ : 10 < Z) {W : Nat → Nat} (hK : WOK P W) (hW : ∀ r, r < 3 * cN P → gI M 11 r = nI (W r)) {x d : Nat} (hx : x < cN P) (h2 : gI M 104 2 = nI x) (hd : d < 10) : f_X10_drawAction Z M (nI d) = some (nI (pa P W x d), M) := by
  have hN := hV.2.1
  have hm := hV.sz.2.1 x
  obtain ⟨a1, a2, a3⟩ := pa_ok hK hx hd
  have hb : ∀ k, k ≤ cM P x → sm k (fun a => W (x * 3 + a)) ≤ 10 := fun k hk => by
    rw [← hK.2 x hx]
    exact sm_mono hk
  unfold f_X10_drawAction
  rw [i0]
  refine lpS (σ := Unit) (fun n k _ => f_X10_drawAction_L5 Z (nI d) n (nI (sm k (fun a => W (x * 3 + a)))) (nI k) M) (fun z => z = some (nI (pa P W x d), M)) (fun _ _ => True) 0 (pa P W x d) (s := ()) (by omega) (by omega) trivial ?_ ?_
  · intro n k _ _ hk _ K
    have K1 := K () trivial
    have h3 := a3 k hk
    have h4 := hb k (by omega)
    have hw := hK.1 (x * 3 + k)
    have e9 : sm (k + 1) (fun a => W (x * 3 + a)) = sm k (fun a => W (x * 3 + a)) + W (x * 3 + k) := rfl
    rw [e9] at K1 h3
    rw [f_X10_drawAction_L5, bd_eq, h2]
    simp (disch := omega) only [rdI_n, hc.1.2.1 x (by omega), if_neg (show ¬ cM P x ≤ k by omega), nI_ile, bd_eq, rowOf_eq, cl_some, hW (x * 3 + k) (by omega), nI_add, if_pos h3, i1]
    exact K1
  · intro n _ _
    have e9 : sm (pa P W x d + 1) (fun a => W (x * 3 + a)) = sm (pa P W x d) (fun a => W (x * 3 + a)) + W (x * 3 + pa P W x d) := rfl
    have h4 := hb (pa P W x d) (by omega)
    have hw := hK.1 (x * 3 + pa P W x d)
    rw [e9] at a2
    rw [f_X10_drawAction_L5, bd_eq, h2]
    simp (disch := omega) only [rdI_n, hc.1.2.1 x (by omega), if_neg (show ¬ cM P x ≤ pa P W x d by omega), nI_ile, bd_eq, rowOf_eq, cl_some, hW (x * 3 + pa P W x d) (by omega), nI_add, if_neg (show ¬ sm (pa P W x d) (fun a => W (x * 3 + a)) + W (x * 3 + pa P W x d) ≤ d by omega)]
theorem drawNext_eq {Z : Nat} {M : Mem} {P : Nat → Int32} (hV : VP P) (hc : DC P M) (hZ : 10 < Z) {x a d : Nat} (hx : x < cN P) (ha : a < cM P x) (hd : d < 100) : f_X10_drawNext Z M (nI (x * 3 + a)) (nI d) = some (nI (ps P (x * 3 + a) d), M) := by
  have hN := hV.2.1
  have hm := hV.sz.2.1 x
  obtain ⟨v1, v2, v3, v4⟩ := hV.2.2.2.2.2.2.2 x hx a ha
  obtain ⟨a1, a2, a3⟩ := pj_ok hV hx ha hd
  unfold ps
  generalize hr : x * 3 + a = r at *
  have hr18 : r < 18 := by omega
  have hb : ∀ k, k ≤ cT P r → sm k (fun k => cP P r (cO P r k)) ≤ 100 := fun k hk => by
    rw [← v4]
    exact sm_mono hk
  unfold f_X10_drawNext
  rw [i0]
  refine lpS (σ := Unit) (fun n k _ => f_X10_drawNext_L5 Z (nI r) (nI d) n (nI (sm k (fun k => cP P r (cO P r k)))) (nI k) M) (fun z => z = some (nI (cO P r (pj P r d)), M)) (fun _ _ => True) 0 (pj P r d) (s := ()) (by omega) (by omega) trivial ?_ ?_
  · intro n k _ _ hk _ K
    have K1 := K () trivial
    have h3 := a3 k hk
    have h4 := hb k (by omega)
    have ho := v3 k (by omega)
    have hp := hV.2.2.2.2.2.2.1 r (cO P r k)
    have e9 : sm (k + 1) (fun k => cP P r (cO P r k)) = sm k (fun k => cP P r (cO P r k)) + cP P r (cO P r k) := rfl
    rw [e9] at K1 h3
    rw [f_X10_drawNext_L5]
    simp (disch := omega) only [rdI_n, hc.2.1 r hr18, if_neg (show ¬ cT P r ≤ k by omega), nI_ile, i6, nI_mul, nI_add, hc.2.2 r hr18 k (by omega) (by omega), percentTo_eq hc.1 hr18 (show cO P r k < 6 by omega), cl_some, if_pos h3, i1]
    exact K1
  · intro n _ _
    have e9 : sm (pj P r d + 1) (fun k => cP P r (cO P r k)) = sm (pj P r d) (fun k => cP P r (cO P r k)) + cP P r (cO P r (pj P r d)) := rfl
    have h4 := hb (pj P r d) (by omega)
    have ho := v3 (pj P r d) (by omega)
    have hp := hV.2.2.2.2.2.2.1 r (cO P r (pj P r d))
    rw [e9] at a2
    rw [f_X10_drawNext_L5]
    simp (disch := omega) only [rdI_n, hc.2.1 r hr18, if_neg (show ¬ cT P r ≤ pj P r d by omega), nI_ile, i6, nI_mul, nI_add, hc.2.2 r hr18 _ a1 (by omega), percentTo_eq hc.1 hr18 (show cO P r (pj P r d) < 6 by omega), cl_some, if_neg (show ¬ sm (pj P r d) (fun k => cP P r (cO P r k)) + cP P r (cO P r (pj P r d)) ≤ d by omega)]
/-- a step: the action, the next state, the seed behind it -/
def stA (P : Nat → Int32) (W : Nat → Nat) (s x : Nat) : Nat := pa P W x (sd s % 10)
def stX (P : Nat → Int32) (W : Nat → Nat) (s x : Nat) : Nat := ps P (x * 3 + stA P W s x) (sd (sd s) % 100)
theorem stA_lt {P : Nat → Int32} {W : Nat → Nat} (hK : WOK P W) {s x : Nat} (hx : x < cN P) : stA P W s x < cM P x := (pa_ok hK hx (Nat.mod_lt _ (by decide))).1
theorem stX_lt {P : Nat → Int32} (hV : VP P) {W : Nat → Nat} (hK : WOK P W) {s x : Nat} (hx : x < cN P) : stX P W s x < cN P := ps_lt hV hx (stA_lt hK hx) (Nat.mod_lt _ (by decide))
theorem step_ok {Z : Nat} {M : Mem} {P : Nat → Int32} (hV : VP P) (hc : DC P M) (hZ : 10 < Z) {W : Nat → Nat} (hK : WOK P W) (hW : ∀ r, r < 3 * cN P → gI M 11 r = nI (W r)) {s x : Nat} (hs : s < 30011) (hx : x < cN P) (h1 : gI M 104 1 = nI s) (h2 : gI M 104 2 = nI x) : OK (f_X10_step Z M) (fun _ M' => fr [104] M M' ∧ gI M' 104 1 = nI (sd (sd s)) ∧ gI M' 104 2 = nI (stX P W s x) ∧ gI M' 104 3 = nI (stA P W s x)) := by
  have hN := hV.2.1
  have hm := hV.sz.2.1 x
  have s1 := sd_lt (s := s)
  have s2 := sd_lt (s := sd s)
  have no3 : ∀ o, 3 ≤ o → o ≤ 9 → o ∉ [104] := fun o a b z => by
    have := List.mem_singleton.mp z
    omega
  have ha := stA_lt hK (s := s) hx
  unfold f_X10_step
  rw [draw_eq h1 hs, cl_some, nzI_n (by decide), show (10 : Int32) = nI 10 from rfl, nI_mod (by omega) (by decide)]
  have fA : fr [104] M (sI M 104 1 (nI (sd s))) := fr_sI fr.rfl List.mem_cons_self
  rw [drawAction_eq hV (hc.fr fA no3) hZ hK (fun r hr => by rw [fA.I (by decide)]; exact hW r hr) hx (by rw [gI_sI, if_neg (by decide)]; exact h2) (Nat.mod_lt _ (by decide)), cl_some]
  show OK (bd (sI (sI M 104 1 (nI (sd s))) 104 3 (nI (stA P W s x))) _) _
  generalize hM2 : sI (sI M 104 1 (nI (sd s))) 104 3 (nI (stA P W s x)) = M2
  have fB : fr [104] M M2 := by rw [← hM2]; exact fr_sI fA List.mem_cons_self
  have g1 : gI M2 104 1 = nI (sd s) := by rw [← hM2, gI_sI, if_neg (by decide), gI_sI, if_pos ⟨rfl, rfl⟩]
  have g2 : gI M2 104 2 = nI x := by rw [← hM2, gI_sI, if_neg (by decide), gI_sI, if_neg (by decide)]; exact h2
  have g3 : gI M2 104 3 = nI (stA P W s x) := by rw [← hM2, gI_sI, if_pos ⟨rfl, rfl⟩]
  rw [bd_eq, bd_eq, bd_eq, g2, g3, rowOf_eq, cl_some, draw_eq g1 s1, cl_some, nzI_n (by decide), show (100 : Int32) = nI 100 from rfl, nI_mod (by omega) (by decide)]
  have fC : fr [104] M (sI M2 104 1 (nI (sd (sd s)))) := fr_sI fB List.mem_cons_self
  rw [drawNext_eq hV (hc.fr fC no3) hZ hx ha (Nat.mod_lt _ (by decide)), cl_some, bd_eq]
  refine OK.ret ⟨fr_sI fC List.mem_cons_self, ?_, ?_, ?_⟩
  · rw [gI_sI, if_neg (by decide), gI_sI, if_pos ⟨rfl, rfl⟩]
  · rw [gI_sI, if_pos ⟨rfl, rfl⟩]
    rfl
  · rw [gI_sI, if_neg (by decide), gI_sI, if_neg (by decide)]
    exact g3
