/-! draws -/
theorem nI_div {a b : Nat} (ha : a < 2 ^ 31) (hb : b < 2 ^ 31) : nI a / nI b = nI (a / b) := by
  apply Int32.toInt_inj.mp
  have h1 : a / b ≤ a := Nat.div_le_self a b
  rw [Int32.toInt_div, nI_toInt ha, nI_toInt hb, nI_toInt (by omega), ← Int.ofNat_tdiv]
  generalize a / b = c at h1
  exact Int.bmod_eq_of_le (by omega) (by omega)
theorem nI_mod {a b : Nat} (ha : a < 2 ^ 31) (hb : b < 2 ^ 31) : nI a - nI a / nI b * nI b = nI (a % b) := by
  have h1 : a / b * b ≤ a := Nat.div_mul_le_self a b
  have h2 : a % b = a - a / b * b := by
    have := Nat.div_add_mod a b
    rw [Nat.mul_comm] at this
    omega
  rw [nI_div ha hb, nI_mul, nI_sub h1, h2]
def sd (s : Nat) : Nat := (s * 109 + 1021) % 30011
theorem sd_lt {s : Nat} : sd s < 30011 := Nat.mod_lt _ (by decide)
theorem sd_I {s : Nat} (h : s < 30011) : ((nI s * (109 : Int32)) + (1021 : Int32)) - ((nI s * (109 : Int32)) + (1021 : Int32)) / (30011 : Int32) * (30011 : Int32) = nI (sd s) := by
  rw [show (109 : Int32) = nI 109 from rfl, show (1021 : Int32) = nI 1021 from rfl, show (30011 : Int32) = nI 30011 from rfl, nI_mul, nI_add, nI_mod (by omega) (by decide)]
  rfl
theorem nzI_n {β : Type} {y : Int32} {k : Option β} (h : ¬ y = 0) : nzI y k = k := if_neg h
/-- the action, the next state that a draw gives -/
def pa (P : Nat → Int32) (W : Nat → Nat) (x d : Nat) : Nat := fi (fun a => decide (d < sm (a + 1) (fun a => W (x * 3 + a)))) (cM P x)
def pj (P : Nat → Int32) (r d : Nat) : Nat := fi (fun k => decide (d < sm (k + 1) (fun k => cP P r (cO P r k)))) (cT P r)
def ps (P : Nat → Int32) (r d : Nat) : Nat := cO P r (pj P r d)
theorem sm_mono {f : Nat → Nat} {n k : Nat} (h : k ≤ n) : sm k f ≤ sm n f := by
  induction n with
  | zero => rw [show k = 0 by omega]; exact Nat.le_refl _
  | succ n ih =>
    by_cases c : k = n + 1
    · rw [c]; exact Nat.le_refl _
    · have h2 := ih (by omega)
      show sm k f ≤ sm n f + f n
      omega
theorem VP.o {P : Nat → Int32} (h : VP P) {r k : Nat} (hr : r < 18) (hk : k < 6) : P (212 + r * 6 + k) = nI (cO P r k) := by
  rw [h.at (by omega) (by omega), cO, if_pos ⟨hr, hk⟩]
theorem VP.t {P : Nat → Int32} (h : VP P) {r : Nat} (hr : r < 18) : P (194 + r) = nI (cT P r) := by
  rw [h.at (by omega) (by omega), cT, if_pos hr]
/-- class: the chain's rows, as the draws read them -/
def DC (P : Nat → Int32) (M : Mem) : Prop := ChC M (cN P) (cM P) (cP P) ∧ (∀ r, r < 18 → gI M 9 r = nI (cT P r)) ∧ ∀ r, r < 18 → ∀ k, k < cT P r → k < 6 → gI M 8 (r * 6 + k) = nI (cO P r k)
theorem Has.dc {M : Mem} (h : Has M) : DC (gI M 112) M := by
  refine ⟨h.c, fun r hr => ?_, fun r hr k hk hk6 => ?_⟩
  · rw [show (9 : Nat) = 3 + 6 from rfl, h.2.2.1.2.2.2.2.2.2.1 r hr]
    exact h.2.1.t hr
  · rw [show (8 : Nat) = 3 + 5 from rfl, h.2.2.1.2.2.2.2.2.2.2 r hr k hk]
    exact h.2.1.o hr hk6
theorem DC.fr {P : Nat → Int32} {l : List Nat} {M M' : Mem} (h : DC P M) (hf : fr l M M') (h3 : ∀ o, 3 ≤ o → o ≤ 9 → o ∉ l) : DC P M' := by
  refine ⟨h.1.fr hf (h3 3 (by decide) (by decide)) (h3 4 (by decide) (by decide)) (h3 7 (by decide) (by decide)), ?_, ?_⟩
  · rw [hf.I (h3 9 (by decide) (by decide))]
    exact h.2.1
  · rw [hf.I (h3 8 (by decide) (by decide))]
    exact h.2.2
theorem draw_eq {Z : Nat} {M : Mem} {s : Nat} (h : gI M 104 1 = nI s) (hs : s < 30011) : f_X10_draw Z M = some (nI (sd s), sI M 104 1 (nI (sd s))) := by
  unfold f_X10_draw
  rw [bd_eq, h, nzI_n (by decide), sd_I hs, bd_eq, bd_eq, gI_sI, if_pos ⟨rfl, rfl⟩]
/-- a step: the action, the next state, the seed behind it -/
def stA (P : Nat → Int32) (W : Nat → Nat) (s x : Nat) : Nat := pa P W x (sd s % 10)
def stX (P : Nat → Int32) (W : Nat → Nat) (s x : Nat) : Nat := ps P (x * 3 + stA P W s x) (sd (sd s) % 100)
