/-! the report: texts -/
theorem lN_div {a b : Nat} (ha : a < 2 ^ 63) (hb : b < 2 ^ 63) : lN a / lN b = lN (a / b) := by
  apply Int64.toInt_inj.mp
  have h1 : a / b ≤ a := Nat.div_le_self a b
  rw [Int64.toInt_div, lN_toI ha, lN_toI hb, lN_toI (by omega), ← Int.ofNat_tdiv]
  generalize a / b = c at h1
  exact Int.bmod_eq_of_le (by omega) (by omega)
theorem lN_mod10 {a : Nat} (ha : a < 2 ^ 63) : lN a - lN a / (10 : Int64) * (10 : Int64) = lN (a % 10) := by
  rw [show (10 : Int64) = lN 10 from rfl, lN_div ha (by decide), lN_mul, lN_sub (by omega), show a - a / 10 * 10 = a % 10 by omega]
theorem lN_to32 {a : Nat} : (lN a).toInt32 = nI a := Int64.toInt32_ofNat'
theorem nzL10 {β : Type} {k : Option β} : nzL (10 : Int64) k = k := if_neg (by decide)
theorem nzL_n {β : Type} {a : Nat} {k : Option β} (h1 : 0 < a) (h2 : a < 2 ^ 63) : nzL (lN a) k = k := by
  unfold nzL
  rw [if_neg]
  rw [l0, lN_eqx h2 (by decide)]
  omega
theorem byt : ∀ c, c < 128 → vp_nar .byte ((nI c).toInt8.toInt32) = nI c := by decide +kernel
theorem wrB_n {β : Type} {M : Mem} {o n j : Nat} {v : Int32} {k : Mem → Option β} (h : j < n) (hn : n < 100000) : wrB M o n (nI j) v k = k (sI M o j (vp_nar .byte v)) := by
  have e := nI_clamp (n := j) (by omega)
  have : inB (nI j) n = true := by
    simp only [inB, Bool.and_eq_true, decide_eq_true_eq, e]
    exact ⟨nI_pos' (by omega), h⟩
  simp only [wrB, this, if_true, e]
/-- the texts, class and reference -/
def TX (M : Mem) (ds : List Nat) : Prop := gI M 105 1 = nI ds.length ∧ ∀ i, i < ds.length → gI M 106 i = nI (ds.getD i 0)
def TY (M : Mem) (ds : List Nat) : Prop := gI M 108 31 = nI ds.length ∧ ∀ i, i < ds.length → gI M 123 i = nI (ds.getD i 0)
theorem getD_app {ds : List Nat} {c i : Nat} (h : i < ds.length + 1) : (ds ++ [c]).getD i 0 = if i < ds.length then ds.getD i 0 else c := by
  by_cases d : i < ds.length
  · rw [if_pos d]
    simp [List.getD_eq_getElem?_getD, List.getElem?_append_left d]
  · rw [if_neg d, show i = ds.length by omega]
    simp [List.getD_eq_getElem?_getD]
theorem i114 : Int32.ofNat 114 = nI 114 := rfl
/-- what says leaves as it is -/
def fy (M M' : Mem) : Prop := (∀ o, o ≠ 108 → o ≠ 123 → gI M' o = gI M o) ∧ (∀ o, gL M' o = gL M o ∧ gR M' o = gR M o) ∧ (∀ k, k ≠ 31 → gI M' 108 k = gI M 108 k)
theorem fy.rfl {M : Mem} : fy M M := ⟨fun _ _ _ => Eq.refl _, fun _ => ⟨Eq.refl _, Eq.refl _⟩, fun _ _ => Eq.refl _⟩
theorem fy.trans {M M1 M2 : Mem} (h : fy M M1) (h2 : fy M1 M2) : fy M M2 := ⟨fun o a b => (h2.1 o a b).trans (h.1 o a b), fun o => ⟨(h2.2.1 o).1.trans (h.2.1 o).1, (h2.2.1 o).2.trans (h.2.1 o).2⟩, fun k hk => (h2.2.2 k hk).trans (h.2.2 k hk)⟩
/-- d + 1 digits of a number -/
def dgs9 : Nat → Nat → List Nat
  | 0, n => [48 + n % 10]
  | d + 1, n => dgs9 d (n / 10) ++ [48 + n % 10]
theorem dgs_len9 {d : Nat} : ∀ n, (dgs9 d n).length = d + 1 := by
  induction d with
  | zero => intro n; rfl
  | succ d ih => intro n; show (dgs9 d (n / 10) ++ [48 + n % 10]).length = _; rw [List.length_append, ih]; rfl
theorem dig_ex (n : Nat) : ∀ k, n < 10 ^ (k + 1) → ∃ d, d ≤ k ∧ n < 10 ^ (d + 1) ∧ (d = 0 ∨ 10 ^ d ≤ n) := by
  intro k
  induction k with
  | zero => intro h; exact ⟨0, Nat.le_refl _, h, Or.inl rfl⟩
  | succ k ih =>
    intro h
    by_cases c : n < 10 ^ (k + 1)
    · obtain ⟨d, h1, h2, h3⟩ := ih c
      exact ⟨d, by omega, h2, h3⟩
    · exact ⟨k + 1, Nat.le_refl _, h, Or.inr (by omega)⟩
/-- class: a number's digits -/
def pre (d j n : Nat) : List Nat := if j = d then [] else dgs9 (d - j - 1) (n / 10 ^ (j + 1))
theorem pre_step {d j n : Nat} (hj : j ≤ d) : pre d j n ++ [48 + n / 10 ^ j % 10] = dgs9 (d - j) (n / 10 ^ j) := by
  unfold pre
  by_cases c : j = d
  · rw [if_pos c, c, Nat.sub_self]
    rfl
  · rw [if_neg c, show d - j = d - j - 1 + 1 by omega]
    show _ = dgs9 (d - j - 1) (n / 10 ^ j / 10) ++ [48 + n / 10 ^ j % 10]
    rw [Nat.div_div_eq_div_mul, ← Nat.pow_succ]
    rfl
