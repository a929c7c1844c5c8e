/-! the 'uses' of an act line; bounds of a row while it is read -/
def mxq (i : Nat) : Nat := if i = 0 then 6 else if i = 1 then 3 else if i < 4 then 5 else if i = 4 then 30010 else if i < 8 then 9999 else if i < 14 then 3 else if i < 86 then 99 else if i < 194 then 100 else if i < 212 then 6 else if i < 320 then 5 else if i < 326 then 1 else 10
def VW (Q : Nat → Int32) : Prop := (∀ i, i < 344 → ¬ (14 ≤ i ∧ i < 32) → Q i = nI (pn Q i) ∧ pn Q i ≤ mxq i) ∧ ∀ r, r < 18 → -999 ≤ (Q (14 + r)).toInt ∧ (Q (14 + r)).toInt ≤ 999
theorem mxq_le {i : Nat} : mxq i ≤ 30010 := by
  unfold mxq
  repeat' split
  all_goals decide
theorem mxA {k : Nat} (h : k < 54) : mxq (32 + k) = 99 := by
  unfold mxq
  rw [if_neg (by omega), if_neg (by omega), if_neg (by omega), if_neg (by omega), if_neg (by omega), if_neg (by omega), if_pos (by omega)]
theorem mxP {k : Nat} (h : k < 108) : mxq (86 + k) = 100 := by
  unfold mxq
  rw [if_neg (by omega), if_neg (by omega), if_neg (by omega), if_neg (by omega), if_neg (by omega), if_neg (by omega), if_neg (by omega), if_pos (by omega)]
theorem mxT {r : Nat} (h : r < 18) : mxq (194 + r) = 6 := by
  unfold mxq
  rw [if_neg (by omega), if_neg (by omega), if_neg (by omega), if_neg (by omega), if_neg (by omega), if_neg (by omega), if_neg (by omega), if_neg (by omega), if_pos (by omega)]
theorem mxO {k : Nat} (h : k < 108) : mxq (212 + k) = 5 := by
  unfold mxq
  rw [if_neg (by omega), if_neg (by omega), if_neg (by omega), if_neg (by omega), if_neg (by omega), if_neg (by omega), if_neg (by omega), if_neg (by omega), if_neg (by omega), if_pos (by omega)]
theorem mxR {x : Nat} (h : x < 6) : mxq (320 + x) = 1 := by
  unfold mxq
  rw [if_neg (by omega), if_neg (by omega), if_neg (by omega), if_neg (by omega), if_neg (by omega), if_neg (by omega), if_neg (by omega), if_neg (by omega), if_neg (by omega), if_neg (by omega), if_pos (by omega)]
theorem mxW {k : Nat} : mxq (326 + k) = 10 := by
  unfold mxq
  rw [if_neg (by omega), if_neg (by omega), if_neg (by omega), if_neg (by omega), if_neg (by omega), if_neg (by omega), if_neg (by omega), if_neg (by omega), if_neg (by omega), if_neg (by omega), if_neg (by omega)]
theorem mxM {x : Nat} (h : x < 6) : mxq (8 + x) = 3 := by
  unfold mxq
  rw [if_neg (by omega), if_neg (by omega), if_neg (by omega), if_neg (by omega), if_neg (by omega), if_pos (by omega)]
theorem mxL {b : Nat} (h : b < 3) : mxq (5 + b) = 9999 := by
  unfold mxq
  rw [if_neg (by omega), if_neg (by omega), if_neg (by omega), if_neg (by omega), if_pos (by omega)]
theorem pn_upd {Q : Nat → Int32} {j v i : Nat} (hv : v < 2 ^ 31) : pn (upd Q j (nI v)) i = if i = j then v else pn Q i := by
  by_cases c : i = j
  · rw [if_pos c, c]
    exact pn_n upd_eq hv
  · rw [if_neg c]
    exact pn_c (upd_ne c)
theorem VW.put {Q : Nat → Int32} {j v : Nat} (h : VW Q) (hj : ¬ (14 ≤ j ∧ j < 32)) (hv : v ≤ mxq j) : VW (upd Q j (nI v)) := by
  have m := mxq_le (i := j)
  refine ⟨fun i hi hn => ?_, fun r hr => by rw [upd_ne (by omega)]; exact h.2 r hr⟩
  rw [pn_upd (by omega)]
  by_cases c : i = j
  · rw [if_pos c, c, upd_eq]
    exact ⟨rfl, hv⟩
  · rw [if_neg c, upd_ne c]
    exact h.1 i hi hn
theorem VW.updG {Q : Nat → Int32} {r : Nat} {v : Int32} (h : VW Q) (hr : r < 18) (hv : -999 ≤ v.toInt ∧ v.toInt ≤ 999) : VW (upd Q (14 + r) v) := by
  refine ⟨fun i hi hn => ?_, fun r' hr' => ?_⟩
  · have c : i ≠ 14 + r := by omega
    rw [pn_c (upd_ne c), upd_ne c]
    exact h.1 i hi hn
  · by_cases c : r' = r
    · rw [c, upd_eq]
      exact hv
    · rw [upd_ne (by omega)]
      exact h.2 r' hr'
theorem VW.A {Q : Nat → Int32} (h : VW Q) (k : Nat) (hk : k < 54) : Q (32 + k) = nI (pn Q (32 + k)) ∧ pn Q (32 + k) ≤ 99 := by
  have := h.1 (32 + k) (by omega) (by omega)
  rw [mxA hk] at this
  exact this
theorem VW.P {Q : Nat → Int32} (h : VW Q) (k : Nat) (hk : k < 108) : Q (86 + k) = nI (pn Q (86 + k)) ∧ pn Q (86 + k) ≤ 100 := by
  have := h.1 (86 + k) (by omega) (by omega)
  rw [mxP hk] at this
  exact this
theorem VW.T {Q : Nat → Int32} (h : VW Q) (r : Nat) (hr : r < 18) : cT Q r ≤ 6 := by
  have := h.1 (194 + r) (by omega) (by omega)
  rw [mxT hr] at this
  unfold cT
  rw [if_pos hr]
  exact this.2
theorem VW.QT {Q : Nat → Int32} (h : VW Q) (r : Nat) (hr : r < 18) : Q (194 + r) = nI (cT Q r) := by
  have := h.1 (194 + r) (by omega) (by omega)
  unfold cT
  rw [if_pos hr]
  exact this.1
theorem VW.N {Q : Nat → Int32} (h : VW Q) : Q 0 = nI (cN Q) ∧ cN Q ≤ 6 := h.1 0 (by decide) (by decide)
theorem VW.B {Q : Nat → Int32} (h : VW Q) : Q 1 = nI (cB Q) ∧ cB Q ≤ 3 := h.1 1 (by decide) (by decide)
theorem VW.M {Q : Nat → Int32} (h : VW Q) (x : Nat) (hx : x < 6) : Q (8 + x) = nI (cM Q x) ∧ cM Q x ≤ 3 := by
  have := h.1 (8 + x) (by omega) (by omega)
  rw [mxM hx] at this
  unfold cM
  rw [if_pos hx]
  exact this
/-- how many are not 0 -/
def cz (f : Nat → Nat) : Nat → Nat
  | 0 => 0
  | n + 1 => cz f n + if f n = 0 then 0 else 1
theorem cz_le {f : Nat → Nat} : ∀ n, cz f n ≤ n
  | 0 => Nat.le_refl 0
  | n + 1 => by
    have := cz_le (f := f) n
    show cz f n + (if f n = 0 then 0 else 1) ≤ n + 1
    split <;> omega
theorem cz_congr {f g : Nat → Nat} : ∀ n, (∀ i, i < n → f i = g i) → cz f n = cz g n
  | 0, _ => rfl
  | n + 1, h => by
    show cz f n + (if f n = 0 then 0 else 1) = cz g n + (if g n = 0 then 0 else 1)
    rw [cz_congr n (fun i hi => h i (by omega)), h n (by omega)]
theorem cz_lt {f : Nat → Nat} {y : Nat} (h : f y = 0) : ∀ n, y < n → cz f n < n
  | 0, hn => absurd hn (by omega)
  | n + 1, hn => by
    have h1 := cz_le (f := f) n
    show cz f n + (if f n = 0 then 0 else 1) < n + 1
    by_cases c : y = n
    · rw [← c, if_pos h, c]
      omega
    · have := cz_lt h n (by omega)
      split <;> omega
theorem cz_upd {f g : Nat → Nat} {y : Nat} (h0 : f y = 0) (h1 : g y ≠ 0) (h : ∀ i, i ≠ y → g i = f i) : ∀ n, y < n → cz g n = cz f n + 1
  | 0, hn => absurd hn (by omega)
  | n + 1, hn => by
    show cz g n + (if g n = 0 then 0 else 1) = cz f n + (if f n = 0 then 0 else 1) + 1
    by_cases c : y = n
    · rw [← c, if_pos h0, if_neg h1, c, cz_congr n (fun i hi => h i (by omega))]
    · rw [cz_upd h0 h1 h n (by omega), h n (by omega)]
      omega
theorem cz_zero {f : Nat → Nat} : ∀ n, (∀ i, i < n → f i = 0) → cz f n = 0
  | 0, _ => rfl
  | n + 1, h => by
    show cz f n + (if f n = 0 then 0 else 1) = 0
    rw [cz_zero n (fun i hi => h i (by omega)), if_pos (h n (by omega))]
/-- budgets told in the row r -/
def nzU (Q : Nat → Int32) (r : Nat) : Nat := cz (fun b => pn Q (32 + (r * 3 + b))) 3
