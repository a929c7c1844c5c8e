/-! tokens -/
/-- the first place from e on, before e + d, where p ends -/
def spn (p : Nat → Bool) : Nat → Nat → Nat
  | 0, e => e
  | d + 1, e => if p e then spn p d (e + 1) else e
theorem spn_ok {p : Nat → Bool} : ∀ d e, e ≤ spn p d e ∧ spn p d e ≤ e + d ∧ (∀ i, e ≤ i → i < spn p d e → p i = true) ∧ (spn p d e < e + d → p (spn p d e) = false)
  | 0, e => ⟨Nat.le_refl _, Nat.le_refl _, fun i h1 h2 => absurd h2 (by show ¬ i < e; omega), fun h => absurd h (by show ¬ e < e + 0; omega)⟩
  | d + 1, e => by
    unfold spn
    by_cases h : p e = true
    · rw [if_pos h]
      obtain ⟨a1, a2, a3, a4⟩ := spn_ok (p := p) d (e + 1)
      refine ⟨by omega, by omega, fun i h1 h2 => ?_, fun h3 => a4 (by omega)⟩
      by_cases c : i = e
      · rw [c]; exact h
      · exact a3 i (by omega) h2
    · rw [if_neg h]
      exact ⟨Nat.le_refl _, by omega, fun i h1 h2 => absurd h2 (by omega), fun _ => by simpa using h⟩
def spN (p : Nat → Bool) (n e : Nat) : Nat := spn p (n - e) e
theorem spN_ok {p : Nat → Bool} {n e : Nat} (h : e ≤ n) : e ≤ spN p n e ∧ spN p n e ≤ n ∧ (∀ i, e ≤ i → i < spN p n e → p i = true) ∧ (spN p n e < n → p (spN p n e) = false) := by
  obtain ⟨a1, a2, a3, a4⟩ := spn_ok (p := p) (n - e) e
  unfold spN
  exact ⟨a1, by omega, a3, fun z => a4 (by omega)⟩
def isL (c : Nat) : Bool := decide (97 ≤ c ∧ c ≤ 122)
def isD (c : Nat) : Bool := decide (48 ≤ c ∧ c ≤ 57)
/-- the token that begins at e or behind blanks: where, how far, which kind -/
def tA (b : Nat → Nat) (n e : Nat) : Nat := spN (fun i => decide (b i = 32)) n e
def tL (b : Nat → Nat) (n e : Nat) : Nat := spN (fun i => isL (b i)) n (tA b n e)
def tD (b : Nat → Nat) (n e : Nat) : Nat := spN (fun i => isD (b i)) n (tA b n e)
def tK (b : Nat → Nat) (n e : Nat) : Nat := if n ≤ tA b n e then 0 else if isL (b (tA b n e)) then (if 8 < tL b n e - tA b n e then 5 else 1) else if isD (b (tA b n e)) then (if 5 < tD b n e - tA b n e then 5 else 2) else if b (tA b n e) = 45 then 3 else if b (tA b n e) = 59 then 4 else 5
def tE (b : Nat → Nat) (n e : Nat) : Nat := if n ≤ tA b n e then tA b n e else if isL (b (tA b n e)) then tL b n e else if isD (b (tA b n e)) then tD b n e else tA b n e + 1
/-- the number of k digits from a on -/
def dv (b : Nat → Nat) (a : Nat) : Nat → Nat
  | 0 => 0
  | k + 1 => dv b a k * 10 + (b (a + k) - 48)
def tV (b : Nat → Nat) (n e : Nat) : Nat := dv b (tA b n e) (tD b n e - tA b n e)
theorem tA_ok {b : Nat → Nat} {n e : Nat} (h : e ≤ n) : e ≤ tA b n e ∧ tA b n e ≤ n := ⟨(spN_ok h).1, (spN_ok h).2.1⟩
theorem tE_ok {b : Nat → Nat} {n e : Nat} (h : e ≤ n) : tA b n e ≤ tE b n e ∧ tE b n e ≤ n := by
  obtain ⟨a1, a2⟩ := tA_ok (b := b) h
  unfold tE
  by_cases c : n ≤ tA b n e
  · rw [if_pos c]
    exact ⟨Nat.le_refl _, a2⟩
  · rw [if_neg c]
    have l := spN_ok (p := fun i => isL (b i)) a2
    have d := spN_ok (p := fun i => isD (b i)) a2
    split
    · exact ⟨l.1, l.2.1⟩
    · split
      · exact ⟨d.1, d.2.1⟩
      · exact ⟨by omega, by omega⟩
/-- a byte of the class -/
def bySg (v : Nat) : Int32 := (nI v).toInt8.toInt32
theorem bySg_lt : ∀ v, v < 128 → bySg v = nI v := by decide +kernel
theorem bySg_ge : ∀ v, v < 256 → 128 ≤ v → bySg v < nI 0 := by decide +kernel
theorem bySg_eq {v k : Nat} (hv : v < 256) (hk : k < 128) : (bySg v = nI k) = (v = k) := by
  by_cases c : v < 128
  · rw [bySg_lt v c, nI_eq (by omega) (by omega)]
  · have h1 := bySg_ge v hv (by omega)
    refine propext ⟨fun h => ?_, fun h => absurd h (by omega)⟩
    rw [h] at h1
    exact absurd h1 (nI_nlt0 (by omega))
theorem letC {Z : Nat} {M : Mem} {v : Nat} (hv : v < 256) : f_X2_isLetter Z M (bySg v) = some (bN (isL v), M) := by
  unfold f_X2_isLetter isL
  by_cases c : v < 128
  · rw [bySg_lt v c, show (97 : Int32) = nI 97 from rfl, show (122 : Int32) = nI 122 from rfl]
    by_cases d : v < 97
    · rw [if_pos (by rw [nI_ilt (by omega) (by decide)]; exact d), decide_eq_false (by omega)]
      rfl
    · rw [if_neg (by rw [nI_ilt (by omega) (by decide)]; exact d)]
      by_cases e : 122 < v
      · rw [if_pos (by rw [nI_ilt (by omega) (by omega)]; exact e), decide_eq_false (by omega)]
        rfl
      · rw [if_neg (by rw [nI_ilt (by omega) (by omega)]; exact e), decide_eq_true (by omega)]
        rfl
  · have h1 := bySg_ge v hv (by omega)
    rw [if_pos (by
      have := Int32.lt_iff_toInt_lt.mp h1
      rw [nI_toInt (by decide)] at this
      rw [Int32.lt_iff_toInt_lt]
      have e : (97 : Int32).toInt = 97 := by decide
      omega), decide_eq_false (by omega)]
    rfl
theorem digC {Z : Nat} {M : Mem} {v : Nat} (hv : v < 256) : f_X2_isDigit Z M (bySg v) = some (bN (isD v), M) := by
  unfold f_X2_isDigit isD
  by_cases c : v < 128
  · rw [bySg_lt v c, show (48 : Int32) = nI 48 from rfl, show (57 : Int32) = nI 57 from rfl]
    by_cases d : v < 48
    · rw [if_pos (by rw [nI_ilt (by omega) (by decide)]; exact d), decide_eq_false (by omega)]
      rfl
    · rw [if_neg (by rw [nI_ilt (by omega) (by decide)]; exact d)]
      by_cases e : 57 < v
      · rw [if_pos (by rw [nI_ilt (by omega) (by omega)]; exact e), decide_eq_false (by omega)]
        rfl
      · rw [if_neg (by rw [nI_ilt (by omega) (by omega)]; exact e), decide_eq_true (by omega)]
        rfl
  · have h1 := bySg_ge v hv (by omega)
    rw [if_pos (by
      have := Int32.lt_iff_toInt_lt.mp h1
      rw [nI_toInt (by decide)] at this
      rw [Int32.lt_iff_toInt_lt]
      have e : (48 : Int32).toInt = 48 := by decide
      omega), decide_eq_false (by omega)]
    rfl
/-- the class's bytes -/
def BC (b : Nat → Nat) (n : Nat) (M : Mem) : Prop := n ≤ 1200 ∧ gI M 1 2 = nI n ∧ ∀ i, i < n → b i < 256 ∧ gI M 2 i = bySg (b i)
/-- the class's token -/
def TC (b : Nat → Nat) (n e : Nat) (M : Mem) : Prop := gI M 1 3 = nI (tK b n e) ∧ gI M 1 4 = nI (tA b n e) ∧ gI M 1 5 = nI (tE b n e) ∧ (tK b n e = 2 → gI M 1 6 = nI (tV b n e))
theorem BC.fr {b : Nat → Nat} {n : Nat} {M M' : Mem} {l : List Nat} (h : BC b n M) (hf : fr l M M') (h1 : 1 ∉ l) (h2 : 2 ∉ l) : BC b n M' := by
  unfold BC
  rw [hf.I h1, hf.I h2]
  exact h
theorem TC.fr {b : Nat → Nat} {n e : Nat} {M M' : Mem} {l : List Nat} (h : TC b n e M) (hf : fr l M M') (h1 : 1 ∉ l) : TC b n e M' := by
  unfold TC
  rw [hf.I h1]
  exact h
theorem BC.s1 {b : Nat → Nat} {n : Nat} {M : Mem} (h : BC b n M) {k : Nat} {v : Int32} (hk : k ≠ 2) : BC b n (sI M 1 k v) := ⟨h.1, by rw [gI_sI, if_neg (fun z => hk z.2.symm)]; exact h.2.1, fun i hi => by rw [gI_sI, if_neg (fun z => absurd z.1 (by decide))]; exact h.2.2 i hi⟩
theorem fr1 {M M' : Mem} {k : Nat} {v : Int32} (h : fr [1] M M') : fr [1] M (sI M' 1 k v) := fr_sI h (by decide)
