/-! leastLimit -/
theorem bestFin {M M0 M' : Mem} {v : Int64} (hI : Inv M) (h : Has M) (f0 : fr lB9 M M0) (p0 : PMM M M0) (f : fr lG (T0 (sL M0 124 0 v)) M') (t1 : ∀ i, i < 54 → gI M' 109 i = gI M 109 i) (t2 : ∀ j, 54 ≤ j → gI M' 110 j = gI M 110 j) (t3 : ∀ j, j ≠ 28 → gI M' 108 j = gI (T0 (sL M0 124 0 v)) 108 j) : Inv M' ∧ gI M' 108 0 = 0 ∧ gL M' 124 0 = v := by
  have kt1 : kt M M' := by
    refine ⟨fun o a b c => ?_, fun k hk => ?_, t1, t2⟩
    · have c1 : o ∉ lG := fun z => by
        have : ∀ o, o ∈ lG → o ∈ scrL ∨ o = 108 ∨ o ∈ [96, 97, 98, 109, 110] := by decide
        rcases this o z with y | y | y
        · exact a y
        · exact b y
        · exact c y
      have c2 : o ∉ lB9 := fun z => by
        have : ∀ o, o ∈ lB9 → o ∈ scrL ∨ o ∈ [96, 97, 98, 109, 110] := by decide
        rcases this o z with y | y
        · exact a y
        · exact c y
      have c3 : o ≠ 124 := fun z => a (by rw [z]; decide)
      have q := f o c1
      have q2 := f0 o c2
      rw [T0_I b, T0_L, T0_R, gI_sL', gR_sL', gL_sL', if_neg c3] at q
      exact ⟨q.1.trans q2.1, q.2.1.trans q2.2.1, q.2.2.trans q2.2.2⟩
    · rw [t3 k (by omega), T0.kp.2 k hk, gI_sL', f0.I (by decide)]
  have hc : Cache (gI M 112) M' := by
    have hc := p0.cache h
    have q96 := (f 96 (by decide)).1
    have q97 := (f 97 (by decide)).2.1
    have q98 := (f 98 (by decide)).2.1
    rw [T0_I (by decide), gI_sL'] at q96
    rw [T0_L, gL_sL', if_neg (by decide)] at q97
    rw [T0_L, gL_sL', if_neg (by decide)] at q98
    unfold Cache
    rw [q96, q97, q98]
    exact hc
  refine ⟨invKt hI h kt1 hc, ?_, ?_⟩
  · rw [t3 0 (by decide)]
    exact T0_0
  · rw [f.L (by decide), T0_L, gL_sL, if_pos ⟨rfl, rfl⟩]
/-- the limit that a set asks -/
def itL (P : Nat → Int32) (W : Nat → Nat) (b st H : Nat) : Nat := (uN P W b st H + 10 * 1000 ^ (H - 1) - 1) / (10 * 1000 ^ (H - 1))
def okL (P S : Nat → Int32) (st H : Nat) (lim : Nat → Nat) (b : Nat) (c : Nat → Nat) : Bool := al S c (cN P) && hd P (wPure c) st H (fun b' => if b' = b then lim b' + 9999 else lim b') (cB P)
def LL (P S : Nat → Int32) (st H : Nat) (lim : Nat → Nat) (b : Nat) : Nat → Nat
  | 0 => 10000
  | k + 1 => match cho P k with
    | none => LL P S st H lim b k
    | some c => if okL P S st H lim b c then (if LL P S st H lim b k ≤ itL P (wPure c) b st H then LL P S st H lim b k else itL P (wPure c) b st H) else LL P S st H lim b k
theorem LL_s {P S : Nat → Int32} {st H : Nat} {lim : Nat → Nat} {b k : Nat} {c : Nat → Nat} (h : cho P k = some c) : LL P S st H lim b (k + 1) = if okL P S st H lim b c then (if LL P S st H lim b k ≤ itL P (wPure c) b st H then LL P S st H lim b k else itL P (wPure c) b st H) else LL P S st H lim b k := by
  show (match cho P k with
    | none => LL P S st H lim b k
    | some c => if okL P S st H lim b c then (if LL P S st H lim b k ≤ itL P (wPure c) b st H then LL P S st H lim b k else itL P (wPure c) b st H) else LL P S st H lim b k) = _
  rw [h]
theorem unit_pos {H : Nat} : 0 < 10 * 1000 ^ (H - 1) := Nat.mul_pos (by decide) (Nat.pow_pos (by decide))
theorem uN_unit {P : Nat → Int32} {W : Nat → Nat} {b st H : Nat} (hV : VP P) (hK : WOK P W) (h1 : 1 ≤ H) (hH : H ≤ 5) : uN P W b st H ≤ 2475 * (10 * 1000 ^ (H - 1)) := by
  have h2 := uN_le (b := b) (st := st) (H := H) hV (fun x hx => Nat.le_of_eq (hK.2 x hx)) (fun x hx => Nat.le_of_eq (hK.T hV x hx)) h1
  have h3 : 495 * (10 * 1000 ^ (H - 1)) * H ≤ 495 * (10 * 1000 ^ (H - 1)) * 5 := Nat.mul_le_mul_left _ hH
  omega
theorem itL_le {P : Nat → Int32} {W : Nat → Nat} {b st H : Nat} (hV : VP P) (hK : WOK P W) (h1 : 1 ≤ H) (hH : H ≤ 5) : itL P W b st H ≤ 2475 := by
  have h2 := uN_unit (b := b) (st := st) hV hK h1 hH
  have h3 := unit_pos (H := H)
  unfold itL
  generalize 10 * 1000 ^ (H - 1) = u at *
  have h4 : (uN P W b st H + u - 1) / u < 2476 := by
    rw [Nat.div_lt_iff_lt_mul h3]
    omega
  omega
theorem LL_le {P S : Nat → Int32} {st H : Nat} {lim : Nat → Nat} {b : Nat} (hV : VP P) (h1 : 1 ≤ H) (hH : H ≤ 5) : ∀ k, LL P S st H lim b k ≤ 2475 ∨ LL P S st H lim b k = 10000
  | 0 => Or.inr rfl
  | k + 1 => by
    have ih := LL_le (S := S) (st := st) (lim := lim) (b := b) hV h1 hH k
    cases q : cho P k with
    | none =>
      have e : LL P S st H lim b (k + 1) = LL P S st H lim b k := by
        show (match cho P k with
          | none => LL P S st H lim b k
          | some c => if okL P S st H lim b c then (if LL P S st H lim b k ≤ itL P (wPure c) b st H then LL P S st H lim b k else itL P (wPure c) b st H) else LL P S st H lim b k) = _
        rw [q]
      rw [e]
      exact ih
    | some c =>
      rw [LL_s q]
      have h3 := itL_le (b := b) (st := st) hV (wPure_WOK hV (cho_ok hV k c q).1) h1 hH
      split
      · split
        · exact ih
        · exact Or.inl h3
      · exact ih
/-- the quotient, in both -/
theorem it_eq {P : Nat → Int32} {W : Nat → Nat} {b st H : Nat} (hV : VP P) (hK : WOK P W) (h1 : 1 ≤ H) (hH : H ≤ 5) : ((uRun P W b st H + lN (10 * 1000 ^ (H - 1))) - (1 : Int64)) / lN (10 * 1000 ^ (H - 1)) = lN (itL P W b st H) := by
  have h2 := uN_lt (b := b) (st := st) hV hK h1 hH
  have h3 := unit_pos (H := H)
  have h4 := unit_le hH
  rw [uRun_lN, lN_add, show (1 : Int64) = lN 1 from rfl, lN_sub (by omega), lN_div (by omega) (by omega)]
  rfl
theorem nzL_p {β : Type} {n : Nat} (h : 0 < n) (h2 : n < 2 ^ 63) {k : Option β} : nzL (lN n) k = k := if_neg (by
  rw [show (0 : Int64) = lN 0 from rfl, lN_eqx h2 (by decide)]
  omega)
def xL (n : Nat) : Int32 := if n = 10000 then -1 else nI n
