theorem and31 (r : UInt32) : (r &&& 0x7fffffff).toNat = r.toNat % 2 ^ 31 := by
  rw [UInt32.toNat_and]
  exact Nat.and_two_pow_sub_one_eq_mod r.toNat 31
theorem and63 (r : UInt64) : (r &&& 0x7fffffffffffffff).toNat = r.toNat % 2 ^ 63 := by
  rw [UInt64.toNat_and]
  exact Nat.and_two_pow_sub_one_eq_mod r.toNat 63
theorem okF_k {β : Type} {r : UInt32} {k : Option β} (h : r.toNat % 2 ^ 31 ≤ 2139095040) : okF r k = k := by
  unfold okF
  rw [if_pos]
  rw [UInt32.le_iff_toNat_le, and31]
  show _ ≤ 2139095040
  omega
theorem okD_k {β : Type} {r : UInt64} {k : Option β} (h : r.toNat % 2 ^ 63 ≤ 9218868437227405312) : okD r k = k := by
  unfold okD
  rw [if_pos]
  rw [UInt64.le_iff_toNat_le, and63]
  show _ ≤ 9218868437227405312
  omega
/-- a datum that rounding gives -/
def OKd (f : FP.Core.Fmt) (d : FP.Core.Datum) : Prop := match d with
  | .nan => False
  | .inf _ => True
  | .fin _ c q => c < 2 ^ f.p ∧ q ≤ f.qmax
theorem bound_ok {f : FP.Core.Fmt} {s : Bool} {c : Nat} {q : Int} (h : c < 2 ^ f.p) : OKd f (FP.Core.bound f s c q) := by
  unfold FP.Core.bound
  by_cases g : q ≤ f.qmax
  · rw [if_pos g]
    exact ⟨h, g⟩
  · rw [if_neg g]
    exact trivial
theorem rr_ok {f : FP.Core.Fmt} (h1 : f.tails < 2 ^ f.p) (h2 : f.qmin ≤ f.qmax) (s : Bool) (a b : Nat) (e : Int) : OKd f (FP.Core.roundRatio f s a b e) := by
  unfold FP.Core.roundRatio
  by_cases g : a = 0
  · rw [if_pos g]
    exact ⟨Nat.pow_pos (by decide), h2⟩
  · rw [if_neg g]
    unfold FP.Core.roundAt FP.Core.settle
    by_cases k : FP.Core.nearest (FP.Core.unitsNum a e (FP.Core.quantum f a b e)) (FP.Core.unitsDen b e (FP.Core.quantum f a b e)) < 2 ^ f.p
    · rw [if_pos k]
      exact bound_ok k
    · rw [if_neg k]
      exact bound_ok h1
theorem t32 : FP.Core.b32.tails = 8388608 := by decide
theorem x32 : FP.Core.b32.exps = 256 := by decide
theorem qm32 : FP.Core.b32.qmin = -149 := by decide
theorem qx32 : FP.Core.b32.qmax = 104 := by decide
theorem t64 : FP.Core.b64.tails = 4503599627370496 := by decide
theorem x64 : FP.Core.b64.exps = 2048 := by decide
theorem qm64 : FP.Core.b64.qmin = -1074 := by decide
theorem qx64 : FP.Core.b64.qmax = 971 := by decide
theorem sB (s : Bool) : s.toNat ≤ 1 := by cases s <;> decide
theorem enc32 {d : FP.Core.Datum} (h : OKd FP.Core.b32 d) : FP.Core.encode FP.Core.b32 d < 2 ^ 32 ∧ FP.Core.encode FP.Core.b32 d % 2 ^ 31 ≤ 2139095040 := by
  cases d with
  | nan => exact absurd h id
  | inf s =>
    have hs := sB s
    show (s.toNat * FP.Core.b32.exps + (FP.Core.b32.exps - 1)) * FP.Core.b32.tails + 0 < 2 ^ 32 ∧ ((s.toNat * FP.Core.b32.exps + (FP.Core.b32.exps - 1)) * FP.Core.b32.tails + 0) % 2 ^ 31 ≤ 2139095040
    rw [t32, x32]
    omega
  | fin s c q =>
    have hs := sB s
    obtain ⟨h1, h2⟩ := h
    rw [qx32] at h2
    have h3 : c < 2 ^ 24 := h1
    show (if c < FP.Core.b32.tails then (s.toNat * FP.Core.b32.exps + 0) * FP.Core.b32.tails + c else (s.toNat * FP.Core.b32.exps + ((q - FP.Core.b32.qmin).toNat + 1)) * FP.Core.b32.tails + (c - FP.Core.b32.tails)) < 2 ^ 32 ∧ (if c < FP.Core.b32.tails then (s.toNat * FP.Core.b32.exps + 0) * FP.Core.b32.tails + c else (s.toNat * FP.Core.b32.exps + ((q - FP.Core.b32.qmin).toNat + 1)) * FP.Core.b32.tails + (c - FP.Core.b32.tails)) % 2 ^ 31 ≤ 2139095040
    rw [t32, x32, qm32]
    by_cases g : c < 8388608
    · rw [if_pos g]
      omega
    · rw [if_neg g]
      have h4 : (q - -149).toNat ≤ 253 := by omega
      generalize (q - -149).toNat = w at h4
      omega
theorem enc64 {d : FP.Core.Datum} (h : OKd FP.Core.b64 d) : FP.Core.encode FP.Core.b64 d < 2 ^ 64 ∧ FP.Core.encode FP.Core.b64 d % 2 ^ 63 ≤ 9218868437227405312 := by
  cases d with
  | nan => exact absurd h id
  | inf s =>
    have hs := sB s
    show (s.toNat * FP.Core.b64.exps + (FP.Core.b64.exps - 1)) * FP.Core.b64.tails + 0 < 2 ^ 64 ∧ ((s.toNat * FP.Core.b64.exps + (FP.Core.b64.exps - 1)) * FP.Core.b64.tails + 0) % 2 ^ 63 ≤ 9218868437227405312
    rw [t64, x64]
    omega
  | fin s c q =>
    have hs := sB s
    obtain ⟨h1, h2⟩ := h
    rw [qx64] at h2
    have h3 : c < 2 ^ 53 := h1
    show (if c < FP.Core.b64.tails then (s.toNat * FP.Core.b64.exps + 0) * FP.Core.b64.tails + c else (s.toNat * FP.Core.b64.exps + ((q - FP.Core.b64.qmin).toNat + 1)) * FP.Core.b64.tails + (c - FP.Core.b64.tails)) < 2 ^ 64 ∧ (if c < FP.Core.b64.tails then (s.toNat * FP.Core.b64.exps + 0) * FP.Core.b64.tails + c else (s.toNat * FP.Core.b64.exps + ((q - FP.Core.b64.qmin).toNat + 1)) * FP.Core.b64.tails + (c - FP.Core.b64.tails)) % 2 ^ 63 ≤ 9218868437227405312
    rw [t64, x64, qm64]
    by_cases g : c < 4503599627370496
    · rw [if_pos g]
      omega
    · rw [if_neg g]
      have h4 : (q - -1074).toNat ≤ 2045 := by omega
      generalize (q - -1074).toNat = w at h4
      omega
theorem dec32 {n : Nat} (h : n % 2 ^ 31 ≤ 2139095040) : FP.Core.decode FP.Core.b32 n ≠ .nan := by
  unfold FP.Core.decode FP.Core.fieldE FP.Core.fieldT
  rw [t32, x32]
  by_cases g : n / 8388608 % 256 = 256 - 1
  · rw [if_pos g, if_pos (by omega)]
    exact FP.Core.Datum.noConfusion
  · rw [if_neg g]
    split
    · exact FP.Core.Datum.noConfusion
    · exact FP.Core.Datum.noConfusion
theorem dec64 {n : Nat} (h : n % 2 ^ 63 ≤ 9218868437227405312) : FP.Core.decode FP.Core.b64 n ≠ .nan := by
  unfold FP.Core.decode FP.Core.fieldE FP.Core.fieldT
  rw [t64, x64]
  by_cases g : n / 4503599627370496 % 2048 = 2048 - 1
  · rw [if_pos g, if_pos (by omega)]
    exact FP.Core.Datum.noConfusion
  · rw [if_neg g]
    split
    · exact FP.Core.Datum.noConfusion
    · exact FP.Core.Datum.noConfusion
theorem rr32 (s : Bool) (a b : Nat) (e : Int) : OKd FP.Core.b32 (FP.Core.roundRatio FP.Core.b32 s a b e) := rr_ok (by decide) (by decide) s a b e
theorem rr64 (s : Bool) (a b : Nat) (e : Int) : OKd FP.Core.b64 (FP.Core.roundRatio FP.Core.b64 s a b e) := rr_ok (by decide) (by decide) s a b e
theorem bits32 {d : FP.Core.Datum} (h : OKd FP.Core.b32 d) : (UInt32.ofNat (FP.Core.encode FP.Core.b32 d)).toNat % 2 ^ 31 ≤ 2139095040 := by
  have h2 := enc32 h
  rw [UInt32.toNat_ofNat_of_lt' (by simpa using h2.1)]
  exact h2.2
theorem bits64 {d : FP.Core.Datum} (h : OKd FP.Core.b64 d) : (UInt64.ofNat (FP.Core.encode FP.Core.b64 d)).toNat % 2 ^ 63 ≤ 9218868437227405312 := by
  have h2 := enc64 h
  rw [UInt64.toNat_ofNat_of_lt' (by simpa using h2.1)]
  exact h2.2
theorem l2f_b (a : Int64) : (FP.l2f a).toNat % 2 ^ 31 ≤ 2139095040 := bits32 (rr32 _ _ _ _)
/-- a number that is not zero -/
def nzD (d : FP.Core.Datum) : Bool := match d with
  | .fin _ c _ => c != 0
  | _ => false
theorem u_nz : ∀ k, k < 5 → nzD (FP.Core.decode FP.Core.b32 (FP.l2f (lN (10 * 1000 ^ k))).toNat) = true := by decide +kernel
/-- a long by a unit, as floats -/
theorem fdiv_b (a : Int64) {k : Nat} (hk : k < 5) : (FP.fdiv (FP.l2f a) (FP.l2f (lN (10 * 1000 ^ k)))).toNat % 2 ^ 31 ≤ 2139095040 := by
  have h1 := dec32 (l2f_b a)
  have h2 := u_nz k hk
  show (UInt32.ofNat (FP.Core.encode FP.Core.b32 (FP.Core.quotient FP.Core.b32 (FP.Core.decode FP.Core.b32 (FP.l2f a).toNat) (FP.Core.decode FP.Core.b32 (FP.l2f (lN (10 * 1000 ^ k))).toNat)))).toNat % 2 ^ 31 ≤ 2139095040
  generalize FP.Core.decode FP.Core.b32 (FP.l2f a).toNat = x at h1
  generalize FP.Core.decode FP.Core.b32 (FP.l2f (lN (10 * 1000 ^ k))).toNat = y at h2
  refine bits32 ?_
  cases y with
  | nan => exact absurd h2 Bool.false_ne_true
  | inf t => exact absurd h2 Bool.false_ne_true
  | fin t d r =>
    have hd : ¬ d = 0 := by
      intro e
      subst e
      exact absurd h2 Bool.false_ne_true
    cases x with
    | nan => exact absurd rfl h1
    | inf s => exact trivial
    | fin s c q =>
      show OKd FP.Core.b32 (if d = 0 then _ else _)
      rw [if_neg hd]
      exact rr32 _ _ _ _
theorem cmpI_self (a : Int) : compare a a = .eq := by
  simp [compare, compareOfLessAndEq]
theorem order_self {d : FP.Core.Datum} (h : d ≠ .nan) : FP.Core.order d d = some .eq := by
  cases d with
  | nan => exact absurd rfl h
  | inf s => exact congrArg some (cmpI_self _)
  | fin s c q => exact congrArg some (cmpI_self _)
theorem f2d_b {r : UInt32} (h : r.toNat % 2 ^ 31 ≤ 2139095040) : (FP.f2d r).toNat % 2 ^ 63 ≤ 9218868437227405312 ∧ FP.dcmp (FP.f2d r) (FP.f2d r) = some .eq := by
  have h1 := dec32 h
  have e : FP.f2d r = FP.Core.f2d r := by
    unfold FP.f2d
    rw [if_neg]
    unfold FP.Core.fIsNaN FP.Core.isNaN
    simp [h1]
  rw [e]
  have h2 : (FP.Core.f2d r).toNat % 2 ^ 63 ≤ 9218868437227405312 := by
    show (UInt64.ofNat (FP.Core.encode FP.Core.b64 (FP.Core.round FP.Core.b64 (FP.Core.decode FP.Core.b32 r.toNat)))).toNat % 2 ^ 63 ≤ 9218868437227405312
    generalize FP.Core.decode FP.Core.b32 r.toNat = x at h1
    refine bits64 ?_
    cases x with
    | nan => exact absurd rfl h1
    | inf s => exact trivial
    | fin s c q => exact rr64 _ _ _ _
  exact ⟨h2, order_self (dec64 h2)⟩
