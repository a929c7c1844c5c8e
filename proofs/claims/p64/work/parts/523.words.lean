/-! four bytes to a word and back -/
theorem shl8 {v t : Nat} (hv : v < 8388608) (ht : t < 256) : (nI v <<< ((8 : Int32) &&& 31)) ||| nI t = nI (v * 256 + t) := by
  apply Int32.toBitVec_inj.mp
  apply BitVec.eq_of_toNat_eq
  rw [Int32.toBitVec_or, BitVec.toNat_or]
  have e : (nI v <<< ((8 : Int32) &&& 31)).toBitVec = (nI v).toBitVec <<< 8 := by
    show (nI v).toBitVec <<< (((8 : Int32) &&& 31).toBitVec.smod 32) = _
    rw [show ((8 : Int32) &&& 31).toBitVec.smod 32 = 8#32 by decide]
    rfl
  rw [e, BitVec.toNat_shiftLeft]
  show ((BitVec.ofNat 32 v).toNat <<< 8) % 2 ^ 32 ||| (BitVec.ofNat 32 t).toNat = (BitVec.ofNat 32 (v * 256 + t)).toNat
  rw [BitVec.toNat_ofNat, BitVec.toNat_ofNat, BitVec.toNat_ofNat, Nat.mod_eq_of_lt (show v < 2 ^ 32 by omega), Nat.mod_eq_of_lt (show t < 2 ^ 32 by omega), Nat.mod_eq_of_lt (show v * 256 + t < 2 ^ 32 by omega), Nat.mod_eq_of_lt (by rw [Nat.shiftLeft_eq]; omega), ← Nat.shiftLeft_add_eq_or_of_lt (show t < 2 ^ 8 by omega), Nat.shiftLeft_eq]
theorem shr_k {w : Nat} (hw : w < 2147483648) : ∀ k, k < 4 → nI w >>> (nI (24 - 8 * k) &&& 31) = nI (w / 2 ^ (24 - 8 * k)) := by
  intro k hk
  apply Int32.toBitVec_inj.mp
  apply BitVec.eq_of_toNat_eq
  have e : (nI w >>> (nI (24 - 8 * k) &&& 31)).toBitVec = (nI w).toBitVec.sshiftRight (24 - 8 * k) := by
    have h : ∀ k, k < 4 → ((nI (24 - 8 * k) &&& 31).toBitVec.smod 32).toNat = 24 - 8 * k := by decide
    show (nI w).toBitVec.sshiftRight (((nI (24 - 8 * k) &&& 31).toBitVec.smod 32).toNat) = _
    rw [h k hk]
  have m : (nI w).toBitVec.msb = false := by
    show (BitVec.ofNat 32 w).msb = false
    rw [BitVec.msb_eq_decide, BitVec.toNat_ofNat, Nat.mod_eq_of_lt (by omega)]
    exact decide_eq_false (by omega)
  rw [e, BitVec.sshiftRight_eq_of_msb_false m, BitVec.toNat_ushiftRight]
  show (BitVec.ofNat 32 w).toNat >>> (24 - 8 * k) = (BitVec.ofNat 32 (w / 2 ^ (24 - 8 * k))).toNat
  have := Nat.div_le_self w (2 ^ (24 - 8 * k))
  rw [BitVec.toNat_ofNat, BitVec.toNat_ofNat, Nat.shiftRight_eq_div_pow, Nat.mod_eq_of_lt (by omega), Nat.mod_eq_of_lt (by omega)]
theorem lowB {u c : Nat} (hu : u < 2147483648) (hc : u % 256 = c) (h : c < 128) : (nI u).toInt8.toInt32 = nI c := by
  have e : (nI u).toInt8 = (nI c).toInt8 := by
    apply Int8.toBitVec_inj.mp
    apply BitVec.eq_of_toNat_eq
    show ((BitVec.ofNat 32 u).signExtend 8).toNat = ((BitVec.ofNat 32 c).signExtend 8).toNat
    rw [BitVec.signExtend_eq_setWidth_of_le _ (by decide), BitVec.signExtend_eq_setWidth_of_le _ (by decide), BitVec.toNat_setWidth, BitVec.toNat_setWidth, BitVec.toNat_ofNat, BitVec.toNat_ofNat]
    omega
  rw [e]
  exact bySg_lt c h
def pw (f : Nat → Nat) (a : Nat) : Nat → Nat
  | 0 => 0
  | m + 1 => pw f a m * 256 + f (a + m)
theorem pw4 {f : Nat → Nat} {a : Nat} (h : ∀ j, f j < 128) : pw f a 4 < 2147483648 ∧ pw f a 3 < 8388608 ∧ pw f a 2 < 8388608 ∧ pw f a 1 < 8388608 := by
  have h0 := h (a + 0)
  have h1 := h (a + 1)
  have h2 := h (a + 2)
  have h3 := h (a + 3)
  simp only [pw]
  omega
theorem pw_at {f : Nat → Nat} {a k : Nat} (h : ∀ j, f j < 128) (hk : k < 4) : (nI (pw f a 4) >>> (nI (24 - 8 * k) &&& 31)).toInt8.toInt32 = nI (f (a + k)) := by
  have h4 := pw4 (a := a) h
  rw [shr_k h4.1 k hk]
  have h0 := h (a + 0)
  have h1 := h (a + 1)
  have h2 := h (a + 2)
  have h3 := h (a + 3)
  have hk4 : k = 0 ∨ k = 1 ∨ k = 2 ∨ k = 3 := by omega
  refine lowB (Nat.lt_of_le_of_lt (Nat.div_le_self _ _) h4.1) ?_ (h _)
  rcases hk4 with c | c | c | c <;> subst c <;> simp only [pw] <;> omega
