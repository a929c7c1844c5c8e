theorem and_or0 {a b m : Int32} : ((a ||| b) &&& m = 0) = (a &&& m = 0 ∧ b &&& m = 0) := by
  have e : ∀ x : Int32, (x = 0) = (x.toBitVec = 0#32) := fun x => propext ⟨fun h => by rw [h]; rfl, fun h => Int32.toBitVec_inj.mp h⟩
  rw [e, e, e, Int32.toBitVec_and, Int32.toBitVec_or, Int32.toBitVec_and, Int32.toBitVec_and, BitVec.and_or_distrib_right, BitVec.or_eq_zero_iff]
theorem bit6 : ∀ s, s < 64 → ∀ x, x < 6 → (((nI s >>> (nI x &&& 31)) &&& (1 : Int32)) = (1 : Int32)) = (s / 2 ^ x % 2 = 1) := by decide +kernel
theorem bit6z : ∀ s, s < 64 → ∀ x, x < 6 → (((nI s >>> (nI x &&& 31)) &&& (1 : Int32)) = 0) = (s / 2 ^ x % 2 = 0) := by decide +kernel
theorem one6 : ∀ s, s < 64 → ∀ x, x < 6 → (((nI 1 <<< (nI x &&& 31)) &&& (nI s ^^^ (-1 : Int32))) = 0) = (s / 2 ^ x % 2 = 1) := by decide +kernel
theorem top6 : ∀ n, n ≤ 6 → (((1 : Int32) <<< (nI n &&& 31)) - (1 : Int32)).toInt = ((2 ^ n - 1 : Nat) : Int) := by decide +kernel
theorem pow6 : ∀ n, n ≤ 6 → 2 ^ n - 1 < 64 := by decide
theorem bit6n {s x : Nat} (hs : s < 64) (hx : x < 6) : (((nI s >>> (nI x &&& 31)) &&& nI 1) = nI 1) = (s / 2 ^ x % 2 = 1) := bit6 s hs x hx
theorem bit6y {s x : Nat} (hs : s < 64) (hx : x < 6) : (((nI s >>> (nI x &&& 31)) &&& nI 1) = nI 0) = (s / 2 ^ x % 2 = 0) := bit6z s hs x hx
/-- a set of states misses none of these -/
theorem brk_and {c : Nat → Bool} {s n : Nat} (hs : s < 64) (hn : n ≤ 6) : (brk c n &&& (nI s ^^^ (-1 : Int32)) = 0) = (∀ y, y < n → c y = true → s / 2 ^ y % 2 = 1) := by
  induction n with
  | zero =>
    have : (nI 0 &&& (nI s ^^^ (-1 : Int32))) = 0 := Int32.zero_and
    exact propext ⟨fun _ y hy => absurd hy (by omega), fun _ => this⟩
  | succ n ih =>
    have ih := ih (by omega)
    show ((if c n then brk c n ||| (nI 1 <<< (nI n &&& 31)) else brk c n) &&& _ = 0) = _
    by_cases g : c n = true
    · rw [if_pos g, and_or0, ih, one6 s hs n (by omega)]
      refine propext ⟨fun h y hy e => ?_, fun h => ⟨fun y hy e => h y (by omega) e, h n (by omega) g⟩⟩
      by_cases d : y = n
      · rw [d]; exact h.2
      · exact h.1 y (by omega) e
    · rw [if_neg g, ih]
      refine propext ⟨fun h y hy e => ?_, fun h y hy e => h y (by omega) e⟩
      by_cases d : y = n
      · rw [d] at e
        exact absurd e g
      · exact h y (by omega) e
theorem brk_andn {c : Nat → Bool} {s n : Nat} (hs : s < 64) (hn : n ≤ 6) : (brk c n &&& (nI s ^^^ (-nI 1 : Int32)) = 0) = (∀ y, y < n → c y = true → s / 2 ^ y % 2 = 1) := brk_and hs hn
/-- where a step leads -/
def lead (P S : Nat → Int32) (x y : Nat) : Bool := decide (0 < Tp (cM P) (cP P) (sW9 S) x y)
/-- a state breaks a set: it lies in it, and leads out of it -/
def outOf (P S : Nat → Int32) (s x : Nat) : Bool := decide (s / 2 ^ x % 2 = 1) && decide (∃ y, y < cN P ∧ s / 2 ^ y % 2 = 0 ∧ 0 < Tp (cM P) (cP P) (sW9 S) x y)
/-- from i on, of d states: is there none that breaks the set? -/
def clo (f : Nat → Bool) : Nat → Nat → Int32
  | 0, _ => 1
  | d + 1, i => if f i then 0 else clo f d (i + 1)
theorem clo_step {f : Nat → Bool} {N i : Nat} (h : i < N) : clo f (N - i) i = if f i then 0 else clo f (N - (i + 1)) (i + 1) := by
  rw [show N - i = (N - (i + 1)) + 1 by omega]
  rfl
