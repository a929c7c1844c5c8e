theorem and_or0 {a b m : Int32} : ((a ||| b) &&& m = 0) = (a &&& m = 0 ∧ b &&& m = 0) := by
  have e : ∀ x : Int32, (x = 0) = (x.toBitVec = 0#32) := fun x => propext ⟨fun h => by rw [h]; rfl, fun h => Int32.toBitVec_inj.mp h⟩
  rw [e, e, e, Int32.toBitVec_and, Int32.toBitVec_or, Int32.toBitVec_and, Int32.toBitVec_and, BitVec.and_or_distrib_right, BitVec.or_eq_zero_iff]
theorem bit6 : ∀ s, s < 64 → ∀ x, x < 6 → (((nI s >>> (nI x &&& 31)) &&& (1 : Int32)) = (1 : Int32)) = (s / 2 ^ x % 2 = 1) := by decide +kernel
theorem bit6z : ∀ s, s < 64 → ∀ x, x < 6 → (((nI s >>> (nI x &&& 31)) &&& (1 : Int32)) = 0) = (s / 2 ^ x % 2 = 0) := by decide +kernel
theorem one6 : ∀ s, s < 64 → ∀ x, x < 6 → (((nI 1 <<< (nI x &&& 31)) &&& (nI s ^^^ (-1 : Int32))) = 0) = (s / 2 ^ x % 2 = 1) := by decide +kernel
theorem top6 : ∀ n, n ≤ 6 → (((1 : Int32) <<< (nI n &&& 31)) - (1 : Int32)).toInt = ((2 ^ n - 1 : Nat) : Int) := by decide +kernel
theorem pow6 : ∀ n, n ≤ 6 → 2 ^ n - 1 < 64 := by decide
theorem bit6n {s x : Nat} (hs : s < 64) (hx : x < 6) : (((nI s >>> (nI x &&& 31)) &&& nI 1) = nI 1) = (s / 2 ^ x % 2 = 1) := bit6 s hs x hx
theorem bit6y {s x : Nat} (hs : s < 64) (hx : x < 6) : (((nI s >>> (nI x &&& 31)) &&& nI 1) = nI 0) = (s / 2 ^ x % 2 = 0) := bit6z s hs x hx
/-- a set of states misses none of these -/
theorem brk_and {c : Nat → Bool} {s n : Nat} (hs : s < 64) (hn : n ≤ 6) : (brk c n &&& (nI s ^^^ (-1 : Int32)) = 0) = (∀ y, y < n → c y = true → s / 2 ^ y % 2 = 1) := by
  induction n with
  | zero =>
    have : (nI 0 &&& (nI s ^^^ (-1 : Int32))) = 0 := Int32.zero_and
    exact propext ⟨fun _ y hy => absurd hy (by omega), fun _ => this⟩
  | succ n ih =>
    have ih := ih (by omega)
    show ((if c n then brk c n ||| (nI 1 <<< (nI n &&& 31)) else brk c n) &&& _ = 0) = _
    by_cases g : c n = true
    · rw [if_pos g, and_or0, ih, one6 s hs n (by omega)]
      refine propext ⟨fun h y hy e => ?_, fun h => ⟨fun y hy e => h y (by omega) e, h n (by omega) g⟩⟩
      by_cases d : y = n
      · rw [d]; exact h.2
      · exact h.1 y (by omega) e
    · rw [if_neg g, ih]
      refine propext ⟨fun h y hy e => ?_, fun h y hy e => h y (by omega) e⟩
      by_cases d : y = n
      · rw [d] at e
        exact absurd e g
      · exact h y (by omega) e
theorem brk_andn {c : Nat → Bool} {s n : Nat} (hs : s < 64) (hn : n ≤ 6) : (brk c n &&& (nI s ^^^ (-nI 1 : Int32)) = 0) = (∀ y, y < n → c y = true → s / 2 ^ y % 2 = 1) := brk_and hs hn
/-- where a step leads -/
def lead (P S : Nat → Int32) (x y : Nat) : Bool := decide (0 < Tp (cM P) (cP P) (sW9 S) x y)
theorem nextStates_eq {Z : Nat} {M : Mem} {N : Nat} (h3 : gI M 3 0 = nI N) (hN : N ≤ 6) (hZ : 10 < Z) {T : Nat → Nat → Nat} (hTb : ∀ x y, x < N → y < N → T x y ≤ 1000) (hT : MT 17 M (fun x y => if x < N ∧ y < N then lN (T x y) else 0)) {x : Nat} (hx : x < N) : f_X1_nextStates Z M (nI x) = some (brk (fun y => decide (0 < T x y)) N, M) := by
  unfold f_X1_nextStates
  rw [i0]
  refine lpS (σ := Unit) (fun n i _ => f_X1_nextStates_L4 Z (nI x) n (brk (fun y => decide (0 < T x y)) i) (nI i) M) (fun r => r = some (brk (fun y => decide (0 < T x y)) N, M)) (fun _ _ => True) 0 N (s := ()) (by omega) (by omega) trivial ?_ ?_
  · intro n y _ _ hy _ K
    have K1 := K () trivial
    have hb := hTb x y hx hy
    rw [← brk_if (X := T x y ≤ 0) (by rw [decide_eq_false_iff_not]; omega)] at K1
    rw [f_X1_nextStates_L4, bd_eq, h3]
    simp (disch := omega) only [if_neg (show ¬ N ≤ y by omega), nI_ile, partsTo_eq hT (show x < 6 by omega) (show y < 6 by omega), cl_some, if_pos (And.intro hx hy), l0, lN_ile, i1, nI_add]
    by_cases c : T x y ≤ 0
    · rw [if_pos c] at K1 ⊢
      exact K1
    · rw [if_neg c] at K1 ⊢
      exact K1
  · intro n _ _
    rw [f_X1_nextStates_L4, bd_eq, h3]
    simp only [ge_self, if_true]
/-- a state breaks a set: it lies in it, and leads out of it -/
def outOf (P S : Nat → Int32) (s x : Nat) : Bool := decide (s / 2 ^ x % 2 = 1) && decide (∃ y, y < cN P ∧ s / 2 ^ y % 2 = 0 ∧ 0 < Tp (cM P) (cP P) (sW9 S) x y)
/-- from i on, of d states: is there none that breaks the set? -/
def clo (f : Nat → Bool) : Nat → Nat → Int32
  | 0, _ => 1
  | d + 1, i => if f i then 0 else clo f d (i + 1)
theorem clo_step {f : Nat → Bool} {N i : Nat} (h : i < N) : clo f (N - i) i = if f i then 0 else clo f (N - (i + 1)) (i + 1) := by
  rw [show N - i = (N - (i + 1)) + 1 by omega]
  rfl
