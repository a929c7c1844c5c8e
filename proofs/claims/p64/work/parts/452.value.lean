/-! values of steps -/
def VO (P : Nat → Int32) (n : Nat) (V : Nat → Int64) (r : Nat) : Int64 := (P (14 + r)).toInt64 * lN (100 ^ (n - 1)) + smL (cN P) (fun y => lN (cP P r y) * V y)
/-- the first permitted one of the greatest value -/
def pk (p : Nat → Bool) (v : Nat → Int64) : Nat → Option Nat
  | 0 => none
  | a + 1 => match pk p v a with
    | none => if p a then some a else none
    | some b => if p a ∧ v b < v a then some a else some b
def pkI (o : Option Nat) : Int32 := match o with
  | none => -1
  | some a => nI a
def pkV (v : Nat → Int64) (o : Option Nat) : Int64 := match o with
  | none => -9223372036854775808
  | some a => v a
theorem pick_lt {p : Nat → Bool} {v : Nat → Int64} : ∀ n b, pk p v n = some b → b < n := by
  intro n
  induction n with
  | zero => intro b h; exact nomatch h
  | succ n ih =>
    intro b h
    have e : pk p v (n + 1) = (match pk p v n with
      | none => if p n then some n else none
      | some b => if p n ∧ v b < v n then some n else some b) := rfl
    rw [e] at h
    cases c : pk p v n with
    | none =>
      rw [c] at h
      by_cases d : p n = true
      · simp only [d, if_true, Option.some.injEq] at h
        omega
      · simp only [d] at h
        exact nomatch h
    | some b' =>
      rw [c] at h
      have hb := ih b' c
      by_cases d : p n = true ∧ v b' < v n
      · simp only [d, and_self, if_true, Option.some.injEq] at h
        omega
      · simp only [if_neg d, Option.some.injEq] at h
        omega
theorem pick_some {p : Nat → Bool} {v : Nat → Int64} : ∀ n, (∃ a, a < n ∧ p a = true) → ∃ b, pk p v n = some b := by
  intro n
  induction n with
  | zero => intro ⟨a, h, _⟩; omega
  | succ n ih =>
    intro ⟨a, ha, hp⟩
    have e : pk p v (n + 1) = (match pk p v n with
      | none => if p n then some n else none
      | some b => if p n ∧ v b < v n then some n else some b) := rfl
    rw [e]
    cases c : pk p v n with
    | none =>
      by_cases d : a = n
      · subst d
        exact ⟨a, by simp only [hp, if_true]⟩
      · obtain ⟨b, hb⟩ := ih ⟨a, by omega, hp⟩
        rw [c] at hb
        exact nomatch hb
    | some b' =>
      by_cases d : p n = true ∧ v b' < v n
      · exact ⟨n, by simp only [if_pos d]⟩
      · exact ⟨b', by simp only [if_neg d]⟩
def VL (P S : Nat → Int32) : Nat → Nat → Int64
  | 0, _ => 0
  | n + 1, x => VO P (n + 1) (VL P S n) (x * 3 + (pk (pmt S x) (fun a => VO P (n + 1) (VL P S n) (x * 3 + a)) (cM P x)).getD 0)
theorem VL_0 {P S : Nat → Int32} {x : Nat} : VL P S 0 x = 0 := by rw [VL]
theorem VL_s {P S : Nat → Int32} {n x : Nat} : VL P S (n + 1) x = VO P (n + 1) (VL P S n) (x * 3 + (pk (pmt S x) (fun a => VO P (n + 1) (VL P S n) (x * 3 + a)) (cM P x)).getD 0) := by rw [VL]
theorem VS.one {P S : Nat → Int32} (h : VS P S) {x : Nat} (hx : x < cN P) : ∃ a, a < cM P x ∧ pmt S x a = true := by
  obtain ⟨a, ha, e⟩ := h.2.2.2.2.2.2.2.1 x hx
  exact ⟨a, ha, decide_eq_true e⟩
theorem bN1 {b : Bool} : (bN b = 0) = (¬ b = true) := by
  cases b <;> simp [bN]
theorem neg1_ne {b : Nat} (hb : b < 2 ^ 31) : ¬ nI b = (-1 : Int32) := nI_ne_neg hb
