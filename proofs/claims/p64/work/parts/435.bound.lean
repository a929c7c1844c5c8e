def horN (F : Nat → Nat) : Nat → Nat
  | 0 => 0
  | n + 1 => horN F n * 1000 + F n
theorem lN_hor {F : Nat → Nat} {n : Nat} : hor (fun t => lN (F t)) n = lN (horN F n) := by
  induction n with
  | zero => rfl
  | succ n ih =>
    show hor _ n * 1000 + lN (F n) = lN (horN F n * 1000 + F n)
    rw [ih, ← lN_add, ← lN_mul]
    rfl
theorem lN_smL {F : Nat → Nat} {n : Nat} : smL n (fun i => lN (F i)) = lN (sm n F) := by
  induction n with
  | zero => rfl
  | succ n ih =>
    show smL n _ + lN (F n) = lN (sm n F + F n)
    rw [ih, ← lN_add]
def uN (P : Nat → Int32) (W : Nat → Nat) (b st H : Nat) : Nat := sm (cN P) (fun x => horN (fun t => fNow P W st t x) H * sm (cM P x) (fun a => W (x * 3 + a) * cA P (x * 3 + a) b))
theorem uRun_lN {P : Nat → Int32} {W : Nat → Nat} {b st H : Nat} : uRun P W b st H = lN (uN P W b st H) := by
  unfold uRun uN uNow
  simp only [lN_smL, lN_hor, lN_mul]
theorem horN_sum {N : Nat} {F : Nat → Nat → Nat} (h : ∀ t, sm N (F t) ≤ 1000 ^ t) : ∀ n, 1000 * sm N (fun x => horN (fun t => F t x) n) ≤ n * 1000 ^ n := by
  intro n
  induction n with
  | zero =>
    show 1000 * sm N (fun _ => 0) ≤ _
    rw [sm_zero]
    omega
  | succ n ih =>
    show 1000 * sm N (fun x => horN (fun t => F t x) n * 1000 + F n x) ≤ _
    rw [sm_add, show (fun x => horN (fun t => F t x) n * 1000) = (fun x => 1000 * horN (fun t => F t x) n) from funext (fun x => Nat.mul_comm _ _), sm_mul, Nat.pow_succ]
    have h1 := h n
    have e1 : (n + 1) * (1000 ^ n * 1000) = 1000 * (n * 1000 ^ n) + 1000 * 1000 ^ n := by
      rw [Nat.add_mul, Nat.one_mul, Nat.mul_comm (1000 ^ n) 1000, ← Nat.mul_assoc, ← Nat.mul_assoc, Nat.mul_comm n 1000]
    rw [e1]
    omega
theorem uN_le {P : Nat → Int32} {W : Nat → Nat} {b st H : Nat} (hV : VP P) (hW : ∀ x, x < cN P → sm (cM P x) (fun a => W (x * 3 + a)) ≤ 10) (hT : ∀ x, x < cN P → sm (cN P) (Tp (cM P) (cP P) W x) ≤ 1000) (h1 : 1 ≤ H) : uN P W b st H ≤ 495 * (10 * 1000 ^ (H - 1)) * H := by
  have h2 : uN P W b st H ≤ sm (cN P) (fun x => 990 * horN (fun t => fNow P W st t x) H) := sm_le (fun x hx => by
    have h3 : sm (cM P x) (fun a => W (x * 3 + a) * cA P (x * 3 + a) b) ≤ sm (cM P x) (fun a => 99 * W (x * 3 + a)) := sm_le (fun a _ => by
      rw [Nat.mul_comm]
      exact Nat.mul_le_mul_right _ (hV.2.2.2.2.2.1 _ _))
    rw [sm_mul] at h3
    have h4 := hW x hx
    rw [Nat.mul_comm]
    exact Nat.mul_le_mul_right _ (by omega))
  rw [sm_mul] at h2
  have h5 := horN_sum (N := cN P) (F := fun t x => fNow P W st t x) (fun t => Fl_sum hT t) H
  obtain ⟨k, rfl⟩ : ∃ k, H = k + 1 := ⟨H - 1, by omega⟩
  rw [Nat.add_sub_cancel]
  rw [Nat.pow_succ] at h5
  have e1 : (k + 1) * (1000 ^ k * 1000) = 1000 * ((k + 1) * 1000 ^ k) := by
    rw [← Nat.mul_assoc, Nat.mul_comm]
  rw [e1] at h5
  have e2 : 495 * (10 * 1000 ^ k) * (k + 1) = 4950 * ((k + 1) * 1000 ^ k) := by
    rw [← Nat.mul_assoc, Nat.mul_assoc, Nat.mul_comm (1000 ^ k)]
  rw [e2]
  omega

