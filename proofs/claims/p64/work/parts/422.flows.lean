theorem partsTo_eq {Z : Nat} {M : Mem} {PT : Nat → Nat → Int64} (h : MT 17 M PT) {x y : Nat} (hx : x < 6) (hy : y < 6) : f_X1_partsTo Z M (nI x) (nI y) = some (PT x y, M) := by
  unfold f_X1_partsTo
  simp (disch := omega) only [bd_eq, jn_eq, cl_some, i0, i1, i2, i3, i4, i5, i6, i8, i10, i14, i36, i86, nI_add, nI_mul, rdI_n, rdL_n, wrI_n, wrL_n, nI_ile, nI_ilt]
  rw [h x hx y hy]
theorem spread_ok {Z : Nat} {M : Mem} {N : Nat} (h3 : gI M 3 0 = nI N) (hN : N ≤ 6) (hZ : 40 < Z) {T : Nat → Nat → Nat} (hT : MT 17 M (fun x y => if x < N ∧ y < N then lN (T x y) else 0)) {w t : Nat} (hw : w ≠ 17) (ht : t < 5) {A : Nat → Nat → Int64} {F : Nat → Nat} (hA : MT w M A) (hF : ∀ x, x < N → A t x = lN (F x)) (hFb : ∀ x, F x < 2 ^ 63) (hA1 : ∀ y, y < N → A (t + 1) y = 0) (hw3 : w ≠ 3) :
    OK (f_X1_spread Z M w (nI t)) (fun _ M' => fr [w] M M' ∧ MT w M' (fun a b => if a = t + 1 ∧ b < N then lN (sm N (fun x => F x * T x b)) else A a b)) := by
  unfold f_X1_spread
  rw [i0]
  refine lpS (fun n i M1 => f_X1_spread_L2 Z w (nI t) n (nI i) M1) (fun x => OK x _) (fun i M1 => fr [w] M M1 ∧ MT w M1 (fun a b => if a = t + 1 ∧ b < N then lN (sm i (fun x => F x * T x b)) else A a b)) 0 N (by omega) (by omega) ⟨fr.rfl, hA.congr rfl (fun a _ b _ => ?_)⟩ ?_ ?_
  · by_cases c : a = t + 1 ∧ b < N
    · rw [if_pos c, c.1, hA1 b c.2]
      rfl
    · rw [if_neg c]
  · intro n x M2 _ hx ⟨hf, hv⟩ K
    have h32 : gI M2 3 0 = nI N := by rw [hf.I (by simp; omega)]; exact h3
    have hT2 : MT 17 M2 (fun x y => if x < N ∧ y < N then lN (T x y) else 0) := hT.congr (hf.L (by simp; omega)) (fun _ _ _ _ => rfl)
    rw [f_X1_spread_L2, bd_eq, h32]
    have hcell : gL M2 w (t * 6 + x) = lN (F x) := by
      rw [hv t (by omega) x (by omega)]
      dsimp only
      rw [if_neg (by omega), hF x hx]
    simp (disch := omega) only [if_neg (show ¬ N ≤ x by omega), hcell, bd_eq, jn_eq, cl_some, i0, i1, i2, i3, i4, i5, i6, i8, i10, i14, i36, i86, nI_add, nI_mul, rdI_n, rdL_n, wrI_n, wrL_n, nI_ile, nI_ilt]
    by_cases h0 : F x = 0
    · have e0 : (lN (F x) ≤ (0 : Int64)) := by rw [h0]; exact Int64.le_refl _
      rw [if_pos e0]
      refine K M2 ⟨hf, hv.congr rfl (fun a _ b _ => ?_)⟩
      by_cases c : a = t + 1 ∧ b < N
      · rw [if_pos c, if_pos c]
        show lN (sm x _ + F x * T x b) = _
        rw [h0, Nat.zero_mul, Nat.add_zero]
      · rw [if_neg c, if_neg c]
    · have e0 : ¬ (lN (F x) ≤ (0 : Int64)) := by
        rw [l0, lN_ile (hFb x) (by decide)]
        omega
      rw [if_neg e0]
      refine lpS (fun n' i M1 => f_X1_spread_L33 Z w (nI t) (nI x) (lN (F x)) (fun M13 => f_X1_spread_L2 Z w (nI t) n (nI (x + 1)) M13) n' (nI i) M1) (fun x => OK x _) (fun i M1 => fr [w] M M1 ∧ MT w M1 (fun a b => if a = t + 1 ∧ b < N then lN (sm x (fun x => F x * T x b) + (if b < i then F x * T x b else 0)) else A a b)) 0 N (by omega) (by omega) ⟨hf, hv.congr rfl (fun a _ b _ => by rw [if_neg (Nat.not_lt_zero b)]; rfl)⟩ ?_ ?_
      · intro n' y M3 _ hy ⟨hf3, hv3⟩ K3
        have h33 : gI M3 3 0 = nI N := by rw [hf3.I (by simp; omega)]; exact h3
        have hT3 : MT 17 M3 (fun x y => if x < N ∧ y < N then lN (T x y) else 0) := hT.congr (hf3.L (by simp; omega)) (fun _ _ _ _ => rfl)
        have hp := partsTo_eq (Z := Z) hT3 (x := x) (y := y) (by omega) (by omega)
        have hc3 : gL M3 w ((t + 1) * 6 + y) = lN (sm x (fun x => F x * T x y)) := by
          rw [hv3 (t + 1) (by omega) y (by omega)]
          dsimp only
          rw [if_pos ⟨rfl, hy⟩, if_neg (Nat.lt_irrefl y), Nat.add_zero]
        rw [f_X1_spread_L33, bd_eq, h33]
        simp (disch := omega) only [if_neg (show ¬ N ≤ y by omega), hp, hc3, if_pos (And.intro hx hy), lN_mul, lN_add, bd_eq, jn_eq, cl_some, i0, i1, i2, i3, i4, i5, i6, i8, i10, i14, i36, i86, nI_add, nI_mul, rdI_n, rdL_n, wrI_n, wrL_n, nI_ile, nI_ilt]
        refine K3 _ ⟨fr_sL hf3 List.mem_cons_self, (hv3.set (x := t + 1) (y := y) (by omega)).congr rfl (fun a _ b _ => ?_)⟩
        dsimp only [mst]
        by_cases d : b = y
        · subst d
          by_cases c : a = t + 1
          · simp [c, hy]
          · simp [c]
        · have e1 : (b < y + 1) = (b < y) := propext ⟨fun h => by omega, fun h => by omega⟩
          simp only [d, and_false, if_false, e1]
      · intro n' M3 ⟨hf3, hv3⟩
        have h33 : gI M3 3 0 = nI N := by rw [hf3.I (by simp; omega)]; exact h3
        rw [f_X1_spread_L33, bd_eq, h33]
        simp only [ge_self, if_true]
        refine K M3 ⟨hf3, hv3.congr rfl (fun a _ b _ => ?_)⟩
        by_cases c : a = t + 1 ∧ b < N
        · rw [if_pos c, if_pos c, if_pos c.2]
          rfl
        · rw [if_neg c, if_neg c]
  · intro n M2 ⟨hf, hv⟩
    have h32 : gI M2 3 0 = nI N := by rw [hf.I (by simp; omega)]; exact h3
    rw [f_X1_spread_L2, bd_eq, h32]
    simp only [ge_self, if_true]
    exact OK.ret ⟨hf, hv⟩
/-- the flow of a state at a time -/
def Fl (N : Nat) (T : Nat → Nat → Nat) (st : Nat) : Nat → Nat → Nat
  | 0, x => if x = st then 1 else 0
  | t + 1, y => sm N (fun x => Fl N T st t x * T x y)
theorem sm_add {n : Nat} {f g : Nat → Nat} : sm n (fun i => f i + g i) = sm n f + sm n g := by
  induction n with
  | zero => rfl
  | succ n ih => show sm n _ + (f n + g n) = (sm n f + f n) + (sm n g + g n); rw [ih]; omega
theorem sm_mul {n c : Nat} {f : Nat → Nat} : sm n (fun i => c * f i) = c * sm n f := by
  induction n with
  | zero => rfl
  | succ n ih => show sm n _ + c * f n = c * (sm n f + f n); rw [ih, Nat.mul_add]
theorem sm_zero {n : Nat} : sm n (fun _ => 0) = 0 := by
  induction n with
  | zero => rfl
  | succ n ih => show sm n _ + 0 = 0; rw [ih]
theorem sm_swap {n k : Nat} {f : Nat → Nat → Nat} : sm n (fun i => sm k (f i)) = sm k (fun j => sm n (fun i => f i j)) := by
  induction n with
  | zero => exact sm_zero.symm
  | succ n ih => show sm n _ + sm k (f n) = _; rw [ih, ← sm_add]; rfl
theorem sm_le {n : Nat} {f g : Nat → Nat} (h : ∀ i, i < n → f i ≤ g i) : sm n f ≤ sm n g := by
  induction n with
  | zero => exact Nat.le_refl _
  | succ n ih => exact Nat.add_le_add (ih (fun i hi => h i (by omega))) (h n (by omega))
theorem le_sm {n i : Nat} {f : Nat → Nat} (h : i < n) : f i ≤ sm n f := by
  induction n with
  | zero => omega
  | succ n ih =>
    show f i ≤ sm n f + f n
    by_cases c : i = n
    · rw [c]; omega
    · have := ih (by omega); omega
/-- rows of T sum to at most 1000: so do the flows, in the power of the time -/
theorem Fl_sum {N st : Nat} {T : Nat → Nat → Nat} (hT : ∀ x, x < N → sm N (T x) ≤ 1000) : ∀ t, sm N (Fl N T st t) ≤ 1000 ^ t := by
  intro t
  induction t with
  | zero =>
    show sm N (fun x => if x = st then 1 else 0) ≤ 1
    have key : ∀ n, sm n (fun x => if x = st then 1 else 0) ≤ (if st < n then 1 else 0) := by
      intro n
      induction n with
      | zero => simp [sm]
      | succ n ih =>
        show sm n _ + (if n = st then 1 else 0) ≤ _
        by_cases c : n = st
        · subst c
          rw [if_neg (Nat.lt_irrefl n)] at ih
          simp
          omega
        · rw [if_neg c]
          by_cases d : st < n
          · rw [if_pos d] at ih
            rw [if_pos (by omega)]
            omega
          · rw [if_neg d] at ih
            rw [if_neg (by omega)]
            omega
    have := key N
    split at this <;> omega
  | succ t ih =>
    show sm N (fun y => sm N (fun x => Fl N T st t x * T x y)) ≤ _
    rw [sm_swap]
    have h1 : sm N (fun j => sm N (fun i => Fl N T st t j * T j i)) ≤ sm N (fun j => 1000 * Fl N T st t j) := sm_le (fun j hj => by
      rw [sm_mul, Nat.mul_comm 1000]
      exact Nat.mul_le_mul_left _ (hT j hj))
    rw [sm_mul] at h1
    rw [Nat.pow_succ]
    exact Nat.le_trans h1 (by rw [Nat.mul_comm]; exact Nat.mul_le_mul_right _ ih)
theorem Fl_lt {N st : Nat} {T : Nat → Nat → Nat} (hT : ∀ x, x < N → sm N (T x) ≤ 1000) {t x : Nat} (hx : x < N) (ht : t ≤ 5) : Fl N T st t x ≤ 10 ^ 15 := by
  have h1 := le_sm (f := Fl N T st t) hx
  have h2 := Fl_sum (st := st) hT t
  have h3 : 1000 ^ t ≤ 1000 ^ 5 := Nat.pow_le_pow_right (by decide) ht
  have h4 : (1000 : Nat) ^ 5 = 10 ^ 15 := by decide
  omega

