/-! permit -/
def ct (q : Nat) (m : Nat) : Nat := sm m (fun b => q / 2 ^ b % 2)
def clr (q a : Nat) : Nat := q - q / 2 ^ a % 2 * 2 ^ a
def nq (b : Bool) (q a : Nat) : Nat := if b = true then clr q a + 2 ^ a else clr q a
theorem rest_ok : ∀ q, q < 8 → ∀ a, a < 3 → nI q &&& (((1 : Int32) <<< (nI a &&& 31)) ^^^ (-1 : Int32)) = nI (clr q a) ∧ nI (clr q a) ||| ((1 : Int32) <<< (nI a &&& 31)) = nI (clr q a + 2 ^ a) := by decide +kernel
theorem nq_ok : ∀ q, q < 8 → ∀ a, a < 3 → ∀ b, nq b q a < 8 ∧ ∀ c, c < 3 → nq b q a / 2 ^ c % 2 = if c = a then (if b = true then 1 else 0) else q / 2 ^ c % 2 := by decide +kernel
theorem none_ok' : ∀ q, q < 8 → ∀ m, m < 4 → ∀ a, a < 3 → (!(decide (a < m) && decide (1 ≤ ct q m)) || (decide (nI (clr q a) &&& (((1 : Int32) <<< (nI m &&& 31)) - (1 : Int32)) = 0) == (decide (q / 2 ^ a % 2 = 1) && decide (ct q m = 1)))) = true := by decide +kernel
theorem none_ok {q m a : Nat} (hq : q < 8) (hm : m < 4) (ha : a < 3) (h1 : a < m) (h2 : 1 ≤ ct q m) : (nI (clr q a) &&& (((1 : Int32) <<< (nI m &&& 31)) - (1 : Int32)) = 0) = (q / 2 ^ a % 2 = 1 ∧ ct q m = 1) := by
  have h := none_ok' q hq m hm a ha
  rw [decide_eq_true h1, decide_eq_true h2] at h
  simp only [Bool.and_self, Bool.not_true, Bool.false_or, beq_iff_eq] at h
  have h3 := congrArg (fun b => b = true) h
  simp only [decide_eq_true_eq, Bool.and_eq_true] at h3
  exact h3
theorem ct_pos {q m : Nat} (h : ∃ a, a < m ∧ q / 2 ^ a % 2 = 1) : 1 ≤ ct q m := by
  obtain ⟨a, ha, e⟩ := h
  have := le_sm (f := fun b => q / 2 ^ b % 2) ha
  unfold ct
  omega
theorem Has.prm {M : Mem} (h : Has M) {x : Nat} (hx : x < cN (gI M 112)) : ∃ q, q < 8 ∧ gI M 12 x = nI q ∧ (∀ a, a < cM (gI M 112) x → gI M 109 (22 + (x * 3 + a)) = nI (q / 2 ^ a % 2)) ∧ 1 ≤ ct q (cM (gI M 112) x) := by
  obtain ⟨q, q1, q2, q3⟩ := h.RS.2.2.1 x hx
  refine ⟨q, q1, q2, q3, ct_pos ?_⟩
  obtain ⟨a, ha, e⟩ := h.VS.2.2.2.2.2.2.2.1 x hx
  refine ⟨a, ha, ?_⟩
  rw [q3 a ha] at e
  have h2 : q / 2 ^ a % 2 < 2 := Nat.mod_lt _ (by decide)
  rw [nI_eqx (by omega) (by decide)] at e
  exact e
theorem pmt_q {S : Nat → Int32} {x a q : Nat} (h : S (22 + (x * 3 + a)) = nI (q / 2 ^ a % 2)) : pmt S x a = decide (q / 2 ^ a % 2 = 1) := by
  have h2 : q / 2 ^ a % 2 < 2 := Nat.mod_lt _ (by decide)
  unfold pmt
  rw [h]
  by_cases c : q / 2 ^ a % 2 = 1
  · rw [c]
    decide
  · rw [show q / 2 ^ a % 2 = 0 by omega]
    decide
/-- whether the change is refused -/
def pNo (b : Bool) (q a m : Nat) : Prop := b = false ∧ q / 2 ^ a % 2 = 1 ∧ ct q m = 1
/-- class, up to the change -/
theorem permitC {Z : Nat} {M : Mem} (h : Has M) {x a q : Nat} (b : Bool) (hx : x < cN (gI M 112)) (ha : a < cM (gI M 112) x) (hq : q < 8) (e12 : gI M 12 x = nI q) (hS : ∀ a, a < cM (gI M 112) x → gI M 109 (22 + (x * 3 + a)) = nI (q / 2 ^ a % 2)) (hct : 1 ≤ ct q (cM (gI M 112) x)) :
    (pNo b q a (cM (gI M 112) x) → f_X11_permit Z M (nI x) (nI a) (bN b) = some (.error 2, M)) ∧
    (¬ pNo b q a (cM (gI M 112) x) → f_X11_permit Z M (nI x) (nI a) (bN b) = cl (f_X3_keep Z M) (fun v7 M8 => wrI M8 12 6 (nI x) (nI (nq b q a)) (fun M9 => some (.ok (bN (pmt (gI M 109) x a)), M9)))) := by
  have hN := h.N
  have hm := h.z.2.1 x
  have hr := rest_ok q hq a (by omega)
  have hno := none_ok (m := cM (gI M 112) x) (a := a) hq (by omega) (by omega) ha hct
  have hp := permits_eq (Z := Z) h.RS h.z.2.1 hN.2 hx ha
  cases b with
  | false =>
    have e : f_X11_permit Z M (nI x) (nI a) (bN false) = if q / 2 ^ a % 2 = 1 ∧ ct q (cM (gI M 112) x) = 1 then some (.error 2, M) else cl (f_X3_keep Z M) (fun v7 M8 => wrI M8 12 6 (nI x) (nI (clr q a)) (fun M9 => some (.ok (bN (pmt (gI M 109) x a)), M9))) := by
      unfold f_X11_permit
      rw [h.nA hx, if_pos (inR_of ha (by omega)), clT_ok, rdI_n (by omega) (by decide), e12, hr.1]
      simp only [jn_eq]
      rw [if_pos (show bN false = 0 from rfl), rdI_n (by omega) (by decide), h.c.2.1 x (by omega)]
      simp only [hno]
      by_cases c : q / 2 ^ a % 2 = 1 ∧ ct q (cM (gI M 112) x) = 1
      · rw [if_pos c, if_pos c]
      · rw [if_neg c, if_neg c, hp, cl_some]
        simp only [show (bN false = 0) = True from eq_true rfl, if_true, bN_and]
    refine ⟨fun g => ?_, fun g => ?_⟩
    · rw [e, if_pos g.2]
    · rw [e, if_neg (fun z => g ⟨rfl, z⟩)]
      rfl
  | true =>
    refine ⟨fun g => absurd g.1 (by decide), fun _ => ?_⟩
    unfold f_X11_permit
    rw [h.nA hx, if_pos (inR_of ha (by omega)), clT_ok, rdI_n (by omega) (by decide), e12, hr.1, hr.2]
    simp only [jn_eq]
    rw [if_neg (show ¬ bN true = 0 by decide), hp, cl_some]
    simp only [show (bN true = 0) = False from eq_false (by decide), if_false, bN_and, if_true]
    rfl
