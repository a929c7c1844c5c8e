theorem cl_R {α β : Type} {R : Option β → Prop} {Q : α × Mem → Prop} {f : Option (α × Mem)} {k : α → Mem → Option β} (h : Ok Q f) (K : ∀ v M, Q (v, M) → R (k v M)) : R (cl f k) := by
  obtain ⟨⟨v, M⟩, e, q⟩ := h
  rw [e]
  exact K v M q
/-! the acts of a state, and the states, with their text -/
def ActsT (M : Mem) (n nb x : Nat) : Nat → List Nat → Prop
  | 0, t => t = []
  | a + 1, t => ∃ t1 s, ActsT M n nb x a t1 ∧ AS M n nb x a s ∧ t = t1 ++ s
def StT (M : Mem) (n nb : Nat) : Nat → List Nat → Prop
  | 0, t => t = []
  | x + 1, t => ∃ t1 t2 t3 m, StT M n nb x t1 ∧ (1 ≤ m ∧ m ≤ 3 ∧ gI M 111 x = nI m) ∧ ActsT M n nb x m t2 ∧ RuS M (120 + x) m x t3 ∧ t = t1 ++ (t2 ++ t3)
theorem ActsT.fr {M M' : Mem} {n nb x : Nat} : ∀ {a : Nat} {t : List Nat}, ActsT M n nb x a t → (∀ b, b < a → gI M' (113 + x) b = gI M (113 + x) b ∧ gI M' (202 + x) b = gI M (202 + x) b ∧ gI M' (128 + 4 * x + b) = gI M (128 + 4 * x + b) ∧ gI M' (153 + 4 * x + b) = gI M (153 + 4 * x + b) ∧ gI M' (178 + 4 * x + b) = gI M (178 + 4 * x + b)) → ActsT M' n nb x a t
  | 0, _, h, _ => h
  | a + 1, _, ⟨t1, s, h1, h2, h3⟩, e => by
    obtain ⟨e1, e2, e3, e4, e5⟩ := e a (by omega)
    exact ⟨t1, s, h1.fr (fun b hb => e b (by omega)), h2.fr e1 e2 e3 e4 e5, h3⟩
theorem StT.fr {M M' : Mem} {n nb : Nat} : ∀ {x : Nat} {t : List Nat}, StT M n nb x t → (∀ y, y < x → gI M' 111 y = gI M 111 y ∧ gI M' (113 + y) = gI M (113 + y) ∧ gI M' (120 + y) = gI M (120 + y) ∧ gI M' (202 + y) = gI M (202 + y) ∧ ∀ b, b < 3 → gI M' (128 + 4 * y + b) = gI M (128 + 4 * y + b) ∧ gI M' (153 + 4 * y + b) = gI M (153 + 4 * y + b) ∧ gI M' (178 + 4 * y + b) = gI M (178 + 4 * y + b)) → StT M' n nb x t
  | 0, _, h, _ => h
  | x + 1, _, ⟨t1, t2, t3, m, h1, h2, h3, h4, h5⟩, e => by
    obtain ⟨e1, e2, e3, e4, e5⟩ := e x (by omega)
    refine ⟨t1, t2, t3, m, h1.fr (fun b hb => e b (by omega)), ⟨h2.1, h2.2.1, e1.trans h2.2.2⟩, h3.fr (fun b hb => ?_), ?_, h5⟩
    · obtain ⟨f1, f2, f3⟩ := e5 b (by omega)
      rw [e2, e4]
      exact ⟨rfl, rfl, f1, f2, f3⟩
    · unfold RuS WS
      rw [e3]
      exact h4
/-- the rows of one state -/
def SX (x w : Nat) : Prop := S8 w ∨ w = 113 + x ∨ w = 202 + x ∨ (128 + 4 * x ≤ w ∧ w < 131 + 4 * x) ∨ (153 + 4 * x ≤ w ∧ w < 156 + 4 * x) ∨ (178 + 4 * x ≤ w ∧ w < 181 + 4 * x)
def J274 (M0 : Mem) (T0 : List Nat) (n nb x k0 c0 a : Nat) (M : Mem) (c : Nat) : Prop := (∃ k, gI M 108 1 = nI k ∧ k ≤ k0 + 20 * a) ∧ c ≤ c0 + 40 * a ∧ frS (SX x) M0 M ∧ (∀ b, a ≤ b → b < 3 → gI M (128 + 4 * x + b) = gI M0 (128 + 4 * x + b) ∧ gI M (153 + 4 * x + b) = gI M0 (153 + 4 * x + b)) ∧ ∃ t, t.length ≤ 76 * a ∧ TB M (T0 ++ t) ∧ ActsT M n nb x a t
theorem L274_ok {R : Option (Unit × Mem) → Prop} {Z LX : Nat} {xs : Nat → Int32} (hL : LX < 2147483647) (hZ : 10 ≤ Z) {x n nb m k0 c0 : Nat} (hx : x < 6) (hn : n ≤ 4) (hn1 : 1 ≤ n) (hnb : nb ≤ 3) (hm : m ≤ 3) {M0 : Mem} {T0 : List Nat} (hR : RW M0) (h1 : gI M0 109 1 = nI n) (h2 : gI M0 109 2 = nI nb) (h7 : gI M0 111 x = nI m) (hz : ∀ b, b < 3 → ∀ j, gI M0 (128 + 4 * x + b) j = nI 0 ∧ gI M0 (153 + 4 * x + b) j = nI 0) (hk0 : k0 < 700000) (hc0 : c0 + 120 ≤ 700) (hT0 : T0.length + 228 ≤ 1100) {k : Mem → Nat → Option (Unit × Mem)} (hK : ∀ M c, J274 M0 T0 n nb x k0 c0 m M c → R (k M c)) : ∀ d fu a M c, a + d = m → d < fu → J274 M0 T0 n nb x k0 c0 a M c → R (f_X12_init_L274 shL Z LX xs (nI x) k fu (nI a) M c) := by
  intro d
  induction d with
  | zero =>
    intro fu a M c hb hd hJ
    obtain ⟨fu, rfl⟩ := Nat.exists_eq_succ_of_ne_zero (Nat.ne_of_gt hd)
    obtain rfl : a = m := hb
    have e7 : gI M 111 x = nI a := by rw [hJ.2.2.1.1 111 (by unfold SX S8 S7; omega)]; exact h7
    rw [f_X12_init_L274]
    refine rdI_R rfl hx (by decide) ?_
    rw [e7]
    exact ifp_R (Int32.le_refl _) (hK M c hJ)
  | succ d ih =>
    intro fu a M c hb hd hJ
    obtain ⟨fu, rfl⟩ := Nat.exists_eq_succ_of_ne_zero (show fu ≠ 0 by omega)
    obtain ⟨⟨q, hq, hq2⟩, hc, hf, hr, t, htl, hT, hA⟩ := hJ
    have e7 : gI M 111 x = nI m := by rw [hf.1 111 (by unfold SX S8 S7; omega)]; exact h7
    have e1 : gI M 109 1 = nI n := by rw [hf.1 109 (by unfold SX S8 S7; omega)]; exact h1
    have e2 : gI M 109 2 = nI nb := by rw [hf.1 109 (by unfold SX S8 S7; omega)]; exact h2
    rw [f_X12_init_L274]
    refine rdI_R rfl hx (by decide) ?_
    rw [e7]
    refine ifn_R (by rw [nI_ile (by omega) (by omega)]; omega) (ifp_R (by omega) ?_)
    refine cl_R (act_ok hL hZ hx (show a < 3 by omega) hn hn1 hnb (hR.R hf.2.2) e1 e2 (fun j => by
      obtain ⟨r1, r2⟩ := hr a (Nat.le_refl _) (by omega)
      rw [r1, r2]
      exact hz a (by omega) j) hq (by omega) hT (by simp only [List.length_append]; omega)) (fun u M1 h => ?_)
    obtain ⟨⟨q1, hq1, hq3⟩, ⟨hf1, hf2⟩, seg, hsl, hAS, hT1⟩ := h
    dsimp only at hq1 hf1 hf2 hAS hT1
    rw [i1, nI_add]
    refine ih fu (a + 1) M1 _ (by omega) (by omega) ⟨⟨q1, hq1, by omega⟩, by omega, hf.trans (hf1.wk (fun w h => by (try dsimp only at h); unfold SX S8 S7 at *; omega)), fun b hb1 hb2 => ?_, t ++ seg, by rw [List.length_append]; omega, by rw [← List.append_assoc]; exact hT1, t, seg, hA.fr (fun b hb => ?_), hAS, rfl⟩
    · rw [hf1.1 (128 + 4 * x + b) (by unfold S8 S7; omega), hf1.1 (153 + 4 * x + b) (by unfold S8 S7; omega)]
      exact hr b (by omega) hb2
    · exact ⟨(hf2 b (by omega)).1, (hf2 b (by omega)).2, hf1.1 _ (by unfold S8 S7; omega), hf1.1 _ (by unfold S8 S7; omega), hf1.1 _ (by unfold S8 S7; omega)⟩
