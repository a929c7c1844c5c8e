/-! permit -/
theorem HasC.prm {P S : Nat → Int32} {M : Mem} (h : HasC P S M) {x : Nat} (hx : x < cN P) : ∃ q, q < 8 ∧ gI M 12 x = nI q ∧ (∀ a, a < cM P x → S (22 + (x * 3 + a)) = nI (q / 2 ^ a % 2)) ∧ 1 ≤ ct q (cM P x) := by
  obtain ⟨q, q1, q2, q3⟩ := h.rs.2.2.1 x hx
  refine ⟨q, q1, q2, q3, ct_pos ?_⟩
  obtain ⟨a, ha, e⟩ := h.s.2.2.2.2.2.2.2.1 x hx
  refine ⟨a, ha, ?_⟩
  rw [q3 a ha] at e
  have h2 : q / 2 ^ a % 2 < 2 := Nat.mod_lt _ (by decide)
  rw [nI_eqx (by omega) (by decide)] at e
  exact e
theorem permit_C {Z : Nat} {P S : Nat → Int32} {M : Mem} (h : HasC P S M) {x a q : Nat} (b : Bool) (hx : x < cN P) (ha : a < cM P x) (hq : q < 8) (e12 : gI M 12 x = nI q) (hct : 1 ≤ ct q (cM P x)) :
    (pNo b q a (cM P x) → f_X11_permit Z M (nI x) (nI a) (bN b) = some (.error 2, M)) ∧
    (¬ pNo b q a (cM P x) → f_X11_permit Z M (nI x) (nI a) (bN b) = cl (f_X3_keep Z M) (fun v7 M8 => wrI M8 12 6 (nI x) (nI (nq b q a)) (fun M9 => some (.ok (bN (pmt S x a)), M9)))) := by
  have hN := h.N
  have hm := h.z.2.1 x
  have hr := rest_ok q hq a (by omega)
  have hno := none_ok (m := cM P x) (a := a) hq (by omega) (by omega) ha hct
  have hp := permits_eq (Z := Z) h.rs h.z.2.1 hN.2 hx ha
  cases b with
  | false =>
    have e : f_X11_permit Z M (nI x) (nI a) (bN false) = if q / 2 ^ a % 2 = 1 ∧ ct q (cM P x) = 1 then some (.error 2, M) else cl (f_X3_keep Z M) (fun v7 M8 => wrI M8 12 6 (nI x) (nI (clr q a)) (fun M9 => some (.ok (bN (pmt S x a)), M9))) := by
      unfold f_X11_permit
      rw [h.nA hx ha, clT_ok, rdI_n (by omega) (by decide), e12, hr.1]
      simp only [jn_eq]
      rw [if_pos (show bN false = 0 from rfl), rdI_n (by omega) (by decide), h.c.2.1 x (by omega)]
      simp only [hno]
      by_cases c : q / 2 ^ a % 2 = 1 ∧ ct q (cM P x) = 1
      · rw [if_pos c, if_pos c]
      · rw [if_neg c, if_neg c, hp, cl_some]
        simp only [show (bN false = 0) = True from eq_true rfl, if_true, bN_and]
    refine ⟨fun g => ?_, fun g => ?_⟩
    · rw [e, if_pos g.2]
    · rw [e, if_neg (fun z => g ⟨rfl, z⟩)]
      rfl
  | true =>
    refine ⟨fun g => absurd g.1 (by decide), fun _ => ?_⟩
    unfold f_X11_permit
    rw [h.nA hx ha, clT_ok, rdI_n (by omega) (by decide), e12, hr.1, hr.2]
    simp only [jn_eq]
    rw [if_neg (show ¬ bN true = 0 by decide), hp, cl_some]
    simp only [show (bN true = 0) = False from eq_false (by decide), if_false, bN_and, if_true]
    rfl
/-- another act of the state that is permitted -/
def anyB (q a : Nat) : Nat → Bool
  | 0 => false
  | k + 1 => anyB q a k || (decide (k ≠ a) && decide (q / 2 ^ k % 2 = 1))
theorem any_no : ∀ q, q < 8 → ∀ m, m < 4 → ∀ a, a < 3 → (!(decide (a < m) && decide (1 ≤ ct q m)) || (!(anyB q a m) == (decide (q / 2 ^ a % 2 = 1) && decide (ct q m = 1)))) = true := by decide +kernel
theorem any_iff {q m a : Nat} (hq : q < 8) (hm : m < 4) (ha : a < m) (h2 : 1 ≤ ct q m) : anyB q a m = false ↔ q / 2 ^ a % 2 = 1 ∧ ct q m = 1 := by
  have := any_no q hq m hm a (by omega)
  rw [decide_eq_true ha, decide_eq_true h2] at this
  cases c : anyB q a m <;> rw [c] at this <;> simp at this ⊢ <;> omega
theorem any_ex {q a : Nat} : ∀ m, anyB q a m = true → ∃ k, k < m ∧ k ≠ a ∧ q / 2 ^ k % 2 = 1
  | 0, h => absurd (show false = true from h) (by decide)
  | m + 1, h => by
    rw [anyB, Bool.or_eq_true, Bool.and_eq_true, decide_eq_true_eq, decide_eq_true_eq] at h
    rcases h with h | h
    · obtain ⟨k, h1, h2⟩ := any_ex m h
      exact ⟨k, by omega, h2⟩
    · exact ⟨m, by omega, h⟩
theorem bN_or : ∀ u v : Bool, bN u ||| bN v = bN (u || v) := by decide
theorem bN_vp : ∀ u : Bool, vp_nar .boolean (bN u) = bN u := by decide
theorem bN_nI : ∀ u : Bool, bN u = nI (if u = true then 1 else 0) := by decide
theorem act238 {Z b K x a q c : Nat} {P S : Nat → Int32} {wr : Nat → Nat} {LX : Nat} {xs : Nat → Int32} {M : Mem} {t25 v27 : Int32} {R : Option (Nat × Mem) → Prop} {k : Int32 → Option (Nat × Mem)} (hZ : 60 < Z) (h : LI b K P S wr M) (hx : x < cN P) (ha : a < cM P x) (hq : ∀ a, a < cM P x → S (22 + (x * 3 + a)) = nI (q / 2 ^ a % 2)) (u : Bool) (hK : R (k (bN (u || anyB q a (cM P x))))) : R (f_L_act_L238 (shB b) Z LX xs c (nI x) (nI a) M t25 v27 k Z (bN u) (0 : Int32)) := by
  have hN := h.C.N.2
  have hm := h.C.z.2.1 x
  have hb := h.2.1.2.2.1
  have key : ∀ d fu i, i + d = cM P x → d < fu → R (f_L_act_L238 (shB b) Z LX xs c (nI x) (nI a) M t25 v27 k fu (bN (u || anyB q a i)) (nI i)) := by
    intro d
    induction d with
    | zero =>
      intro fu i hi hd
      obtain ⟨fu, rfl⟩ := Nat.exists_eq_succ_of_ne_zero (Nat.ne_of_gt hd)
      obtain rfl : i = cM P x := hi
      rw [f_L_act_L238, h.mny hx]
      exact ifp_R (Int32.le_refl _) hK
    | succ d ih =>
      intro fu i hi hd
      obtain ⟨fu, rfl⟩ := Nat.exists_eq_succ_of_ne_zero (show fu ≠ 0 by omega)
      rw [f_L_act_L238, h.mny hx]
      refine ifn_R (by rw [nI_ile (by omega) (by omega)]; omega) ?_
      refine jn_R (fun t : Int32 => t = bN (decide (i ≠ a) && decide (q / 2 ^ i % 2 = 1))) (fun t ht => ?_) (fun j hj => ?_)
      · rw [ht, bN_or, Bool.or_assoc, show nI i + (1 : Int32) = nI (i + 1) from nI_add i 1]
        exact ih fu (i + 1) (by omega) (by omega)
      · refine jn_R (fun _ : Unit => (decide (i ≠ a) && decide (q / 2 ^ i % 2 = 1)) = false) (fun t ht => hj 0 (by rw [ht]; rfl)) (fun j34 hj34 => ?_)
        by_cases ci : i = a
        · exact ifp_R (by rw [ci]) (hj34 () (by rw [decide_eq_false (fun z => z ci), Bool.false_and]))
        · refine ifn_R (by rw [nI_eqx (by omega) (by omega)]; exact ci) (rdQ_R rfl (by omega) (by decide) (h.R.1.1 x (by omega)).2.2.2.2 (shB_rows (by omega) x (by omega)).2.2.2.2.2 (rdI_R' (by omega) (by decide) ((h.S.2.2.1 x hx i (by omega)).trans (hq i (by omega))) ?_))
          by_cases cb : q / 2 ^ i % 2 = 1
          · exact ifn_R (by rw [cb]; decide) (hj 1 (by rw [decide_eq_true ci, decide_eq_true cb]; rfl))
          · exact ifp_R (by rw [show q / 2 ^ i % 2 = 0 by omega]; rfl) (hj34 () (by rw [decide_eq_false cb, Bool.and_false]))
  have := key (cM P x) Z 0 (by omega) (by omega)
  rw [show (u || anyB q a 0) = u by show (u || false) = u; rw [Bool.or_false]] at this
  exact this
theorem VS.u4 {P S : Nat → Int32} {x a : Nat} {u : Bool} (h : VS P S) (hN : cN P ≤ 6) (hm : ∀ x, cM P x ≤ 3) (hx : x < cN P) (ha : a < cM P x) (he : u = true ∨ ∃ k, k < cM P x ∧ k ≠ a ∧ S (22 + (x * 3 + k)) = nI 1) : VS P (upd S (22 + (x * 3 + a)) (bN u)) := by
  have := hm x
  refine VS.mk (h.v0.congr (u_ne (by omega))) (h.v1.congr (u_ne (by omega))) (h.v2.congr (u_ne (by omega))) (h.v3.congr (fun r hr => u_ne (by omega))) ⟨fun r hr => ?_, fun y hy => ?_⟩ (h.v5.congr (fun b hb => u_ne (by omega))) (h.v6.congr (u_ne (by omega)) (fun i a b => u_ne (by omega)))
  · by_cases c : r = x * 3 + a
    · rw [c, upd_eq]
      cases u
      · exact .inl rfl
      · exact .inr rfl
    · rw [upd_ne (by omega)]
      exact h.v4.1 r hr
  · by_cases c : y = x
    · subst c
      rcases he with e | ⟨k, h1, h2, h3⟩
      · exact ⟨a, ha, by rw [upd_eq, e]; rfl⟩
      · exact ⟨k, h1, by rw [upd_ne (by omega)]; exact h3⟩
    · obtain ⟨k, h1, h2⟩ := h.v4.2 y hy
      have := hm y
      exact ⟨k, h1, by rw [upd_ne (by omega)]; exact h2⟩
theorem RS.u4 {P S : Nat → Int32} {M : Mem} {x a q : Nat} {u : Bool} (hN : cN P ≤ 6) (hm : ∀ x, cM P x ≤ 3) (hx : x < cN P) (ha : a < cM P x) (h : RS P M 10 S) (hq : q < 8) (hS : ∀ a, a < cM P x → S (22 + (x * 3 + a)) = nI (q / 2 ^ a % 2)) : RS P (sI M 12 x (nI (nq u q a))) 10 (upd S (22 + (x * 3 + a)) (bN u)) := by
  obtain ⟨⟨a1, a2, a3, a4⟩, b, c, d, e, f⟩ := h
  have h3 := hm x
  have g : ∀ o, o ≠ 12 → gI (sI M 12 x (nI (nq u q a))) o = gI M o := fun o ho => by rw [gI_sI', if_neg ho]
  obtain ⟨n1, n2⟩ := nq_ok q hq a (by omega) u
  refine ⟨⟨by rw [g _ (by decide), upd_ne (by omega)]; exact a1, by rw [g _ (by decide), upd_ne (by omega)]; exact a2, by rw [g _ (by decide), upd_ne (by omega)]; exact a3, by rw [g _ (by decide), upd_ne (by omega)]; exact a4⟩, fun r hr => by rw [g _ (by decide), upd_ne (by omega)]; exact b r hr, fun y hy => ?_, fun k hk => by rw [g _ (by decide), upd_ne (by omega)]; exact d k hk, fun t ht => by rw [g _ (by decide), upd_ne (by omega)]; exact e t ht, fun t ht => by rw [g _ (by decide), upd_ne (by omega)]; exact f t ht⟩
  show ∃ q', q' < 8 ∧ gI (sI M 12 x (nI (nq u q a))) 12 y = nI q' ∧ _
  by_cases cy : y = x
  · subst cy
    refine ⟨nq u q a, n1, by rw [gI_sI, if_pos ⟨rfl, rfl⟩], fun k hk => ?_⟩
    rw [n2 k (by omega)]
    by_cases ck : k = a
    · rw [if_pos ck, ck, upd_eq, bN_nI]
    · rw [if_neg ck, upd_ne (by omega)]
      exact hS k hk
  · obtain ⟨q', q1, q2, q3⟩ := c y hy
    have := hm y
    refine ⟨q', q1, by rw [gI_sI, if_neg (fun z => cy z.2)]; exact q2, fun k hk => ?_⟩
    rw [upd_ne (by omega)]
    exact q3 k hk
theorem c_permit {Z x a : Nat} {P S : Nat → Int32} {M : Mem} {u : Bool} (hZ : 60 < Z) (h : HasC P S M) (hx : x < cN P) (ha : a < cM P x) : ∃ q, (∀ a, a < cM P x → S (22 + (x * 3 + a)) = nI (q / 2 ^ a % 2)) ∧ ((u || anyB q a (cM P x)) = false → f_X11_permit Z M (nI x) (nI a) (bN u) = some (.error 2, M)) ∧ ((u || anyB q a (cM P x)) = true → ∃ M', f_X11_permit Z M (nI x) (nI a) (bN u) = some (.ok (S (22 + (x * 3 + a))), M') ∧ fr lCh M M' ∧ HasC P (upd S (22 + (x * 3 + a)) (bN u)) M') := by
  obtain ⟨q, hq, e12, hS, hct⟩ := h.prm hx
  have hm := h.z.2.1 x
  have hN := h.N.2
  obtain ⟨p1, p2⟩ := permit_C (Z := Z) h u hx ha hq e12 hct
  have an := any_iff (m := cM P x) hq (by omega) ha hct
  refine ⟨q, hS, fun g => p1 ?_, fun g => ?_⟩
  · cases u with
    | true => exact absurd g (by simp)
    | false =>
      rw [Bool.false_or] at g
      exact ⟨rfl, an.mp g⟩
  · have np : ¬ pNo u q a (cM P x) := fun z => by
      rw [z.1, Bool.false_or, an.mpr z.2] at g
      exact absurd g (by decide)
    obtain ⟨M1, e1, f1, h1⟩ := keep_C hZ h
    have f2 : fr [12] M1 (sI M1 12 x (nI (nq u q a))) := fr_sI fr.rfl (by decide)
    have ep : bN (pmt S x a) = S (22 + (x * 3 + a)) := by
      rw [pmt_q (hS a ha), hS a ha]
      by_cases c : q / 2 ^ a % 2 = 1
      · rw [decide_eq_true c, c]
        rfl
      · rw [decide_eq_false c, show q / 2 ^ a % 2 = 0 by omega]
        rfl
    refine ⟨_, by rw [p2 np, e1, cl_some, wrI_n (by omega) (by decide), ep], (kp_ch f1).trans (f2.mono (by decide)), hasSet h1 f2 (by decide) (h.s.u4 hN h.z.2.1 hx ha ?_) (RS.u4 hN h.z.2.1 hx ha h1.rs hq hS)⟩
    cases u with
    | true => exact .inl rfl
    | false =>
      rw [Bool.false_or] at g
      obtain ⟨k, k1, k2, k3⟩ := any_ex _ g
      exact .inr ⟨k, k1, k2, by rw [hS k k1, k3]⟩
