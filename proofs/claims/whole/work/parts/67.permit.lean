/-! permit -/
def ct (q : Nat) (m : Nat) : Nat := sm m (fun b => q / 2 ^ b % 2)
def clr (q a : Nat) : Nat := q - q / 2 ^ a % 2 * 2 ^ a
def nq (b : Bool) (q a : Nat) : Nat := if b = true then clr q a + 2 ^ a else clr q a
theorem rest_ok : ∀ q, q < 8 → ∀ a, a < 3 → nI q &&& (((1 : Int32) <<< (nI a &&& 31)) ^^^ (-1 : Int32)) = nI (clr q a) ∧ nI (clr q a) ||| ((1 : Int32) <<< (nI a &&& 31)) = nI (clr q a + 2 ^ a) := by decide +kernel
theorem nq_ok : ∀ q, q < 8 → ∀ a, a < 3 → ∀ b, nq b q a < 8 ∧ ∀ c, c < 3 → nq b q a / 2 ^ c % 2 = if c = a then (if b = true then 1 else 0) else q / 2 ^ c % 2 := by decide +kernel
theorem none_ok' : ∀ q, q < 8 → ∀ m, m < 4 → ∀ a, a < 3 → (!(decide (a < m) && decide (1 ≤ ct q m)) || (decide (nI (clr q a) &&& (((1 : Int32) <<< (nI m &&& 31)) - (1 : Int32)) = 0) == (decide (q / 2 ^ a % 2 = 1) && decide (ct q m = 1)))) = true := by decide +kernel
theorem none_ok {q m a : Nat} (hq : q < 8) (hm : m < 4) (ha : a < 3) (h1 : a < m) (h2 : 1 ≤ ct q m) : (nI (clr q a) &&& (((1 : Int32) <<< (nI m &&& 31)) - (1 : Int32)) = 0) = (q / 2 ^ a % 2 = 1 ∧ ct q m = 1) := by
  have h := none_ok' q hq m hm a ha
  rw [decide_eq_true h1, decide_eq_true h2] at h
  simp only [Bool.and_self, Bool.not_true, Bool.false_or, beq_iff_eq] at h
  have h3 := congrArg (fun b => b = true) h
  simp only [decide_eq_true_eq, Bool.and_eq_true] at h3
  exact h3
theorem permitted_eq {Z : Nat} {M : Mem} {P S : Nat → Int32} (hV : VP P) (hP : gI M 112 = P) (hSM : gI M 109 = S) (hZ : 10 < Z) {x q : Nat} (hx : x < cN P) (hq : ∀ a, a < cM P x → S (22 + (x * 3 + a)) = nI (q / 2 ^ a % 2)) : f_X12_permitted Z M (nI x) = some (nI (ct q (cM P x)), M) := by
  have hN := hV.2.1
  have hm := hV.sz.2.1 x
  have hR := hV.chR hP
  unfold f_X12_permitted
  rw [i0]
  refine lpS (σ := Unit) (fun n a _ => f_X12_permitted_L4 Z (nI x) n (nI (ct q a)) (nI a) M) (fun z => z = some (nI (ct q (cM P x)), M)) (fun _ _ => True) 0 (cM P x) (s := ()) (by omega) (by omega) trivial ?_ ?_
  · intro n a _ _ ha _ K
    have K1 := K () trivial
    have e9 : ct q (a + 1) = ct q a + q / 2 ^ a % 2 := rfl
    have h2 : q / 2 ^ a % 2 < 2 := Nat.mod_lt _ (by decide)
    have ep := isPermittedNow_eq (Z := Z) hSM (x := x) (a := a) (by omega)
    have e8 : pmt S x a = decide (q / 2 ^ a % 2 = 1) := by
      unfold pmt
      rw [hq a ha]
      by_cases c : q / 2 ^ a % 2 = 1
      · rw [c]
        decide
      · rw [show q / 2 ^ a % 2 = 0 by omega]
        decide
    rw [e9] at K1
    rw [f_X12_permitted_L4]
    simp (disch := omega) only [hR.2.1 x (by omega), if_neg (show ¬ cM P x ≤ a by omega), nI_ile, i8, i1, nI_add, rdI_n, ep, cl_some, jn_eq]
    by_cases c : q / 2 ^ a % 2 = 1
    · rw [c] at K1
      rw [if_neg (by rw [bN1, e8]; simp [c])]
      exact K1
    · rw [show q / 2 ^ a % 2 = 0 by omega] at K1
      rw [if_pos (by rw [bN1, e8]; simp [c]), i0, nI_add]
      exact K1
  · intro n _ _
    rw [f_X12_permitted_L4]
    simp (disch := omega) only [hR.2.1 x (by omega), ge_self, if_true, i8, nI_add, rdI_n]
theorem ct_pos {q m : Nat} (h : ∃ a, a < m ∧ q / 2 ^ a % 2 = 1) : 1 ≤ ct q m := by
  obtain ⟨a, ha, e⟩ := h
  have := le_sm (f := fun b => q / 2 ^ b % 2) ha
  unfold ct
  omega
theorem Has.prm {M : Mem} (h : Has M) {x : Nat} (hx : x < cN (gI M 112)) : ∃ q, q < 8 ∧ gI M 12 x = nI q ∧ (∀ a, a < cM (gI M 112) x → gI M 109 (22 + (x * 3 + a)) = nI (q / 2 ^ a % 2)) ∧ 1 ≤ ct q (cM (gI M 112) x) := by
  obtain ⟨q, q1, q2, q3⟩ := h.RS.2.2.1 x hx
  refine ⟨q, q1, q2, q3, ct_pos ?_⟩
  obtain ⟨a, ha, e⟩ := h.VS.2.2.2.2.2.2.2.1 x hx
  refine ⟨a, ha, ?_⟩
  rw [q3 a ha] at e
  have h2 : q / 2 ^ a % 2 < 2 := Nat.mod_lt _ (by decide)
  rw [nI_eqx (by omega) (by decide)] at e
  exact e
theorem pmt_q {S : Nat → Int32} {x a q : Nat} (h : S (22 + (x * 3 + a)) = nI (q / 2 ^ a % 2)) : pmt S x a = decide (q / 2 ^ a % 2 = 1) := by
  have h2 : q / 2 ^ a % 2 < 2 := Nat.mod_lt _ (by decide)
  unfold pmt
  rw [h]
  by_cases c : q / 2 ^ a % 2 = 1
  · rw [c]
    decide
  · rw [show q / 2 ^ a % 2 = 0 by omega]
    decide
/-- whether the change is refused -/
def pNo (b : Bool) (q a m : Nat) : Prop := b = false ∧ q / 2 ^ a % 2 = 1 ∧ ct q m = 1
/-- class, up to the change -/
theorem permitC {Z : Nat} {M : Mem} (h : Has M) {x a q : Nat} (b : Bool) (hx : x < cN (gI M 112)) (ha : a < cM (gI M 112) x) (hq : q < 8) (e12 : gI M 12 x = nI q) (hS : ∀ a, a < cM (gI M 112) x → gI M 109 (22 + (x * 3 + a)) = nI (q / 2 ^ a % 2)) (hct : 1 ≤ ct q (cM (gI M 112) x)) :
    (pNo b q a (cM (gI M 112) x) → f_X11_permit Z M (nI x) (nI a) (bN b) = some (.error 2, M)) ∧
    (¬ pNo b q a (cM (gI M 112) x) → f_X11_permit Z M (nI x) (nI a) (bN b) = cl (f_X3_keep Z M) (fun v7 M8 => wrI M8 12 6 (nI x) (nI (nq b q a)) (fun M9 => some (.ok (bN (pmt (gI M 109) x a)), M9)))) := by
  have hN := h.N
  have hm := h.z.2.1 x
  have hr := rest_ok q hq a (by omega)
  have hno := none_ok (m := cM (gI M 112) x) (a := a) hq (by omega) (by omega) ha hct
  have hp := permits_eq (Z := Z) h.RS h.z.2.1 hN.2 hx ha
  cases b with
  | false =>
    have e : f_X11_permit Z M (nI x) (nI a) (bN false) = if q / 2 ^ a % 2 = 1 ∧ ct q (cM (gI M 112) x) = 1 then some (.error 2, M) else cl (f_X3_keep Z M) (fun v7 M8 => wrI M8 12 6 (nI x) (nI (clr q a)) (fun M9 => some (.ok (bN (pmt (gI M 109) x a)), M9))) := by
      unfold f_X11_permit
      rw [h.nA hx, if_pos (inR_of ha (by omega)), clT_ok, rdI_n (by omega) (by decide), e12, hr.1]
      simp only [jn_eq]
      rw [if_pos (show bN false = 0 from rfl), rdI_n (by omega) (by decide), h.c.2.1 x (by omega)]
      simp only [hno]
      by_cases c : q / 2 ^ a % 2 = 1 ∧ ct q (cM (gI M 112) x) = 1
      · rw [if_pos c, if_pos c]
      · rw [if_neg c, if_neg c, hp, cl_some]
        simp only [show (bN false = 0) = True from eq_true rfl, if_true, bN_and]
    refine ⟨fun g => ?_, fun g => ?_⟩
    · rw [e, if_pos g.2]
    · rw [e, if_neg (fun z => g ⟨rfl, z⟩)]
      rfl
  | true =>
    refine ⟨fun g => absurd g.1 (by decide), fun _ => ?_⟩
    unfold f_X11_permit
    rw [h.nA hx, if_pos (inR_of ha (by omega)), clT_ok, rdI_n (by omega) (by decide), e12, hr.1, hr.2]
    simp only [jn_eq]
    rw [if_neg (show ¬ bN true = 0 by decide), hp, cl_some]
    simp only [show (bN true = 0) = False from eq_false (by decide), if_false, bN_and, if_true]
    rfl
theorem permitR {Z : Nat} (hZ : 10 < Z) {M : Mem} {P S : Nat → Int32} (hV : VP P) (hc : gI M 108 1 = nI 1) (hP : gI M 112 = P) (hSM : gI M 109 = S) {x a q : Nat} (b : Bool) (hx : x < cN P) (ha : a < cM P x) (hS : ∀ a, a < cM P x → S (22 + (x * 3 + a)) = nI (q / 2 ^ a % 2)) :
    (pNo b q a (cM P x) → f_X12_permit Z M (nI x) (nI a) (bN b) = some (0, Tc M 3)) ∧
    (¬ pNo b q a (cM P x) → f_X12_permit Z M (nI x) (nI a) (bN b) = cl (f_X12_keepsAll Z (T0 M)) (fun v8 M9 => wrI M9 109 54 (((22 : Int32) + ((3 : Int32) * nI x)) + nI a) (bN b) (fun M10 => some (bN (pmt S x a), M10)))) := by
  have hN := hV.2.1
  have hm := hV.sz.2.1 x
  have hR := hV.chR hP
  have p0 : gI (T0 M) 112 = P := by rw [T0_I (by decide)]; exact hP
  have s0 : gI (T0 M) 109 = S := by rw [T0_I (by decide)]; exact hSM
  have hpn := isPermittedNow_eq (Z := Z) (M := T0 M) s0 (x := x) (a := a) (by omega)
  have hpe := permitted_eq (Z := Z) (M := T0 M) hV p0 s0 hZ hx hS
  have hpq := pmt_q (hS a ha)
  have h2 : q / 2 ^ a % 2 < 2 := Nat.mod_lt _ (by decide)
  have hct : ct q (cM P x) ≤ 3 := by
    have h3 := sm_le (n := cM P x) (f := fun b => q / 2 ^ b % 2) (g := fun _ => 1 * 1) (fun b _ => by have : q / 2 ^ b % 2 < 2 := Nat.mod_lt _ (by decide); omega)
    have h4 : ∀ n, sm n (fun _ => 1 * 1) = n := fun n => by
      induction n with
      | zero => rfl
      | succ n ih => show sm n _ + 1 * 1 = n + 1; rw [ih]
    rw [h4] at h3
    unfold ct
    omega
  unfold f_X12_permit
  rw [noAction1 hc hR hV.sz hx, if_pos (inR_of ha (by omega)), cl_some, if_pos rfl, hpn, cl_some]
  simp only [jn_eq]
  cases b with
  | false =>
    rw [if_pos (show bN false = 0 from rfl), hpq]
    by_cases c1 : q / 2 ^ a % 2 = 1
    · rw [if_neg (by rw [bN1]; simp [c1]), hpe, cl_some]
      by_cases c2 : ct q (cM P x) = 1
      · refine ⟨fun _ => ?_, fun g => absurd ⟨rfl, c1, c2⟩ g⟩
        rw [c2, if_pos (show nI 1 = 1 from rfl), ref1 T0_0 (by decide), cl_some]
        rfl
      · refine ⟨fun g => absurd g.2.2 c2, fun _ => ?_⟩
        rw [i1, if_neg (by rw [nI_eqx (by omega) (by decide)]; exact c2), ref0 T0_0, cl_some, if_pos rfl]
        simp only [show (bN false = 0) = True from eq_true rfl, if_true, ← i1, bN_and]
        rfl
    · refine ⟨fun g => absurd g.2.1 c1, fun _ => ?_⟩
      rw [if_pos (by rw [bN1]; simp [c1]), ref0 T0_0, cl_some, if_pos rfl]
      simp only [show (bN false = 0) = True from eq_true rfl, if_true, bN_and]
      rfl
  | true =>
    refine ⟨fun g => absurd g.1 (by decide), fun _ => ?_⟩
    rw [if_neg (show ¬ bN true = 0 by decide), ref0 T0_0, cl_some, if_pos rfl]
    simp only [show (bN true = 0) = False from eq_false (by decide), if_false, bN_and, if_true]
    rfl
theorem ok_permit {Z : Nat} (hZ : 4000 < Z) {M : Mem} (hI : Inv M) (h : Has M) {x a q : Nat} {b : Bool} (hx : x < cN (gI M 112)) (ha : a < cM (gI M 112) x) (hq : q < 8) (e12 : gI M 12 x = nI q) (hS : ∀ a, a < cM (gI M 112) x → gI M 109 (22 + (x * 3 + a)) = nI (q / 2 ^ a % 2)) (hct : 1 ≤ ct q (cM (gI M 112) x)) (hno : ¬ pNo b q a (cM (gI M 112) x)) : OKc (f_X11_permit Z M (nI x) (nI a) (bN b)) (fun M => f_X12_permit Z M (nI x) (nI a) (bN b)) bL bL := by
  have hN := h.N
  have hz := h.z
  have hm := h.z.2.1 x
  have hnq := nq_ok q hq a (by omega) b
  obtain ⟨M1, e1, m1, H⟩ := change hZ hI h
  have f2 : fr lC M1 (sI M1 12 x (nI (nq b q a))) := fr_sI fr.rfl (by decide)
  generalize hv : bN (pmt (gI M 109) x a) = v
  obtain ⟨M4, e4, f4, K⟩ := H (sI M1 12 x (nI (nq b q a))) (bL v) f2
  obtain ⟨s1, s2, s3⟩ := chg_sL (v := bL v) h m1 f2
  have j109 : gI M4 109 = gI M 109 := by rw [f4.i (by decide) (by decide), T0_I (by decide), s3]
  have f5 : fr lR M4 (sI M4 109 (22 + (x * 3 + a)) (bN b)) := fr_sI fr.rfl (by decide)
  have S5 : ∀ i, gI (sI M4 109 (22 + (x * 3 + a)) (bN b)) 109 i = if i = 22 + (x * 3 + a) then bN b else gI M 109 i := fun i => by
    rw [gI_sI, j109]
    by_cases c : i = 22 + (x * 3 + a)
    · rw [if_pos ⟨rfl, c⟩, if_pos c]
    · rw [if_neg (fun z => c z.2), if_neg c]
  have Sn : ∀ i, i ≠ 22 + (x * 3 + a) → gI (sI M4 109 (22 + (x * 3 + a)) (bN b)) 109 i = gI M 109 i := fun i hi => by rw [S5, if_neg hi]
  have mo : ∀ o, o ≠ 12 → 10 ≤ o → o < 16 → gI (sI M4 109 (22 + (x * 3 + a)) (bN b)) o = gI M o := fun o h1 h2 h3 => by
    rw [gI_sI', if_neg (by omega), f4.i (by simp; omega) (by omega), T0_I (by omega), gI_sL', gI_sI', if_neg h1, (m1 o (by omega) (by omega) (by omega)).1]
  have m12 : ∀ k, gI (sI M4 109 (22 + (x * 3 + a)) (bN b)) 12 k = if k = x then nI (nq b q a) else gI M 12 k := fun k => by
    rw [gI_sI', if_neg (by decide), f4.i (by decide) (by decide), T0_I (by decide), gI_sL', gI_sI, (m1 12 (by decide) (by decide) (by decide)).1]
    by_cases c : k = x
    · rw [if_pos ⟨rfl, c⟩, if_pos c]
    · rw [if_neg (fun z => c z.2), if_neg c]
  have hV := h.VS
  -- the bits of x behind the change
  have Sx : ∀ c, c < cM (gI M 112) x → gI (sI M4 109 (22 + (x * 3 + a)) (bN b)) 109 (22 + (x * 3 + c)) = nI (nq b q a / 2 ^ c % 2) := fun c hc => by
    rw [hnq.2 c (by omega), S5]
    by_cases d : c = a
    · rw [if_pos (by omega), if_pos d]
      cases b <;> rfl
    · rw [if_neg (by omega), if_neg d]
      exact hS c hc
  have hV5 : VS (gI M 112) (gI (sI M4 109 (22 + (x * 3 + a)) (bN b)) 109) := by
    refine VS.mk (hV.v0.congr (Sn 0 (by omega))) (hV.v1.congr (Sn 1 (by omega))) (hV.v2.congr (Sn 2 (by omega))) (hV.v3.congr (fun r hr => Sn _ (by omega))) ⟨fun r hr => ?_, fun y hy => ?_⟩ (hV.v5.congr (fun k hk => Sn _ (by omega))) (hV.v6.congr (Sn 3 (by omega)) (fun i h1 h2 => Sn _ (by omega)))
    · rw [S5]
      by_cases c : 22 + r = 22 + (x * 3 + a)
      · rw [if_pos c]
        cases b
        · exact Or.inl rfl
        · exact Or.inr rfl
      · rw [if_neg c]
        exact hV.v4.1 r hr
    · by_cases c : y = x
      · subst c
        -- one is left, or the new one
        by_cases d : b = true
        · exact ⟨a, ha, by rw [Sx a ha, hnq.2 a (by omega), if_pos rfl, if_pos d]⟩
        · have db : b = false := by simpa using d
          by_cases g : q / 2 ^ a % 2 = 1
          · have h2 : ct q (cM (gI M 112) y) ≠ 1 := fun z => hno ⟨db, g, z⟩
            apply Classical.byContradiction
            intro hne
            have e0 : ∀ c, c < cM (gI M 112) y → c ≠ a → q / 2 ^ c % 2 = 0 := fun c hc hca => by
              have h3 : q / 2 ^ c % 2 < 2 := Nat.mod_lt _ (by decide)
              apply Classical.byContradiction
              intro h4
              refine hne ⟨c, hc, ?_⟩
              rw [Sx c hc, hnq.2 c (by omega), if_neg hca, show q / 2 ^ c % 2 = 1 by omega]
            have h5 : ct q (cM (gI M 112) y) = 1 := by
              have h6 : ∀ c, c < cM (gI M 112) y → q / 2 ^ c % 2 = if c = a + 0 then 1 else 0 := fun c hc => by
                by_cases k : c = a
                · rw [if_pos (by omega), k, g]
                · rw [if_neg (by omega), e0 c hc k]
              unfold ct
              rw [sm_congr h6]
              have h7 : ∀ n, a < n → sm n (fun c => if c = a + 0 then 1 else 0) = 1 := fun n => by
                induction n with
                | zero => intro h; omega
                | succ n ih =>
                  intro h
                  show sm n _ + (if n = a + 0 then 1 else 0) = 1
                  by_cases k : n = a
                  · rw [if_pos (by omega), sm_congr (g := fun _ => 0) (fun c hc => if_neg (by omega)), sm_zero]
                  · rw [if_neg (by omega), ih (by omega)]
              exact h7 _ ha
            exact h2 h5
          · obtain ⟨c, hc, e⟩ := hV.v4.2 y hy
            have h3 : q / 2 ^ c % 2 < 2 := Nat.mod_lt _ (by decide)
            rw [hS c hc, nI_eqx (by omega) (by decide)] at e
            refine ⟨c, hc, ?_⟩
            rw [Sx c hc, hnq.2 c (by omega), if_neg (fun z => g (by rw [← z]; exact e)), e]
      · obtain ⟨d, hd, e⟩ := hV.v4.2 y hy
        have := hz.2.1 y
        exact ⟨d, hd, by rw [Sn _ (by omega)]; exact e⟩
  have hR5 : RS (gI M 112) (sI M4 109 (22 + (x * 3 + a)) (bN b)) 10 (gI (sI M4 109 (22 + (x * 3 + a)) (bN b)) 109) := by
    obtain ⟨⟨a1, a2, a3, a4⟩, b1, c, d, e, f⟩ := h.RS
    refine ⟨⟨?_, ?_, ?_, ?_⟩, fun r hr => ?_, fun y hy => ?_, fun k hk => ?_, fun t ht => ?_, fun t ht => ?_⟩
    · rw [mo 10 (by decide) (by decide) (by decide), Sn 0 (by omega)]; exact a1
    · rw [mo 10 (by decide) (by decide) (by decide), Sn 1 (by omega)]; exact a2
    · rw [mo 10 (by decide) (by decide) (by decide), Sn 2 (by omega)]; exact a3
    · rw [mo 10 (by decide) (by decide) (by decide), Sn 3 (by omega)]; exact a4
    · rw [mo (10 + 1) (by decide) (by decide) (by decide), Sn _ (by omega)]; exact b1 r hr
    · show ∃ q, q < 8 ∧ gI _ 12 y = nI q ∧ _
      by_cases k : y = x
      · subst k
        exact ⟨nq b q a, hnq.1, by rw [m12, if_pos rfl], Sx⟩
      · obtain ⟨q, q1, q2, q3⟩ := c y hy
        have := hz.2.1 y
        exact ⟨q, q1, by rw [m12, if_neg k]; exact q2, fun d hd => by rw [Sn _ (by omega)]; exact q3 d hd⟩
    · rw [mo (10 + 3) (by decide) (by decide) (by decide), Sn _ (by omega)]; exact d k hk
    · rw [mo (10 + 4) (by decide) (by decide) (by decide), Sn _ (by omega)]; exact e t ht
    · rw [mo (10 + 5) (by decide) (by decide) (by decide), Sn _ (by omega)]; exact f t ht
  obtain ⟨i5, z5, o5⟩ := K _ f5 hV5 hR5
  refine ⟨v, v, sI M1 12 x (nI (nq b q a)), _, ?_, ?_, i5, z5, o5⟩
  · rw [(permitC h b hx ha hq e12 hS hct).2 hno, e1, cl_some, wrI_n (by omega) (by decide), hv]
  · show f_X12_permit Z (sL (sI M1 12 x (nI (nq b q a))) 124 0 (bL v)) (nI x) (nI a) (bN b) = _
    rw [(permitR (by omega) h.2.1 s1 s2 s3 b hx ha hS).2 hno, e4, cl_some, show (22 : Int32) = nI 22 from rfl, i3, nI_mul, nI_add, nI_add, mc3, Nat.add_assoc, wrI_n (by omega) (by decide), hv]
theorem ck_permit {Z : Nat} {M : Mem} (hZ : 4000 < Z) (hI : Inv M) (p1 p2 : Int32) (b : Bool) : CK (f_L_permit Z M p1 p2 (bN b)) (fun M => f_X12_permit Z M p1 p2 (bN b)) bL := by
  unfold f_L_permit
  rcases hI.2.2.2.2.2 with h | h
  · exact CK.er hI (e := 0) (c := 1) (w := 0) (by unfold f_X11_permit; rw [needAction0 h.2.1]; rfl) rfl (by decide) (by unfold f_X12_permit; rw [noAction0 h.1]; rfl)
  · by_cases hp : inR p1 (cN (gI M 112))
    · obtain ⟨x, hx, rfl⟩ := inR_nI hp
      by_cases hp2 : inR p2 (cM (gI M 112) x)
      · obtain ⟨a, ha, rfl⟩ := inR_nI hp2
        obtain ⟨q, hq, e12, hS, hct⟩ := h.prm hx
        by_cases hno : b = false ∧ q / 2 ^ a % 2 = 1 ∧ ct q (cM (gI M 112) x) = 1
        · exact CK.er hI (e := 2) (c := 3) (w := 0) ((permitC h b hx ha hq e12 hS hct).1 hno) rfl (by decide) ((permitR (by omega) h.2.1 h.1 rfl rfl b hx ha hS).1 hno)
        · exact CK.mk_b (ok_permit hZ hI h hx ha hq e12 hS hct hno)
      · exact CK.er hI (e := 1) (c := 2) (w := 0) (by unfold f_X11_permit; rw [h.nA hx, if_neg hp2]; rfl) rfl (by decide) (by unfold f_X12_permit; rw [h.rA hx, if_neg hp2]; rfl)
    · exact CK.er hI (e := 1) (c := 2) (w := 0) (by unfold f_X11_permit; rw [h.nAX hp]; rfl) rfl (by decide) (by unfold f_X12_permit; rw [h.rAX hp]; rfl)
theorem b_law_52 {Z L a : Nat} {xs : Nat → Int32} {M : Mem} {j : Mem → Option Unit} (hZ : 4000 < Z) (hI : Inv M) (ha : a + 6 ≤ L) (hL : L ≤ 3072) (hj : ∀ M1, Inv M1 → j M1 = some ()) : f_law_52 Z L xs M (nI a) j = some () := by
  unfold f_law_52
  rw [i1, i2, i3, nI_add, nI_add, nI_add, rdX_n (by omega) (by omega), rdX_n (by omega) (by omega), rdX_n (by omega) (by omega)]
  simp (disch := omega) only [rdX_n]
  generalize xs (a + 1) = p1
  generalize xs (a + 2) = p2
  generalize xs (a + 3) = p3
  by_cases c : p3 = 0
  · simp only [jn_eq, if_pos c]
    exact (ck_permit hZ hI p1 p2 false).tail_b hj
  · simp only [jn_eq, if_neg c]
    exact (ck_permit hZ hI p1 p2 true).tail_b hj
