def dn (n : Nat) : Nat := fi (fun d => decide (n < 10 ^ (d + 1))) 16
theorem dn_ok {n : Nat} (hn : n ≤ 10 ^ 15) : dn n ≤ 15 ∧ n < 10 ^ (dn n + 1) ∧ (dn n = 0 ∨ 10 ^ dn n ≤ n) := by
  have h1 : dn n < 16 := fi_lt (y := 15) (by decide) (decide_eq_true (by have : (10 : Nat) ^ (15 + 1) = 10 ^ 15 * 10 := Nat.pow_succ 10 15; omega))
  refine ⟨by omega, of_decide_eq_true (fi_at (f := fun d => decide (n < 10 ^ (d + 1))) 16 h1), ?_⟩
  by_cases c : dn n = 0
  · exact Or.inl c
  · have h2 := of_decide_eq_false (fi_min (f := fun d => decide (n < 10 ^ (d + 1))) 16 (dn n - 1) (by show dn n - 1 < dn n; omega))
    rw [show dn n - 1 + 1 = dn n by omega] at h2
    exact Or.inr (by omega)
def DG (n : Nat) : List Nat := dgs (dn n) n
theorem DG_len {n : Nat} (hn : n ≤ 10 ^ 15) : (DG n).length ≤ 16 := by
  unfold DG
  rw [dgs_len]
  have := (dn_ok hn).1
  omega
def cm (ds : List Nat) : List Nat := if ds.length = 0 then ds else ds ++ [44]
def ap (ds : List Nat) (x F : Nat) : List Nat := cm ds ++ [48 + x] ++ [58] ++ DG F
theorem cm_len {ds : List Nat} : (cm ds).length ≤ ds.length + 1 := by
  unfold cm
  split
  · omega
  · rw [List.length_append]
    exact Nat.le_refl _
theorem ap_len {ds : List Nat} {x F : Nat} (hF : F ≤ 10 ^ 15) : (ap ds x F).length ≤ ds.length + 19 := by
  have h1 := cm_len (ds := ds)
  have h2 := DG_len hF
  unfold ap
  simp only [List.length_append, List.length_cons, List.length_nil]
  omega
theorem addPart_ok {Z : Nat} (hZ : 30 < Z) {M : Mem} {ds : List Nat} (h : TX M ds) {x F : Nat} (hx : x < 6) (hF : F ≤ 10 ^ 15) (hl : ds.length + 19 ≤ 114) : OK (f_X6_addPart Z M (nI x) (lN F)) (fun _ M' => fr [105, 106] M M' ∧ TX M' (ap ds x F)) := by
  have hc := cm_len (ds := ds)
  have key : ∀ M1, fr [105, 106] M M1 → TX M1 (cm ds) → OK (cl (f_X6_addByte Z M1 ((48 : Int32) + nI x)) (fun _ M4 => cl (f_X6_addByte Z M4 (58 : Int32)) (fun _ M6 => cl (f_X6_addNumber Z M6 (lN F)) (fun _ M8 => some ((), M8))))) (fun _ M' => fr [105, 106] M M' ∧ TX M' (ap ds x F)) := by
    intro M1 f1 t1
    have hd := dn_ok hF
    rw [show (48 : Int32) = nI 48 from rfl, nI_add, show (58 : Int32) = nI 58 from rfl]
    obtain ⟨_, M2, e2, f2, t2⟩ := addByte_ok (Z := Z) t1 (by omega) (c := 48 + x) (by omega)
    rw [e2, cl_some]
    have l2 : (cm ds ++ [48 + x]).length = (cm ds).length + 1 := by rw [List.length_append]; rfl
    obtain ⟨_, M3, e3, f3, t3⟩ := addByte_ok (Z := Z) t2 (by omega) (c := 58) (by omega)
    rw [e3, cl_some]
    have l3 : (cm ds ++ [48 + x] ++ [58]).length = (cm ds).length + 2 := by rw [List.length_append, l2]; rfl
    obtain ⟨_, M4, e4, f4, t4⟩ := addNumber_ok (Z := Z) (d := dn F) hZ t3 (by omega) hd.1 hF hd.2.1 hd.2.2
    rw [e4, cl_some]
    exact OK.ret ⟨((f1.trans f2).trans f3).trans f4, t4⟩
  unfold f_X6_addPart
  rw [bd_eq, h.1, jn_eq, i0]
  by_cases c : ds.length = 0
  · rw [if_pos (by rw [nI_ile (by omega) (by decide)]; omega)]
    dsimp only
    refine key M fr.rfl ?_
    unfold cm
    rw [if_pos c]
    exact h
  · rw [if_neg (by rw [nI_ile (by omega) (by decide)]; omega), show (44 : Int32) = nI 44 from rfl]
    obtain ⟨_, M2, e2, f2, t2⟩ := addByte_ok (Z := Z) h (by omega) (c := 44) (by omega)
    rw [e2, cl_some]
    refine key M2 f2 ?_
    unfold cm
    rw [if_neg c]
    exact t2
/-- the text of the first n states -/
def RT (c : Nat → Bool) (F : Nat → Nat) : Nat → List Nat
  | 0 => []
  | n + 1 => if c n then ap (RT c F n) n (F n) else RT c F n
theorem RT_len {c : Nat → Bool} {F : Nat → Nat} (hF : ∀ x, F x ≤ 10 ^ 15) : ∀ n, (RT c F n).length ≤ 19 * n := by
  intro n
  induction n with
  | zero => exact Nat.le_refl _
  | succ n ih =>
    show (if c n then ap (RT c F n) n (F n) else RT c F n).length ≤ _
    split
    · have := ap_len (ds := RT c F n) (x := n) (hF n)
      omega
    · omega
/-- the bits of a set -/
def bs (c : Nat → Bool) : Nat → Nat
  | 0 => 0
  | n + 1 => if c n then bs c n + 2 ^ n else bs c n
theorem bs_lt {c : Nat → Bool} : ∀ n, bs c n < 2 ^ n := by
  intro n
  induction n with
  | zero => exact Nat.lt_succ_self 0
  | succ n ih =>
    show (if c n then bs c n + 2 ^ n else bs c n) < 2 ^ (n + 1)
    rw [Nat.pow_succ]
    split <;> omega
theorem or6 : ∀ n, n < 6 → ∀ a, a < 2 ^ n → nI a ||| (nI 1 <<< (nI n &&& 31)) = nI (a + 2 ^ n) := by decide +kernel
theorem brk_bs {c : Nat → Bool} : ∀ n, n ≤ 6 → brk c n = nI (bs c n) := by
  intro n
  induction n with
  | zero => intro _; rfl
  | succ n ih =>
    intro h
    show (if c n then brk c n ||| (nI 1 <<< (nI n &&& 31)) else brk c n) = nI (if c n then bs c n + 2 ^ n else bs c n)
    rw [ih (by omega)]
    by_cases g : c n = true
    · rw [if_pos g, if_pos g, or6 n (by omega) _ (bs_lt n)]
    · rw [if_neg g, if_neg g]
theorem bit_top : ∀ n, n < 6 → ∀ a, a < 2 ^ n → (a + 2 ^ n) / 2 ^ n % 2 = 1 ∧ ∀ x, x < n → (a + 2 ^ n) / 2 ^ x % 2 = a / 2 ^ x % 2 := by decide +kernel
theorem bs_bit {c : Nat → Bool} : ∀ n, n ≤ 6 → ∀ x, x < n → bs c n / 2 ^ x % 2 = if c x then 1 else 0 := by
  intro n
  induction n with
  | zero => intro _ x h; omega
  | succ n ih =>
    intro h x hx
    have hb := bs_lt (c := c) n
    show (if c n then bs c n + 2 ^ n else bs c n) / 2 ^ x % 2 = _
    by_cases g : c n = true
    · rw [if_pos g]
      by_cases d : x = n
      · rw [d, (bit_top n (by omega) _ hb).1, if_pos g]
      · rw [(bit_top n (by omega) _ hb).2 x (by omega)]
        exact ih (by omega) x (by omega)
    · rw [if_neg g]
      by_cases d : x = n
      · rw [d, if_neg g, Nat.div_eq_of_lt hb]
      · exact ih (by omega) x (by omega)
theorem brk_bit {c : Nat → Bool} {n x : Nat} (hn : n ≤ 6) (hx : x < n) : (((brk c n >>> (nI x &&& 31)) &&& nI 1) = nI 0) = (c x = false) := by
  have hb := bs_lt (c := c) n
  have h64 : 2 ^ n ≤ 64 := Nat.pow_le_pow_right (n := 2) (by decide) hn
  rw [brk_bs n hn, bit6y (by omega) (by omega), bs_bit n hn x hx]
  cases c x <;> simp
theorem reachAt_has {Z : Nat} {M : Mem} (hZ : 60 < Z) (h : Has M) {t : Nat} (ht : t ≤ pn (gI M 109) 1) : ∃ M3, f_X12_reachAt Z (T0 M) (nI t) = some (brk (rSet (gI M 112) (gI M 109) t) (cN (gI M 112)), M3) ∧ fr [116] (T0 M) M3 ∧ MT 116 M3 (fTab (gI M 112) (gI M 109)) := by
  have hN := h.N
  have h5 := h.hz.2.2.2
  have h2 := T0.Has h
  obtain ⟨_, M3, e3, r1, r2⟩ := laysN_ok hZ h2
  rw [T0_I (by decide), T0_I (by decide)] at r2
  refine ⟨M3, ?_, r1, r2⟩
  unfold f_X12_reachAt
  rw [e3, cl_some, i0, show nI 0 = brk (rSet (gI M 112) (gI M 109) t) 0 from rfl]
  have j112 : gI M3 112 0 = nI (cN (gI M 112)) := by rw [r1.I (by decide), T0_I (by decide)]; exact h.2.1.n
  refine lpS (σ := Unit) (fun n i _ => f_X12_reachAt_L9 Z (nI t) M3 n (brk (rSet (gI M 112) (gI M 109) t) i) (nI i)) (fun r => r = some (brk (rSet (gI M 112) (gI M 109) t) (cN (gI M 112)), M3)) (fun _ _ => True) 0 (cN (gI M 112)) (s := ()) (by omega) (by omega) trivial ?_ ?_
  · intro n x _ _ hx _ K
    have K1 := K () trivial
    rw [← brk_if rSet_f] at K1
    rw [f_X12_reachAt_L9]
    simp (disch := omega) only [j112, if_neg (show ¬ cN (gI M 112) ≤ x by omega), nI_ile, i0, i1, i6, rdI_n, rdL_n, mc6, nI_mul, nI_add, r2 t (show t < 6 by omega) x (show x < 6 by omega)]
    by_cases c : fTab (gI M 112) (gI M 109) t x ≤ 0
    · rw [if_pos c] at K1 ⊢
      rw [← i0, Int32.or_zero]
      exact K1
    · rw [if_neg c] at K1 ⊢
      exact K1
  · intro n _ _
    rw [f_X12_reachAt_L9]
    simp (disch := omega) only [j112, ge_self, if_true, i0, rdI_n]
theorem sayN_ok {Z : Nat} {M : Mem} {ds : List Nat} {n : Nat} (hn : n ≤ 10 ^ 15) (h : TY M ds) (hl : ds.length + 16 < 199) : OK (f_X12_saysNumber Z M (lN n)) (fun _ M' => fy M M' ∧ TY M' (ds ++ DG n)) := by
  have hd := dn_ok hn
  exact saysNumber_ok (Z := Z) (dn n) 25 M ds n (by omega) (by omega) hd.2.1 hd.2.2 h (by omega)
theorem DG_6 : ∀ x, x < 6 → DG x = [48 + x] := by decide +kernel
theorem refPart_ok {Z : Nat} {M : Mem} {ds : List Nat} (h : TY M ds) {x F t : Nat} (hx : x < 6) (ht : t < 6) (hF : F ≤ 10 ^ 15) (hl : ds.length + 19 ≤ 114) (h116 : gL M 116 (t * 6 + x) = lN F) (kk : Mem → Option (Int32 × Mem)) : ∃ M', fy M M' ∧ TY M' (ap ds x F) ∧ bd (gI M 108 31) (fun v17 => jn (fun (t18 : Mem) => cl (f_X12_saysNumber Z t18 (nI x).toInt64) (fun v19 M20 => cl (f_X12_says Z M20 (58 : Int32)) (fun v21 M22 => rdL M22 116 36 (((6 : Int32) * nI t) + nI x) (fun v23 => cl (f_X12_saysNumber Z M22 v23) (fun v24 M25 => kk M25))))) (fun j29 => (if v17 ≤ 0 then j29 M else cl (f_X12_says Z M (44 : Int32)) (fun v30 M31 => j29 M31)))) = kk M' := by
  have hc := cm_len (ds := ds)
  have key : ∀ M1, fy M M1 → TY M1 (cm ds) → ∃ M', fy M M' ∧ TY M' (ap ds x F) ∧ cl (f_X12_saysNumber Z M1 (nI x).toInt64) (fun v19 M20 => cl (f_X12_says Z M20 (58 : Int32)) (fun v21 M22 => rdL M22 116 36 (((6 : Int32) * nI t) + nI x) (fun v23 => cl (f_X12_saysNumber Z M22 v23) (fun v24 M25 => kk M25)))) = kk M' := by
    intro M1 f1 t1
    rw [nI_l (by omega), show (58 : Int32) = nI 58 from rfl, i6, nI_mul, nI_add, mc6]
    obtain ⟨_, M2, e2, f2, t2⟩ := sayN_ok (Z := Z) (n := x) (by omega) t1 (by omega)
    rw [DG_6 x hx] at t2
    rw [e2, cl_some]
    have l2 : (cm ds ++ [48 + x]).length = (cm ds).length + 1 := by rw [List.length_append]; rfl
    obtain ⟨_, M3, e3, f3, t3⟩ := says_ok' (Z := Z) t2 (by omega) (c := 58)
    have l3 : (cm ds ++ [48 + x] ++ [58]).length = (cm ds).length + 2 := by rw [List.length_append, l2]; rfl
    obtain ⟨_, M4, e4, f4, t4⟩ := sayN_ok (Z := Z) (n := F) hF t3 (by omega)
    rw [e3, cl_some, rdL_n (by omega) (by decide), (((f1.trans f2).trans f3).2.1 116).1, h116, e4, cl_some]
    exact ⟨M4, ((f1.trans f2).trans f3).trans f4, t4, rfl⟩
  rw [bd_eq, h.1, jn_eq, i0]
  by_cases c : ds.length = 0
  · rw [if_pos (by rw [nI_ile (by omega) (by decide)]; omega)]
    refine key M fy.rfl ?_
    unfold cm
    rw [if_pos c]
    exact h
  · rw [if_neg (by rw [nI_ile (by omega) (by decide)]; omega), show (44 : Int32) = nI 44 from rfl]
    obtain ⟨_, M2, e2, f2, t2⟩ := says_ok' (Z := Z) h (by omega) (c := 44)
    rw [e2, cl_some]
    refine key M2 f2 ?_
    unfold cm
    rw [if_neg c]
    exact t2
theorem TX.fr {M M' : Mem} {ds : List Nat} {l : List Nat} (h : TX M ds) (hf : fr l M M') (h1 : 105 ∉ l) (h2 : 106 ∉ l) : TX M' ds := by
  unfold TX
  rw [hf.I h1, hf.I h2]
  exact h
theorem ok_report {Z : Nat} (hZ : 4000 < Z) {M : Mem} (hI : Inv M) (h : Has M) {t : Nat} (ht : t < pn (gI M 109) 1 + 1) : OKc (f_X11_report Z M (nI t)) (fun M => f_X12_report Z M (nI t)) (·.toInt64) (·.toInt64) := by
  have hN := h.N
  have h5 := h.hz.2.2.2
  obtain ⟨M1, e1, q1, q2, q3, q4, q5, q6, q7, q8, q9⟩ := fl_both (Z := Z) (by omega) hI h
  have hF : ∀ x, (if x < cN (gI M 112) then fNow (gI M 112) (sW (gI M 109)) (pn (gI M 109) 0) t x else 0) ≤ 10 ^ 15 := fun x => by
    by_cases c : x < cN (gI M 112)
    · rw [if_pos c]
      exact Fl_lt (fun x hx => Nat.le_of_eq (Tp_sum h.2.1 h.VS x hx)) c (by omega)
    · rw [if_neg c]
      exact Nat.zero_le _
  generalize hFF : (fun x => if x < cN (gI M 112) then fNow (gI M 112) (sW (gI M 109)) (pn (gI M 109) 0) t x else 0) = F
  have hF' : ∀ x, F x ≤ 10 ^ 15 := fun x => by rw [← hFF]; exact hF x
  have eF : ∀ x, x < cN (gI M 112) → fTab (gI M 112) (gI M 109) t x = lN (F x) := fun x hx => by
    rw [← hFF]
    dsimp only
    rw [if_pos hx]
    exact if_pos ⟨by omega, hx⟩
  have hlen := RT_len (c := rSet (gI M 112) (gI M 109) t) hF'
  -- class
  obtain ⟨v, M2, e2, f2, t2, hv⟩ : OK (f_X11_report_L19 Z (nI t) Z (nI 0) (sI M1 105 1 (0 : Int32))) (fun r M2 => fr [105, 106] M1 M2 ∧ TX M2 (RT (rSet (gI M 112) (gI M 109) t) F (cN (gI M 112))) ∧ r = .ok (nI (RT (rSet (gI M 112) (gI M 109) t) F (cN (gI M 112))).length)) := by
    refine lpS (fun n x M2 => f_X11_report_L19 Z (nI t) n (nI x) M2) (fun z => OK z _) (fun x M2 => fr [105, 106] M1 M2 ∧ TX M2 (RT (rSet (gI M 112) (gI M 109) t) F x)) 0 (cN (gI M 112)) (by omega) (by omega) ⟨fr_sI fr.rfl (by decide), ?_, fun i hi => absurd hi (Nat.not_lt_zero i)⟩ ?_ ?_
    · rw [gI_sI, if_pos ⟨rfl, rfl⟩]
      rfl
    · intro n x M2 _ hx ⟨f2, t2⟩ K
      have hl := hlen x
      have j3 : gI M2 3 0 = nI (cN (gI M 112)) := by rw [f2.I (by decide), q1.I (by decide)]; exact h.c.1
      have ea := at_eq (Z := Z) (M := M2) (x := x) (t := t) (q5.congr (f2.L (show 18 ∉ [105, 106] by decide)) (fun _ _ _ _ => rfl)) (by omega) (by omega)
      rw [f_X11_report_L19, bd_eq, j3]
      simp (disch := omega) only [if_neg (show ¬ cN (gI M 112) ≤ x by omega), nI_ile, ea, cl_some, i1, nI_add]
      by_cases c : fTab (gI M 112) (gI M 109) t x ≤ 0
      · rw [if_pos c]
        refine K M2 ⟨f2, ?_⟩
        show TX M2 (if rSet (gI M 112) (gI M 109) t x then _ else _)
        rw [rSet_f.mp c]
        exact t2
      · rw [if_neg c, eF x hx]
        obtain ⟨_, M3, e3, f3, t3⟩ := addPart_ok (Z := Z) (by omega) t2 (x := x) (F := F x) (by omega) (hF' x) (by omega)
        rw [e3, cl_some]
        refine K M3 ⟨f2.trans f3, ?_⟩
        show TX M3 (if rSet (gI M 112) (gI M 109) t x then _ else _)
        rw [if_pos (by
          cases g : rSet (gI M 112) (gI M 109) t x
          · exact absurd (rSet_f.mpr g) c
          · rfl)]
        exact t3
    · intro n M2 ⟨f2, t2⟩
      have j3 : gI M2 3 0 = nI (cN (gI M 112)) := by rw [f2.I (by decide), q1.I (by decide)]; exact h.c.1
      rw [f_X11_report_L19, bd_eq, j3]
      simp only [ge_self, if_true]
      rw [bd_eq, t2.1]
      exact OK.ret ⟨f2, t2, rfl⟩
  have hlN := hlen (cN (gI M 112))
  generalize hT : RT (rSet (gI M 112) (gI M 109) t) F (cN (gI M 112)) = T at t2 hv hlN
  generalize hvv : nI T.length = w at hv
  -- reference
  have g2 : Has (sL M2 124 0 w.toInt64) := (q7.kh (kh.of f2 (by decide) (by decide))).out
  have k2 : fr [105, 106, 124] M1 (sL M2 124 0 w.toInt64) := fr_sL (f2.mono (by decide)) (by decide)
  have s112 : gI (sL M2 124 0 w.toInt64) 112 = gI M 112 := by rw [k2.I (by decide), q8]
  have s109 : gI (sL M2 124 0 w.toInt64) 109 = gI M 109 := by rw [k2.I (by decide), q9]
  obtain ⟨M3, e3, r1, r2⟩ := reachAt_has (Z := Z) (t := t) (by omega) g2 (by rw [s109]; omega)
  rw [s112, s109] at e3 r2
  have k3 : kh (sL M2 124 0 w.toInt64) M3 := T0.kp.kh.trans (kh.of r1 (by decide) (by decide))
  obtain ⟨M4, e4, g4, t4⟩ : ∃ M4, f_X12_report_L43 Z (nI t) (brk (rSet (gI M 112) (gI M 109) t) (cN (gI M 112))) Z (nI 0) (sI M3 108 31 (0 : Int32)) = some (w, M4) ∧ fy (sI M3 108 31 (0 : Int32)) M4 ∧ TY M4 T := by
    have key : OK (f_X12_report_L43 Z (nI t) (brk (rSet (gI M 112) (gI M 109) t) (cN (gI M 112))) Z (nI 0) (sI M3 108 31 (0 : Int32))) (fun r M4 => r = w ∧ fy (sI M3 108 31 (0 : Int32)) M4 ∧ TY M4 T) := by
      refine lpS (fun n x M4 => f_X12_report_L43 Z (nI t) (brk (rSet (gI M 112) (gI M 109) t) (cN (gI M 112))) n (nI x) M4) (fun z => OK z _) (fun x M4 => fy (sI M3 108 31 (0 : Int32)) M4 ∧ TY M4 (RT (rSet (gI M 112) (gI M 109) t) F x)) 0 (cN (gI M 112)) (by omega) (by omega) ⟨fy.rfl, ?_, fun i hi => absurd hi (Nat.not_lt_zero i)⟩ ?_ ?_
      · rw [gI_sI, if_pos ⟨rfl, rfl⟩]
        rfl
      · intro n x M4 _ hx ⟨f4, t4⟩ K
        have hl := hlen x
        have j112 : gI M4 112 0 = nI (cN (gI M 112)) := by
          rw [f4.1 112 (by decide) (by decide), gI_sI', if_neg (by decide), r1.I (by decide), T0_I (by decide), s112]
          exact h.2.1.n
        have c116 : gL M4 116 (t * 6 + x) = lN (F x) := by
          rw [(f4.2.1 116).1, gL_sI', r2.at (show t < 6 by omega) (show x < 6 by omega), eF x hx]
        rw [f_X12_report_L43]
        simp (disch := omega) only [j112, if_neg (show ¬ cN (gI M 112) ≤ x by omega), nI_ile, i0, rdI_n, jn_eq]
        have eb := brk_bit (c := rSet (gI M 112) (gI M 109) t) hN.2 hx
        rw [i1]
        by_cases c : rSet (gI M 112) (gI M 109) t x = false
        · rw [if_pos (by rw [eb]; exact c), nI_add]
          refine K M4 ⟨f4, ?_⟩
          show TY M4 (if rSet (gI M 112) (gI M 109) t x then _ else _)
          rw [c]
          exact t4
        · rw [if_neg (by rw [eb]; exact c)]
          obtain ⟨M5, f5, t5, e5⟩ := refPart_ok (Z := Z) t4 (x := x) (F := F x) (t := t) (by omega) (by omega) (hF' x) (by omega) c116 (fun M5 => f_X12_report_L43 Z (nI t) (brk (rSet (gI M 112) (gI M 109) t) (cN (gI M 112))) n (nI x + nI 1) M5)
          have e6 := e5
          simp only [jn_eq, i0] at e6
          rw [e6, nI_add]
          refine K M5 ⟨f4.trans f5, ?_⟩
          show TY M5 (if rSet (gI M 112) (gI M 109) t x then _ else _)
          rw [if_pos (by simpa using c)]
          exact t5
      · intro n M4 ⟨f4, t4⟩
        have j112 : gI M4 112 0 = nI (cN (gI M 112)) := by
          rw [f4.1 112 (by decide) (by decide), gI_sI', if_neg (by decide), r1.I (by decide), T0_I (by decide), s112]
          exact h.2.1.n
        rw [hT] at t4
        rw [f_X12_report_L43]
        simp (disch := omega) only [j112, ge_self, if_true, i0, rdI_n, bd_eq, t4.1, hvv]
        exact OK.ret ⟨rfl, f4, t4⟩
    obtain ⟨r, M4, e, hr, h1, h2⟩ := key
    subst hr
    exact ⟨M4, e, h1, h2⟩
  have l4 : ∀ o, o ≠ 108 → o ≠ 123 → gI M4 o = gI M3 o := fun o h1 h2 => by rw [g4.1 o h1 h2, gI_sI', if_neg h1]
  have l8 : ∀ k, k ≠ 31 → gI M4 108 k = gI M3 108 k := fun k hk => by rw [g4.2.2 k hk, gI_sI, if_neg (by omega)]
  have k4 : kh M3 M4 := ⟨fun o ho => ⟨l4 o (fun z => ho (by rw [z]; decide)) (fun z => ho (by rw [z]; decide)), by rw [(g4.2.1 o).1, gL_sI'], by rw [(g4.2.1 o).2, gR_sI']⟩, l8 1 (by decide), l8 4 (by decide)⟩
  have m0 : ∀ k, k ≠ 0 → k ≠ 31 → gI M4 108 k = gI M1 108 k := fun k h1 h2 => by
    rw [l8 k h2, r1.I (by decide)]
    unfold T0
    rw [gI_sI, if_neg (by omega), k2.I (by decide)]
  have m1 : ∀ o, o ∉ [105, 106, 108, 116, 123, 124] → gI M4 o = gI M1 o := fun o ho => by
    simp only [List.mem_cons, List.not_mem_nil, or_false, not_or] at ho
    rw [l4 o (by omega) (by omega), r1.I (by simp; omega), T0_I (by omega), k2.I (by simp; omega)]
  have m2 : ∀ o, o ∉ [105, 106, 116, 124] → gR M4 o = gR M1 o := fun o ho => by
    simp only [List.mem_cons, List.not_mem_nil, or_false, not_or] at ho
    rw [(g4.2.1 o).2, gR_sI', r1.R (by simp; omega), T0_R, k2.R (by simp; omega)]
  have hIf : Inv M4 := Inv.mk (q6.ib.to (by rw [m1 1 (by decide)]) (m0 9 (by decide) (by decide)) (m1 2 (by decide)) (m1 114 (by decide))) (by rw [m1 21 (by decide), m0 10 (by decide) (by decide), m0 11 (by decide) (by decide)]; exact q6.2.1) (TX.it (ds := T) (by
    unfold TX
    rw [l4 105 (by decide) (by decide), l4 106 (by decide) (by decide), r1.I (by decide), r1.I (by decide), T0_I (by decide), T0_I (by decide), gI_sL', gI_sL']
    exact t2) t4 (by omega)) (q6.is.to (m2 37 (by decide))) (q6.ih.to (m2 92 (by decide)) (m1 33 (by decide)) (m1 34 (by decide))) (Or.inr (g2.kh (k3.trans k4)))
  refine ⟨w, w, M2, M4, ?_, ?_, hIf, ?_, ?_⟩
  · unfold f_X11_report
    rw [h.nT, if_pos (inR_of ht (by omega)), clT_ok, e1, cl_some, bd_eq, i0]
    rw [i0] at e2
    rw [e2, hv]
  · show f_X12_report Z (sL M2 124 0 w.toInt64) (nI t) = _
    unfold f_X12_report
    rw [g2.rC, cl_some, if_pos rfl, g2.iT, cl_some, rfz T0_0 (by decide), if_pos (by rw [s109]; exact inR_of ht (by omega)), if_pos rfl, e3, cl_some, bd_eq, i0]
    rw [i0] at e4
    exact e4
  · rw [l8 0 (by decide), r1.I (by decide)]
    exact T0_0
  · rw [(g4.2.1 124).1, gL_sI', r1.L (by decide), T0_L, gL_sL, if_pos ⟨rfl, rfl⟩]
theorem ck_report {Z : Nat} {M : Mem} (hZ : 4000 < Z) (hI : Inv M) (p1 : Int32) : CK (f_L_report Z M p1) (fun M => f_X12_report Z M p1) (·.toInt64) := by
  unfold f_L_report
  rcases hI.2.2.2.2.2 with h | h
  · exact CK.er hI (e := 0) (c := 1) (w := 0) (by unfold f_X11_report; rw [needTime0 h.2.1]; rfl) rfl (by decide) (by unfold f_X12_report; rw [noChain0 h.1]; rfl)
  · by_cases hp : inR p1 (pn (gI M 109) 1 + 1)
    · obtain ⟨t, ht, rfl⟩ := inR_nI hp
      exact CK.mk (ok_report hZ hI h ht)
    · exact CK.er hI (e := 2) (c := 2) (w := 0) (by unfold f_X11_report; rw [h.nT, if_neg hp]; rfl) rfl (by decide) (by unfold f_X12_report; rw [h.rC, cl_some, if_pos rfl, h.iT, cl_some, rfz T0_0 (by decide), if_neg hp]; rfl)
theorem b_law_48 {Z L a : Nat} {xs : Nat → Int32} {M : Mem} {j : Mem → Option Unit} (hZ : 4000 < Z) (hI : Inv M) (ha : a + 6 ≤ L) (hL : L ≤ 3072) (hj : ∀ M1, Inv M1 → j M1 = some ()) : f_law_48 Z L xs M (nI a) j = some () := by
  unfold f_law_48
  simp (disch := omega) only [i1, nI_add, rdX_n]
  generalize xs (a + 1) = p1
  exact (ck_report hZ hI p1).tail hj
