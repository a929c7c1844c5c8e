/-! the whole state of law and class; the class's queries -/
def LI (b K : Nat) (P S : Nat → Int32) (wr : Nat → Nat) (M : Mem) : Prop := (HasC P S M ∧ LwP P M ∧ LwS P S wr M ∧ LwR wr b M) ∧ (cN P ≤ 4 ∧ pn S 1 ≤ 4 ∧ 214 ≤ b ∧ b ≤ 300) ∧ ZT M ∧ (∀ o, b ≤ o → o < 300 → zeroM o M) ∧ ∃ k, gI M 108 1 = nI k ∧ k ≤ K
theorem LwR.fr {wr : Nat → Nat} {b : Nat} {M M' : Mem} (h : LwR wr b M) (e : ∀ o, 109 ≤ o → o < 210 → gR M' o = gR M o) : LwR wr b M' := by
  obtain ⟨⟨h1, h2⟩, h3, h4⟩ := h
  refine ⟨⟨fun x hx => ?_, fun x hx a ha => ?_⟩, fun x hx => ?_, h4⟩
  · rw [e 112 (by omega) (by omega), e 126 (by omega) (by omega), e 151 (by omega) (by omega), e 176 (by omega) (by omega), e 201 (by omega) (by omega)]
    exact h1 x hx
  · rw [e (127 + 4 * x) (by omega) (by omega), e (152 + 4 * x) (by omega) (by omega), e (177 + 4 * x) (by omega) (by omega)]
    exact h2 x hx a ha
  · rw [e 119 (by omega) (by omega)]
    exact h3 x hx
theorem LwS.fr {P S : Nat → Int32} {wr : Nat → Nat} {b : Nat} {M M' : Mem} (h : LwS P S wr M) (hN : cN P ≤ 6) (hR : LwR wr b M) (e : ∀ o, 109 ≤ o → o < 300 → gI M' o = gI M o) : LwS P S wr M' := by
  obtain ⟨h1, h2, h3, h4, h5⟩ := h
  refine ⟨by rw [e 109 (by omega) (by omega)]; exact h1, fun x hx a ha => ?_, fun x hx a ha => by rw [e (202 + x) (by omega) (by omega)]; exact h3 x hx a ha, fun b hb => by rw [e 110 (by omega) (by omega)]; exact h4 b hb, fun n hn h => ?_⟩
  · have := hR.2.2 x (by omega)
    rw [e (wr x) (by omega) (by omega)]
    exact h2 x hx a ha
  · rw [e 208 (by omega) (by omega), e 209 (by omega) (by omega)]
    exact h5 n hn h
/-- only the class's objects changed -/
theorem LI.cls {b K : Nat} {P S : Nat → Int32} {wr : Nat → Nat} {M M' : Mem} {l : List Nat} (h : LI b K P S wr M) (hf : fr l M M') (hl : ∀ o, o ∈ l → o < 108) (hC : HasC P S M') : LI b K P S wr M' := by
  have e : ∀ o, 108 ≤ o → gI M' o = gI M o ∧ gL M' o = gL M o ∧ gR M' o = gR M o := fun o ho => hf o (fun z => absurd (hl o z) (by omega))
  obtain ⟨⟨h1, h2, h3, h4⟩, h5, h6, h7, k, hk, hk2⟩ := h
  have hN := hC.N.2
  refine ⟨⟨hC, h2.fr hN hC.z.2.1 (by rw [(e 109 (by decide)).1]) (by rw [(e 109 (by decide)).1]) (fun o a _ _ => (e o (by omega)).1), h3.fr hN h4 (fun o a _ => (e o (by omega)).1), h4.fr (fun o a _ => (e o (by omega)).2.2)⟩, h5, fun o a c => ?_, fun o a c => ?_, k, by rw [(e 108 (by decide)).1]; exact hk, hk2⟩
  · unfold zeroM
    rw [(e o (by omega)).1, (e o (by omega)).2.1, (e o (by omega)).2.2]
    exact h6 o a c
  · unfold zeroM
    rw [(e o (by omega)).1, (e o (by omega)).2.1, (e o (by omega)).2.2]
    exact h7 o a c
theorem HasC.fr {P S : Nat → Int32} {M M' : Mem} {l : List Nat} (h : HasC P S M) (hf : fr l M M') (hl : ∀ o, o ∈ l → 15 < o ∧ o ≠ 35 ∧ o ≠ 36) : HasC P S M' := by
  have e : ∀ o, o ≤ 15 ∨ o = 35 ∨ o = 36 → gI M' o = gI M o ∧ gR M' o = gR M o := fun o ho => by
    have := hf o (fun z => by have := hl o z; omega)
    exact ⟨this.1, this.2.2⟩
  obtain ⟨h1, h2, h3, h4, c, rot, h5, h6, h7⟩ := h
  exact ⟨h1, h2.same (fun o a b => (e o (by omega)).1), h3, h4.same (fun i hi => (e _ (by omega)).1), c, rot, h5, by rw [(e 35 (by decide)).1]; exact h6, h7.to (e 36 (by decide)).2⟩
theorem scr_ok : ∀ o, o ∈ [16, 17, 18, 19] → o < 108 ∧ 15 < o ∧ o ≠ 35 ∧ o ≠ 36 := by decide
theorem LI.scr {b K : Nat} {P S : Nat → Int32} {wr : Nat → Nat} {M M' : Mem} (h : LI b K P S wr M) (hf : fr [16, 17, 18, 19] M M') : LI b K P S wr M' := h.cls hf (fun o ho => (scr_ok o ho).1) (h.1.1.fr hf (fun o ho => (scr_ok o ho).2))
theorem fr3 {M M' : Mem} (h : fr [16, 17, 18] M M') : fr [16, 17, 18, 19] M M' := h.mono (by decide)
/-- the rules followed -/
def FoL (P S : Nat → Int32) (M' : Mem) : Prop := gI M' 16 1 = nI (pn S 0) ∧ gI M' 16 2 = nI (pn S 1) ∧ MT 17 M' (fun x y => if x < cN P ∧ y < cN P then lN (Tp (cM P) (cP P) (sW9 S) x y) else 0) ∧ MT 18 M' (fTab P S)
theorem follow_C {Z : Nat} {P S : Nat → Int32} {M : Mem} (hZ : 60 < Z) (h : HasC P S M) : ∃ M', f_X11_followRules Z M = some ((), M') ∧ fr [16, 17, 18] M M' ∧ FoL P S M' ∧ HasC P S M' := by
  unfold f_X11_followRules
  rw [bd_eq, bd_eq, h.st.1, h.hz.1]
  obtain ⟨_, M1, e1, q1, q2, q3, q4, q5⟩ := follow_ok (Z := Z) h.c h.z hZ (w := 11) (W := sW9 S) (by decide) (h.rs.w h.s h.N.2) (fun r => h.s.2.2.2.2.1 r) h.st.2 h.hz.2.2 (fun x hx => by rw [Tp_sum h.1 h.s x hx]; exact Nat.le_refl _)
  rw [e1, cl_some]
  exact ⟨M1, rfl, q1, ⟨q2, q3, q4, q5⟩, h.fr (fr3 q1) (fun o ho => (scr_ok o ho).2)⟩
theorem fTab_in {P S : Nat → Int32} {t x : Nat} (ht : t ≤ pn S 1) (hx : x < cN P) : fTab P S t x = lN (fNow P (sW9 S) (pn S 0) t x) := if_pos ⟨ht, hx⟩
theorem HasC.nT {P S : Nat → Int32} {M : Mem} (h : HasC P S M) {Z : Nat} {t : Nat} (ht : t ≤ pn S 1) : f_X11_needTime Z M (nI t) = some (.ok (), M) := by
  have hz := h.hz
  rw [needTime1 h.c.1 h.N hz.1 hz.2.2, if_pos (inR_of (by omega) (by omega))]
theorem q_flow {Z x t : Nat} {P S : Nat → Int32} {M : Mem} (hZ : 60 < Z) (h : HasC P S M) (hx : x < cN P) (ht : t ≤ pn S 1) : ∃ M', f_X11_flow Z M (nI x) (nI t) = some (.ok (lN (fNow P (sW9 S) (pn S 0) t x)), M') ∧ fr [16, 17, 18] M M' := by
  obtain ⟨M1, e1, q1, ⟨_, _, _, q5⟩, _⟩ := follow_C hZ h
  have hN := h.N.2
  have hz := h.hz
  refine ⟨M1, ?_, q1⟩
  unfold f_X11_flow
  rw [h.nS hx, clT_ok, h.nT ht, clT_ok, e1, cl_some, at_eq q5 (by omega) (by omega), cl_some, fTab_in ht hx]
theorem q_use {Z x a t : Nat} {P S : Nat → Int32} {M : Mem} (hZ : 60 < Z) (h : HasC P S M) (hx : x < cN P) (ha : a < cM P x) (ht : t < pn S 1) : ∃ M', f_X11_use Z M (nI x) (nI a) (nI t) = some (.ok (lN (fNow P (sW9 S) (pn S 0) t x) * (nI (sW9 S (x * 3 + a))).toInt64), M') ∧ fr [16, 17, 18] M M' := by
  obtain ⟨M1, e1, q1, ⟨_, _, _, q5⟩, h1⟩ := follow_C hZ h
  have hN := h.N.2
  have hz := h.hz
  have hr := h.row hx ha
  refine ⟨M1, ?_, q1⟩
  unfold f_X11_use
  rw [h.nA hx ha, clT_ok, bd_eq, hz.1, needRangeN (a := 0) (b := pn S 1 - 1) (by decide) (by rw [show (1 : Int32) = nI 1 from rfl, nI_sub (by omega), nI_toInt (by omega)]), if_pos (inN_of (Nat.zero_le _) (by omega) (by omega)), clT_ok, e1, cl_some, at_eq q5 (by omega) (by omega), cl_some, rowOf_eq, cl_some, rdI_n hr.1 (by decide), show (11 : Nat) = 10 + 1 from rfl, RS.w h1.s h1.rs h1.N.2 _ hr.2, fTab_in (by omega) hx]
/-- the states that are reached -/
def rF (P S : Nat → Int32) (t x : Nat) : Bool := decide (¬ lN (fNow P (sW9 S) (pn S 0) t x) ≤ 0)
theorem q_reach {Z t : Nat} {P S : Nat → Int32} {M : Mem} (hZ : 60 < Z) (h : HasC P S M) (ht : t ≤ pn S 1) : ∃ M', f_X11_reach Z M (nI t) = some (.ok (brk (rF P S t) (cN P)), M') ∧ fr [16, 17, 18] M M' := by
  obtain ⟨M1, e1, q1, ⟨_, _, _, q5⟩, h1⟩ := follow_C hZ h
  have hN := h.N.2
  have hz := h.hz
  refine ⟨M1, ?_, q1⟩
  unfold f_X11_reach
  rw [h.nT ht, clT_ok, e1, cl_some, show (0 : Int32) = nI 0 from rfl]
  refine lpS (σ := Unit) (fun n i _ => f_X11_reach_L13 Z (nI t) n (brk (rF P S t) i) (nI i) M1) (fun r => r = some (.ok (brk (rF P S t) (cN P)), M1)) (fun _ _ => True) 0 (cN P) (s := ()) (by omega) (by omega) trivial ?_ ?_
  · intro n x _ _ hx _ K
    have K1 := K () trivial
    rw [f_X11_reach_L13, bd_eq, h1.c.1, if_neg (by rw [nI_ile (by omega) (by omega)]; omega), at_eq q5 (by omega) (by omega), cl_some, fTab_in ht hx, show nI x + (1 : Int32) = nI (x + 1) from nI_add x 1]
    have e2 : brk (rF P S t) (x + 1) = if rF P S t x then brk (rF P S t) x ||| (nI 1 <<< (nI x &&& 31)) else brk (rF P S t) x := rfl
    rw [e2] at K1
    by_cases c : lN (fNow P (sW9 S) (pn S 0) t x) ≤ 0
    · rw [if_neg (show ¬ rF P S t x = true by unfold rF; simp [c])] at K1
      rw [if_pos c]
      exact K1
    · rw [if_pos (show rF P S t x = true by unfold rF; simp [c])] at K1
      rw [if_neg c]
      exact K1
  · intro n _ _
    rw [f_X11_reach_L13, bd_eq, h1.c.1, if_pos (Int32.le_refl _)]
def uT (S : Nat → Int32) : Int64 := lN (10 * 1000 ^ (pn S 1 - 1))
theorem q_unit {Z : Nat} {P S : Nat → Int32} {M : Mem} (hZ : 60 < Z) (h : HasC P S M) : f_X11_unit Z M = some (.ok (uT S), M) := by
  have hz := h.hz
  unfold f_X11_unit
  rw [h.nC, clT_ok, bd_eq, hz.1, unitOf_eq (by omega) hz.2.1 hz.2.2, cl_some]
  rfl
theorem gain_C {Z : Nat} {P S : Nat → Int32} {M : Mem} (hZ : 60 < Z) (h : HasC P S M) (hF : FoL P S M) : f_X1_gainOf Z M 11 = some (gRun P (sW9 S) (pn S 0) (pn S 1), M) := by
  have hz := h.hz
  rw [gainOf_eq (Z := Z) h.c h.z (by omega) (w := 11) (W := sW9 S) (G := fun r => P (14 + r)) (fun r hr => h.rs.w h.s h.N.2 r hr) (fun r => h.s.2.2.2.2.1 r) (fun r hr => h.2.1.2.2.2.1 r hr) (fun r hr => h.1.2.2.2.2.1 r hr) hF.2.2.2 hF.2.1 hz.2.1 hz.2.2, ← gRun_eq hz.2.2]
  rfl
theorem HasC.amts {P S : Nat → Int32} {M : Mem} (h : HasC P S M) : ∀ r, r < 18 → ∀ b, b < 3 → gI M 6 (r * 3 + b) = nI (cA P r b) := fun r hr b hb => by
  rw [show (6 : Nat) = 3 + 3 from rfl, h.2.1.2.2.2.2.1 _ (by omega), ← Nat.add_assoc]
  exact h.1.a hr hb
theorem used_C {Z b : Nat} {P S : Nat → Int32} {M : Mem} (hZ : 60 < Z) (h : HasC P S M) (hF : FoL P S M) (hb : b < 3) : f_X1_usedOf Z M 11 (nI b) = some (uRun P (sW9 S) b (pn S 0) (pn S 1), M) := by
  have hz := h.hz
  rw [usedOf_eq (Z := Z) h.c h.z (by omega) (w := 11) (W := sW9 S) (G := cA P) hb (fun r hr => h.rs.w h.s h.N.2 r hr) (fun r => h.s.2.2.2.2.1 r) (fun r hr b hb => h.amts r hr b hb) (fun r b => h.1.2.2.2.2.2.1 r b) hF.2.2.2 hF.2.1 hz.2.1 hz.2.2, ← uRun_eq hz.2.2]
  rfl
theorem q_gain {Z : Nat} {P S : Nat → Int32} {M : Mem} (hZ : 60 < Z) (h : HasC P S M) : ∃ M', f_X11_gainOfRun Z M = some (.ok (gRun P (sW9 S) (pn S 0) (pn S 1)), M') ∧ fr [16, 17, 18] M M' := by
  obtain ⟨M1, e1, q1, hF, h1⟩ := follow_C hZ h
  refine ⟨M1, ?_, q1⟩
  unfold f_X11_gainOfRun
  rw [h.nC, clT_ok, e1, cl_some, gain_C hZ h1 hF, cl_some]
theorem q_used {Z b : Nat} {P S : Nat → Int32} {M : Mem} (hZ : 60 < Z) (h : HasC P S M) (hb : b < cB P) : ∃ M', f_X11_usedOfRun Z M (nI b) = some (.ok (uRun P (sW9 S) b (pn S 0) (pn S 1)), M') ∧ fr [16, 17, 18] M M' := by
  obtain ⟨M1, e1, q1, hF, h1⟩ := follow_C hZ h
  have := h.b.2
  refine ⟨M1, ?_, q1⟩
  unfold f_X11_usedOfRun
  rw [h.nB hb, clT_ok, e1, cl_some, used_C hZ h1 hF (by omega), cl_some]
theorem q_left {Z b : Nat} {P S : Nat → Int32} {M : Mem} (hZ : 60 < Z) (h : HasC P S M) (hb : b < cB P) : ∃ M', f_X11_left Z M (nI b) = some (.ok ((S (40 + b)).toInt64 * uT S - uRun P (sW9 S) b (pn S 0) (pn S 1)), M') ∧ fr [16, 17, 18] M M' := by
  obtain ⟨M1, e1, q1, hF, h1⟩ := follow_C hZ h
  have := h.b.2
  have hz := h1.hz
  refine ⟨M1, ?_, q1⟩
  unfold f_X11_left
  rw [h.nB hb, clT_ok, e1, cl_some, rdI_n (by omega) (by decide), show (13 : Nat) = 10 + 3 from rfl, h1.rs.2.2.2.1 b (by omega), bd_eq, hz.1, unitOf_eq (by omega) hz.2.1 hz.2.2, cl_some, used_C hZ h1 hF (by omega), cl_some]
  rfl
theorem q_broken {Z : Nat} {P S : Nat → Int32} {M : Mem} (hZ : 60 < Z) (h : HasC P S M) : ∃ M', f_X11_broken Z M = some (.ok (brk (brN P S (sW9 S)) (cB P)), M') ∧ fr [16, 17, 18] M M' := by
  obtain ⟨v, M1, e1, q1, q2⟩ := brokenWith_gen (Z := Z) (w := 11) (W := sW9 S) hZ h.1 h.s h.2.1 h.rs.1.1 h.rs.1.2.1 (fun b hb => h.rs.2.2.2.1 b hb) (by decide) (fun r hr => h.rs.w h.s h.N.2 r hr) h.s.W
  refine ⟨M1, ?_, q1⟩
  unfold f_X11_broken
  rw [h.nC, clT_ok, e1, cl_some, q2]
/-- visits of a state -/
def vis (P S : Nat → Int32) (x : Nat) : Int64 := hor (fun t => fTab P S t x) (pn S 1 + 1)
theorem q_visits {Z x : Nat} {P S : Nat → Int32} {M : Mem} (hZ : 60 < Z) (h : HasC P S M) (hx : x < cN P) : ∃ M', f_X11_visits Z M (nI x) = some (.ok (vis P S x), M') ∧ fr [16, 17, 18] M M' := by
  obtain ⟨M1, e1, q1, hF, h1⟩ := follow_C hZ h
  have hN := h.N.2
  refine ⟨M1, ?_, q1⟩
  unfold f_X11_visits
  rw [h.nS hx, clT_ok, e1, cl_some, visitsOf_eq hF.2.2.2 (by omega) (by omega) h.hz.2.2 hF.2.1, cl_some]
  rfl
theorem q_first {Z x : Nat} {P S : Nat → Int32} {M : Mem} (hZ : 60 < Z) (h : HasC P S M) (hx : x < cN P) : ∃ M', f_X11_firstTime Z M (nI x) = some (.ok (fT (fun t => fTab P S t x) (pn S 1 + 1) 0), M') ∧ fr [16, 17, 18] M M' := by
  obtain ⟨M1, e1, q1, ⟨_, _, _, q5⟩, h1⟩ := follow_C hZ h
  have hN := h.N.2
  have hz := h.hz
  refine ⟨M1, ?_, q1⟩
  unfold f_X11_firstTime
  rw [h.nS hx, clT_ok, e1, cl_some, i0]
  refine lpS (σ := Unit) (fun n i _ => f_X11_firstTime_L11 Z (nI x) n (nI i) M1) (fun r => r = some (.ok (fT (fun t => fTab P S t x) (pn S 1 + 1) 0), M1)) (fun i _ => fT (fun t => fTab P S t x) (pn S 1 + 1 - i) i = fT (fun t => fTab P S t x) (pn S 1 + 1) 0) 0 (pn S 1 + 1) (s := ()) (by omega) (by omega) rfl ?_ ?_
  · intro n t _ _ ht hI9 K
    rw [fT_step ht] at hI9
    rw [f_X11_firstTime_L11, bd_eq, h1.hz.1]
    simp (disch := omega) only [if_neg (show ¬ pn S 1 < t by omega), at_eq q5 (show x < 6 by omega) (show t < 6 by omega), cl_some, nI_ilt, i1, nI_add]
    by_cases c : fTab P S t x ≤ 0
    · rw [if_pos c] at hI9 ⊢
      exact K () hI9
    · rw [if_neg c] at hI9 ⊢
      rw [hI9]
  · intro n _ hI9
    rw [Nat.sub_self] at hI9
    rw [f_X11_firstTime_L11, bd_eq, h1.hz.1]
    simp (disch := omega) only [if_pos (show pn S 1 < pn S 1 + 1 by omega), nI_ilt]
    rw [← hI9]
    rfl
theorem q_busy {Z r : Nat} {P S : Nat → Int32} {M : Mem} (hZ : 60 < Z) (h : HasC P S M) (hr : r < cN P) : ∃ M' y, f_X11_busiest Z M (nI r) = some (.ok (nI y), M') ∧ fr [16, 17, 18] M M' ∧ y < cN P ∧ rnk (vis P S) (cN P) y = r := by
  obtain ⟨M1, e1, q1, ⟨_, q3, _, q5⟩, h1⟩ := follow_C hZ h
  have hN := h.N.2
  have hz := h.hz
  have i3 := h1.c.1
  have hV : (fun y => hor (fun t => fTab P S t y) (pn S 1 + 1)) = vis P S := rfl
  obtain ⟨y, hy, hry⟩ := pigeon (cN P) (rnk (vis P S) (cN P)) (fun i hi => rnk_N hi) (fun i j hi hj e => rnk_inj hi hj e) r hr
  have un : ∀ z, z < cN P → rnk (vis P S) (cN P) z = r → z = y := fun z hz e => rnk_inj hz hy (e.trans hry.symm)
  refine ⟨M1, y, ?_, q1, hy, hry⟩
  unfold f_X11_busiest
  rw [h.nS hr, clT_ok, e1, cl_some, i0]
  generalize hVV : vis P S = V at *
  refine lpS (σ := Unit) (fun n i _ => f_X11_busiest_L11 Z (nI r) n (nI i) M1) (fun r => r = some (.ok (nI y), M1)) (fun i _ => i ≤ y) 0 y (s := ()) (by omega) (by omega) (Nat.zero_le _) ?_ ?_
  · intro n z _ _ hz9 _ K
    have hrk := rnk_N (V := V) (N := cN P) (x := z) (by omega)
    have hne : rnk V (cN P) z ≠ r := fun e => absurd (un z (by omega) e) (by omega)
    rw [f_X11_busiest_L11, bd_eq, i3]
    simp (disch := omega) only [if_neg (show ¬ cN P ≤ z by omega), nI_ile, rankOf_eq q5 (show 20 < Z by omega) (x := z) (N := cN P) (show z < cN P by omega) hN i3 hz.2.2 q3, hV, cl_some, nI_eqx, if_neg hne, i1, nI_add]
    exact K () (by omega)
  · intro n _ _
    have hrk := rnk_N (V := V) (N := cN P) (x := y) hy
    rw [f_X11_busiest_L11, bd_eq, i3]
    simp (disch := omega) only [if_neg (show ¬ cN P ≤ y by omega), nI_ile, rankOf_eq q5 (show 20 < Z by omega) (x := y) (N := cN P) hy hN i3 hz.2.2 q3, hV, cl_some, nI_eqx, if_pos hry]
/-- hits of a state -/
def hiC (P S : Nat → Int32) (x : Nat) : Int64 := hor (fun t => lN (Fl (cN P) (fun a y => if a = x then 0 else Tp (cM P) (cP P) (sW9 S) a y) (pn S 0) t x)) (pn S 1 + 1)
theorem q_hit {Z x : Nat} {P S : Nat → Int32} {M : Mem} (hZ : 60 < Z) (h : HasC P S M) (hx : x < cN P) : ∃ M', f_X11_hit Z M (nI x) = some (.ok (hiC P S x), M') ∧ fr [16, 17, 18, 19] M M' := by
  obtain ⟨M1, e1, q1, hF, h1⟩ := follow_C hZ h
  obtain ⟨v, M2, e2, f2, hv⟩ := hitOf_ok (Z := Z) (M := M1) h1.c.1 h.N.2 hZ hF.2.2.1 (fun x hx => Nat.le_of_eq (Tp_sum h.1 h.s x hx)) hF.1 hF.2.1 h.st.2 h.hz.2.2 hx
  refine ⟨M2, ?_, (fr3 q1).trans (f2.mono (by decide))⟩
  unfold f_X11_hit
  rw [h.nS hx, clT_ok, e1, cl_some, e2, cl_some, hv]
  rfl
