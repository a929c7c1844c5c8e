/-! setRule -/
theorem brokenWith_gen {Z : Nat} {M : Mem} {P S : Nat → Int32} (hZ : 60 < Z) (hV : VP P) (hS : VS P S) (hR : RP P M 3) (h3 : gI M 10 3 = S 0) (h4 : gI M 10 4 = S 1) (h13 : ∀ b, b < 3 → gI M 13 b = S (40 + b)) {w : Nat} {W : Nat → Nat} (hw : w ≠ 16 ∧ w ≠ 17 ∧ w ≠ 18) (hW : ∀ r, r < 3 * cN P → gI M w r = nI (W r)) (hK : WOK P W) :
    OK (f_X11_brokenWith Z M w) (fun v M' => fr [16, 17, 18] M M' ∧ v = brk (brN P S W) (cB P)) := by
  obtain ⟨eS0, hx⟩ := hS.v0
  obtain ⟨eS1, hH1, hH⟩ := hS.v1
  have hB := hV.2.1.2.2
  have hc := hR.chC hV
  have hz := hV.sz
  have ham : ∀ r, r < 18 → ∀ b, b < 3 → gI M 6 (r * 3 + b) = nI (cA P r b) := fun r hr b hb => by
    rw [show (6 : Nat) = 3 + 3 from rfl, hR.2.2.2.2.1 _ (by omega), ← Nat.add_assoc]
    exact hV.a hr hb
  unfold f_X11_brokenWith
  obtain ⟨_, M1, e1, q1, q2, q3, q4, q5⟩ := follow_ok (Z := Z) hc hz hZ (w := w) (W := W) hw hW hK.1 hx hH (fun x hx => Nat.le_of_eq (hK.T hV x hx))
  rw [bd_eq, bd_eq, h3, h4, eS0, eS1, e1, cl_some, i0]
  have c1 := hc.fr q1 (by decide) (by decide) (by decide)
  have b1 : gI M1 3 1 = nI (cB P) := by rw [q1.I (by decide)]; exact hR.2.1.trans hV.b
  refine lpS (σ := Unit) (fun n i _ => f_X11_brokenWith_L26 Z w n (brk (brN P S W) i) (nI i) M1) (fun r => OK r _) (fun _ _ => True) 0 (cB P) (s := ()) (by omega) (by omega) trivial ?_ ?_
  · intro n b _ _ hb _ K
    have e13 : gI M1 13 b = nI (pn S (40 + b)) := by
      rw [q1.I (by decide), h13 b (by omega)]
      exact (hS.v5 b (by omega)).1
    have l9 := (hS.v5 b (by omega)).2
    have u9 := unit_le hH
    have p9 : pn S (40 + b) * (10 * 1000 ^ (pn S 1 - 1)) ≤ 9999 * 10 ^ 13 := Nat.mul_le_mul l9 u9
    have eu := usedOf_eq (Z := Z) c1 hz (by omega) (w := w) (W := W) (G := cA P) (show b < 3 by omega) (fun r hr => by rw [q1.I (by simp [hw])]; exact hW r hr) hK.1 (fun r hr b hb => by rw [q1.I (by decide)]; exact ham r hr b hb) (fun r b => hV.2.2.2.2.2.1 r b) q5 q3 hH1 hH
    have e9 := uRun_eq (P := P) (W := W) (st := pn S 0) (b := b) hH
    unfold fNow at e9
    rw [e9, uRun_lN] at eu
    have ub := uN_lt (b := b) (st := pn S 0) hV hK hH1 hH
    rw [f_X11_brokenWith_L26, bd_eq, b1]
    simp (disch := omega) only [if_neg (show ¬ cB P ≤ b by omega), eu, e13, q1.I (show 10 ∉ [16, 17, 18] by decide), h4, eS1, unitOf_eq (Z := Z) (M := M1) (by omega) hH1 hH, nI_l, lN_mul, lN_ile, bd_eq, jn_eq, cl_some, i0, i1, i2, i3, i4, i5, i6, i8, i10, i14, i36, i86, nI_add, nI_mul, rdI_n, rdL_n, wrI_n, wrL_n, nI_ile, nI_ilt]
    have K1 := K () trivial
    have e2 : brk (brN P S W) (b + 1) = if brN P S W b then brk (brN P S W) b ||| (nI 1 <<< (nI b &&& 31)) else brk (brN P S W) b := rfl
    rw [e2] at K1
    by_cases c : uN P W b (pn S 0) (pn S 1) ≤ pn S (40 + b) * (10 * 1000 ^ (pn S 1 - 1))
    · rw [if_pos c]
      have c2 : brN P S W b = false := decide_eq_false (by omega)
      rw [c2] at K1
      exact K1
    · rw [if_neg c]
      have c2 : brN P S W b = true := decide_eq_true (by omega)
      rw [c2] at K1
      exact K1
  · intro n _ _
    rw [f_X11_brokenWith_L26, bd_eq, b1]
    simp only [ge_self, if_true]
    exact OK.ret ⟨q1, rfl⟩
theorem jnT {α β : Type} {c : Prop} [Decidable c] {a b : α} {F : α → β} : jn F (fun j => if c then j a else j b) = F (if c then a else b) := by
  unfold jn
  by_cases h : c
  · simp only [if_pos h]
  · simp only [if_neg h]
def top (m k : Nat) : Nat := if m ≤ k then 0 else 10
theorem top_I {m : Nat} (hm : m < 2 ^ 31) {k : Nat} (hk : k < 2 ^ 31) : (if nI m ≤ nI k then (0 : Int32) else (10 : Int32)).toInt = (top m k : Nat) := by
  unfold top
  by_cases h : m ≤ k
  · rw [if_pos h, if_pos (by rw [nI_ile hm hk]; exact h)]
    rfl
  · rw [if_neg h, if_neg (by rw [nI_ile hm hk]; exact h)]
    rfl
abbrev rOK (m : Nat) (p1 p2 p3 : Int32) : Prop := inN p1 0 10 ∧ inN p2 0 (top m 1) ∧ inN p3 0 (top m 2) ∧ p1 + p2 + p3 = 10
theorem setRule_cls {Z : Nat} {M : Mem} (h : Has M) {x : Nat} (hx : x < cN (gI M 112)) {p1 p2 p3 : Int32} : f_X11_setRule Z M (nI x) p1 p2 p3 = if rOK (cM (gI M 112) x) p1 p2 p3 then cl (f_X3_keep Z M) (fun v13 M14 => cl (f_X11_setWeights Z M14 (11) (nI x) p1 p2 p3) (fun v15 M16 => cl (f_X11_brokenWith Z M16 (11)) (fun v17 M18 => some (.ok v17, M18)))) else some (.error 2, M) := by
  have hN := h.N
  have hm := h.z.2.1 x
  have em : gI M 4 x = nI (cM (gI M 112) x) := h.c.2.1 x (by omega)
  unfold f_X11_setRule
  rw [h.nS, if_pos (inR_of hx (by omega)), clT_ok, needRangeN (a := 0) (b := 10) rfl rfl]
  by_cases g1 : inN p1 0 10
  · rw [if_pos g1, clT_ok, rdI_n (by omega) (by decide), em, jnT]
    rw [show (1 : Int32) = nI 1 from rfl, show (2 : Int32) = nI 2 from rfl, needRangeN (a := 0) (b := top (cM (gI M 112) x) 1) rfl (top_I (by omega) (by decide))]
    by_cases g2 : inN p2 0 (top (cM (gI M 112) x) 1)
    · rw [if_pos g2, clT_ok, rdI_n (by omega) (by decide), em, jnT]
      rw [needRangeN (a := 0) (b := top (cM (gI M 112) x) 2) rfl (top_I (by omega) (by decide))]
      by_cases g3 : inN p3 0 (top (cM (gI M 112) x) 2)
      · rw [if_pos g3, clT_ok]
        by_cases g4 : p1 + p2 + p3 = 10
        · rw [if_pos g4, if_pos ⟨g1, g2, g3, g4⟩]
        · rw [if_neg g4, if_neg (fun z => g4 z.2.2.2)]
      · rw [if_neg g3, if_neg (fun z => g3 z.2.2.1)]
        rfl
    · rw [if_neg g2, if_neg (fun z => g2 z.2.1)]
      rfl
  · rw [if_neg g1, if_neg (fun z => g1 z.1)]
    rfl
theorem in00 {p : Int32} : inN p 0 0 = (p = 0) := by
  unfold inN
  refine propext ⟨fun h => Int32.toInt_inj.mp ?_, fun h => by rw [h]; decide⟩
  have e : (0 : Int32).toInt = 0 := by decide
  rw [e]
  omega
theorem isWeight_eq {Z : Nat} {M : Mem} {p : Int32} {m k : Nat} (hm : m < 2 ^ 31) (hk : k < 2 ^ 31) : f_X12_isWeight Z M p (if nI m ≤ nI k then (0 : Int32) else 1) = some (bI (inN p 0 (top m k)), M) := by
  unfold f_X12_isWeight top
  by_cases h : m ≤ k
  · have h2 : nI m ≤ nI k := by rw [nI_ile hm hk]; exact h
    rw [if_pos h2, if_pos h, if_pos rfl]
    by_cases g : p = 0
    · rw [if_pos g, bI1 (by rw [in00]; exact g)]
    · rw [if_neg g, bIz (by rw [in00]; exact g)]
  · have h2 : ¬ nI m ≤ nI k := by rw [nI_ile hm hk]; exact h
    rw [if_neg h2, if_neg h, if_neg (by decide), in_N (a := 0) (b := 10) rfl rfl, cl_some, if_pos (by unfold bI; split <;> decide)]
theorem iteW {α : Type} {Z : Nat} {M : Mem} {p : Int32} {m k : Nat} (kk : Int32) (hkk : kk = nI k) (hm : m < 2 ^ 31) (hk : k < 2 ^ 31) {K : Int32 → Mem → Option α} : (if nI m ≤ kk then cl (f_X12_isWeight Z M p 0) K else cl (f_X12_isWeight Z M p 1) K) = K (bI (inN p 0 (top m k))) M := by
  subst hkk
  have e := isWeight_eq (Z := Z) (M := M) (p := p) hm hk
  by_cases h : nI m ≤ nI k
  · rw [if_pos h] at e ⊢
    rw [e, cl_some]
  · rw [if_neg h] at e ⊢
    rw [e, cl_some]
theorem isWeight1 {Z : Nat} {M : Mem} {p : Int32} : f_X12_isWeight Z M p 1 = some (bI (inN p 0 10), M) := by
  unfold f_X12_isWeight
  rw [if_neg (by decide), in_N (a := 0) (b := 10) rfl rfl, cl_some, if_pos (by unfold bI; split <;> decide)]
theorem setRule_ref {Z : Nat} {M : Mem} {P : Nat → Int32} (hc : gI M 108 1 = nI 1) (hP : gI M 112 = P) (hV : VP P) {x : Nat} (hx : x < cN P) {p1 p2 p3 : Int32} : f_X12_setRule Z M (nI x) p1 p2 p3 = if rOK (cM P x) p1 p2 p3 then cl (f_X12_keepsAll Z (T0 M)) (fun v9 M10 => wrI M10 109 54 ((4 : Int32) + ((3 : Int32) * nI x)) p1 (fun M11 => wrI M11 109 54 (((4 : Int32) + ((3 : Int32) * nI x)) + (1 : Int32)) p2 (fun M12 => wrI M12 109 54 (((4 : Int32) + ((3 : Int32) * nI x)) + (2 : Int32)) p3 (fun M13 => cl (f_X12_brokenNow Z M13) (fun v14 M15 => some (v14, M15)))))) else some (0, Tc M 3) := by
  have hN := hV.2.1
  have hm := hV.sz.2.1 x
  have em : gI (T0 M) 112 (8 + x) = nI (cM P x) := by
    rw [T0_I (by decide), hP, hV.at (by omega) (by omega), cM, if_pos (by omega)]
  unfold f_X12_setRule
  rw [noState1 hc (by rw [hP]; exact hV.n) hN.2.1, if_pos (inR_of hx (by omega)), cl_some, if_pos rfl, isWeight1, cl_some]
  have eT : (sI M 108 0 0) = T0 M := rfl
  have fin0 : ∀ (K : Int32 → Mem → Option (Int32 × Mem)), cl (f_X12_refuse Z (T0 M) 1 3) K = K 1 (Tc M 3) := fun K => by
    rw [ref1 T0_0 (by decide), cl_some]
    rfl
  by_cases g1 : inN p1 0 10
  · rw [bI1 g1]
    simp only [jn_eq, if_neg (show ¬ ((1 : Int32) = 0) by decide)]
    rw [show (8 : Int32) = nI 8 from rfl, nI_add, rdI_n (by omega) (by decide), em, iteW 1 (k := 1) rfl (by omega) (by decide)]
    by_cases g2 : inN p2 0 (top (cM P x) 1)
    · rw [bI1 g2]
      simp only [if_neg (show ¬ ((1 : Int32) = 0) by decide)]
      rw [rdI_n (by omega) (by decide), em, iteW 2 (k := 2) rfl (by omega) (by decide)]
      by_cases g3 : inN p3 0 (top (cM P x) 2)
      · rw [bI1 g3]
        simp only [if_neg (show ¬ ((1 : Int32) = 0) by decide)]
        by_cases g4 : p1 + p2 + p3 = 10
        · rw [if_pos g4, if_pos ⟨g1, g2, g3, g4⟩, ref0 T0_0, cl_some]
          rfl
        · rw [if_neg g4, if_neg (fun z => g4 z.2.2.2), fin0]
          rfl
      · rw [bIz g3, if_neg (show ¬ rOK (cM P x) p1 p2 p3 from fun z => g3 z.2.2.1), if_pos (show (0 : Int32) = 0 from rfl)]
        simp only [if_true]
        rw [fin0]
        rfl
    · rw [bIz g2, if_neg (show ¬ rOK (cM P x) p1 p2 p3 from fun z => g2 z.2.1), if_pos (show (0 : Int32) = 0 from rfl)]
      simp only [if_true]
      rw [fin0]
      rfl
  · rw [bIz g1, if_neg (fun z => g1 z.1)]
    simp only [jn_eq, if_pos]
    rw [fin0]
    rfl
/-- three cells in a row -/
theorem gI_3 {M : Mem} {o c : Nat} {a0 a1 a2 : Int32} (i : Nat) : gI (sI (sI (sI M o c a0) o (c + 1) a1) o (c + 2) a2) o i = if i = c + 2 then a2 else if i = c + 1 then a1 else if i = c then a0 else gI M o i := by
  rw [gI_sI, gI_sI, gI_sI]
  simp only [true_and]
def wt (f s t : Nat) (a : Nat) : Nat := if a = 0 then f else if a = 1 then s else t
def wNew (S : Nat → Int32) (x f s t r : Nat) : Nat := if r / 3 = x then wt f s t (r % 3) else sW S r
theorem row3 {x f s t r : Nat} {c : Nat} {v : Int32} (hv : ¬ r / 3 = x → True) : (if c + r = c + x * 3 + 2 then nI t else if c + r = c + x * 3 + 1 then nI s else if c + r = c + x * 3 then nI f else v) = if r / 3 = x then nI (wt f s t (r % 3)) else v := by
  have h3 : r = r / 3 * 3 + r % 3 := by omega
  have h4 : r % 3 < 3 := Nat.mod_lt _ (by decide)
  unfold wt
  by_cases c1 : r / 3 = x
  · rw [if_pos c1]
    by_cases c2 : r % 3 = 0
    · rw [if_neg (by omega), if_neg (by omega), if_pos (by omega), if_pos c2]
    · rw [if_neg c2]
      by_cases c3 : r % 3 = 1
      · rw [if_neg (by omega), if_pos (by omega), if_pos c3]
      · rw [if_pos (by omega), if_neg c3]
  · rw [if_neg c1, if_neg (by omega), if_neg (by omega), if_neg (by omega)]
theorem ok_setRule {Z : Nat} (hZ : 4000 < Z) {M : Mem} (hI : Inv M) (h : Has M) {x f s t : Nat} (hx : x < cN (gI M 112)) (hr : rOK (cM (gI M 112) x) (nI f) (nI s) (nI t)) (hf : f ≤ 10) (hs : s ≤ 10) (ht : t ≤ 10) : OKc (f_X11_setRule Z M (nI x) (nI f) (nI s) (nI t)) (fun M => f_X12_setRule Z M (nI x) (nI f) (nI s) (nI t)) (·.toInt64) (·.toInt64) := by
  have hN := h.N
  have hV := h.2.1
  have hS := h.VS
  have hR := h.RS
  have hz := h.z
  have hm := h.z.2.1 x
  have hm1 := hV.2.2.2.1 x hx
  have hsum : f + s + t = 10 := by
    have g := hr.2.2.2
    rw [nI_add, nI_add, show (10 : Int32) = nI 10 from rfl] at g
    have := congrArg Int32.toInt g
    rw [nI_toInt (by omega), nI_toInt (by omega)] at this
    omega
  have hs0 : cM (gI M 112) x ≤ 1 → s = 0 := fun c => by
    have g := hr.2.1.2
    unfold top at g
    rw [if_pos c, nI_toInt (by omega)] at g
    omega
  have ht0 : cM (gI M 112) x ≤ 2 → t = 0 := fun c => by
    have g := hr.2.2.1.2
    unfold top at g
    rw [if_pos c, nI_toInt (by omega)] at g
    omega
  -- the new weights
  have hK : WOK (gI M 112) (wNew (gI M 109) x f s t) := by
    refine ⟨fun r => ?_, fun y hy => ?_⟩
    · unfold wNew wt
      have := hS.v3.2.1 r
      split
      · split
        · exact hf
        · split
          · exact hs
          · exact ht
      · exact this
    · by_cases c : y = x
      · subst c
        have e : sm (cM (gI M 112) y) (fun a => wNew (gI M 109) y f s t (y * 3 + a)) = sm (cM (gI M 112) y) (wt f s t) := sm_congr (fun a ha => by
          unfold wNew
          rw [if_pos (by omega), show (y * 3 + a) % 3 = a by omega])
        rw [e]
        have h3 : cM (gI M 112) y = 1 ∨ cM (gI M 112) y = 2 ∨ cM (gI M 112) y = 3 := by omega
        rcases h3 with g | g | g
        · rw [g]
          have := hs0 (by omega)
          have := ht0 (by omega)
          show 0 + f = 10
          omega
        · rw [g]
          have := ht0 (by omega)
          show 0 + f + s = 10
          omega
        · rw [g]
          show 0 + f + s + t = 10
          omega
      · rw [← (hS.v3.2.2 y hy).1]
        refine sm_congr (fun a ha => ?_)
        have := hz.2.1 y
        unfold wNew
        rw [if_neg (by omega)]
  have hW0 : ∀ y, y < cN (gI M 112) → ∀ a, cM (gI M 112) y ≤ a → a < 3 → wNew (gI M 109) x f s t (y * 3 + a) = 0 := fun y hy a ha ha3 => by
    have e : (y * 3 + a) / 3 = y := by omega
    have e2 : (y * 3 + a) % 3 = a := by omega
    unfold wNew
    rw [e, e2]
    by_cases c : y = x
    · subst c
      rw [if_pos rfl]
      unfold wt
      rw [if_neg (by omega)]
      by_cases d : a = 1
      · rw [if_pos d]
        exact hs0 (by omega)
      · rw [if_neg d]
        exact ht0 (by omega)
    · rw [if_neg c]
      exact (hS.v3.2.2 y hy).2 a ha ha3
  obtain ⟨M1, e1, m1, HH⟩ := change hZ hI h
  have m10 : ∀ o, o < 35 → gI M1 o = gI M o := fun o a => (m1 o (by omega) (by omega) (by omega)).1
  generalize hMb : sI (sI (sI M1 11 (x * 3) (nI f)) 11 (x * 3 + 1) (nI s)) 11 (x * 3 + 2) (nI t) = Mb
  have fb : fr [11] M1 Mb := by
    rw [← hMb]
    exact fr_sI (fr_sI (fr_sI fr.rfl (by decide)) (by decide)) (by decide)
  have b11 : ∀ r, gI Mb 11 r = if r / 3 = x then nI (wt f s t (r % 3)) else gI M 11 r := fun r => by
    rw [← hMb, gI_3, ← row3 (c := 0) (fun _ => trivial), m10 11 (by decide)]
    simp only [Nat.zero_add]
  have hWb : ∀ r, r < 3 * cN (gI M 112) → gI Mb 11 r = nI (wNew (gI M 109) x f s t r) := fun r hr => by
    rw [b11]
    unfold wNew
    by_cases c : r / 3 = x
    · rw [if_pos c, if_pos c]
    · rw [if_neg c, if_neg c, show (11 : Nat) = 10 + 1 from rfl, hR.2.1 r hr]
      exact hS.v3.1 r (by omega)
  have bo : ∀ o, o < 35 → o ≠ 11 → gI Mb o = gI M o := fun o a b => by rw [fb.I (by simp; omega), m10 o a]
  obtain ⟨v, Mc, ec, fc, hv⟩ := brokenWith_gen (Z := Z) (M := Mb) (P := gI M 112) (S := gI M 109) (w := 11) (by omega) hV hS (h.2.2.1.same (fun o a b => bo o (by omega) (by omega))) (by rw [bo 10 (by decide) (by decide)]; exact hR.1.1) (by rw [bo 10 (by decide) (by decide)]; exact hR.1.2.1) (fun b hb => by rw [bo 13 (by decide) (by decide)]; exact hR.2.2.2.1 b hb) (by decide) hWb hK
  have f2 : fr lC M1 Mc := (fb.mono (by decide)).trans (fc.mono (by decide))
  obtain ⟨M4, e4, f4, K⟩ := HH Mc v.toInt64 f2
  obtain ⟨s1, s2, s3⟩ := chg_sL (v := v.toInt64) h m1 f2
  have j109 : gI M4 109 = gI M 109 := by rw [f4.i (by decide) (by decide), T0_I (by decide), s3]
  have j112 : gI M4 112 = gI M 112 := by rw [f4.i (by decide) (by decide), T0_I (by decide), s2]
  generalize hM5 : sI (sI (sI M4 109 (4 + x * 3) (nI f)) 109 (4 + x * 3 + 1) (nI s)) 109 (4 + x * 3 + 2) (nI t) = M5
  have f5 : fr [109] M4 M5 := by
    rw [← hM5]
    exact fr_sI (fr_sI (fr_sI fr.rfl (by decide)) (by decide)) (by decide)
  have S5 : ∀ i, gI M5 109 i = if i = 4 + x * 3 + 2 then nI t else if i = 4 + x * 3 + 1 then nI s else if i = 4 + x * 3 then nI f else gI M 109 i := fun i => by rw [← hM5, gI_3, j109]
  have Sn : ∀ i, i < 4 ∨ 22 ≤ i → gI M5 109 i = gI M 109 i := fun i hi => by rw [S5, if_neg (by omega), if_neg (by omega), if_neg (by omega)]
  have SW : ∀ r, gI M5 109 (4 + r) = if r / 3 = x then nI (wt f s t (r % 3)) else gI M 109 (4 + r) := fun r => by rw [S5, row3 (fun _ => trivial)]
  have hWr : ∀ r, r < 18 → gI M5 109 (4 + r) = nI (wNew (gI M 109) x f s t r) := fun r hr => by
    rw [SW]
    unfold wNew
    by_cases c : r / 3 = x
    · rw [if_pos c, if_pos c]
    · rw [if_neg c, if_neg c]
      exact hS.v3.1 r hr
  have eW : ∀ r, sW (gI M5 109) r = wNew (gI M 109) x f s t r := fun r => by
    have := hK.1 r
    by_cases c : r < 18
    · unfold sW
      rw [if_pos c, pn_n (hWr r c) (by omega)]
    · unfold sW wNew sW
      rw [if_neg c, if_neg (by omega), if_neg c]
  obtain ⟨v2, M6, e6, f6, hv2⟩ := brokenNow_ok (Z := Z) (M := M5) (P := gI M 112) (st := pn (gI M 109) 0) (H := pn (gI M 109) 1) (W := wNew (gI M 109) x f s t) (lim := fun b => pn (gI M 109) (40 + b)) hV (by rw [f5.I (by decide), j112]) (by omega) ⟨by rw [Sn 0 (by omega)]; exact hS.v0.1, by rw [Sn 1 (by omega)]; exact hS.v1.1, hWr⟩ hK hS.v0.2 hS.v1.2.1 hS.v1.2.2 (fun b hb => by
    have h2 := hS.v5 b hb
    rw [Sn _ (by omega)]
    exact ⟨h2.1, Nat.le_trans h2.2 (by decide)⟩)
  have ev : v2 = v := by rw [hv2, hv]; rfl
  have f45 : fr lR M4 M6 := (f5.mono (by decide)).trans (f6.mono (by decide))
  have q109 : gI M6 109 = gI M5 109 := f6.I (by decide)
  have hV5 : VS (gI M 112) (gI M6 109) := by
    rw [q109]
    refine VS.mk (hS.v0.congr (Sn 0 (by omega))) (hS.v1.congr (Sn 1 (by omega))) (hS.v2.congr (Sn 2 (by omega))) ⟨fun r hr => by rw [eW]; exact hWr r hr, fun r => by rw [eW]; exact hK.1 r, fun y hy => ?_⟩ (V4.congr hN.2 hz.2.1 hS.v4 (fun r hr => Sn _ (by omega))) (hS.v5.congr (fun k hk => Sn _ (by omega))) (hS.v6.congr (Sn 3 (by omega)) (fun i h1 h2 => Sn _ (by omega)))
    simp only [eW]
    exact ⟨hK.2 y hy, hW0 y hy⟩
  have mo : ∀ o, 10 ≤ o → o < 16 → gI M6 o = gI Mb o := fun o a b => by
    rw [f6.I (by simp; omega), f5.I (by simp; omega), f4.i (by simp; omega) (by omega), T0_I (by omega), gI_sL', fc.I (by simp; omega)]
  have hR5 : RS (gI M 112) M6 10 (gI M6 109) := by
    rw [q109]
    obtain ⟨⟨a1, a2, a3, a4⟩, b1, c, d, e, f⟩ := hR
    refine ⟨⟨?_, ?_, ?_, ?_⟩, fun r hr => ?_, fun x hx => ?_, fun k hk => ?_, fun t ht => ?_, fun t ht => ?_⟩
    · rw [mo 10 (by decide) (by decide), bo 10 (by decide) (by decide), Sn 0 (by omega)]; exact a1
    · rw [mo 10 (by decide) (by decide), bo 10 (by decide) (by decide), Sn 1 (by omega)]; exact a2
    · rw [mo 10 (by decide) (by decide), bo 10 (by decide) (by decide), Sn 2 (by omega)]; exact a3
    · rw [mo 10 (by decide) (by decide), bo 10 (by decide) (by decide), Sn 3 (by omega)]; exact a4
    · rw [mo (10 + 1) (by decide) (by decide), hWr r (by omega)]
      exact hWb r hr
    · obtain ⟨q, q1, q2, q3⟩ := c x hx
      have := hz.2.1 x
      exact ⟨q, q1, by rw [mo (10 + 2) (by decide) (by decide), bo (10 + 2) (by decide) (by decide)]; exact q2, fun a ha => by rw [Sn _ (by omega)]; exact q3 a ha⟩
    · rw [mo (10 + 3) (by decide) (by decide), bo (10 + 3) (by decide) (by decide), Sn _ (by omega)]; exact d k hk
    · rw [mo (10 + 4) (by decide) (by decide), bo (10 + 4) (by decide) (by decide), Sn _ (by omega)]; exact e t ht
    · rw [mo (10 + 5) (by decide) (by decide), bo (10 + 5) (by decide) (by decide), Sn _ (by omega)]; exact f t ht
  obtain ⟨i5, z5, o5⟩ := K _ f45 hV5 hR5
  refine ⟨v, v, Mc, M6, ?_, ?_, i5, z5, o5⟩
  · rw [setRule_cls h hx, if_pos hr, e1, cl_some]
    unfold f_X11_setWeights
    rw [i0, i1, show (2 : Int32) = nI 2 from rfl, rowOf_eq, cl_some, wrI_n (by omega) (by decide), rowOf_eq, cl_some, wrI_n (by omega) (by decide), rowOf_eq, cl_some, wrI_n (by omega) (by decide), cl_some, Nat.add_zero, hMb, ec, cl_some]
  · show f_X12_setRule Z (sL Mc 124 0 v.toInt64) (nI x) (nI f) (nI s) (nI t) = _
    rw [setRule_ref s1 s2 hV hx, if_pos hr, e4, cl_some, show (4 : Int32) = nI 4 from rfl, i3, i1, show (2 : Int32) = nI 2 from rfl, nI_mul, nI_add, mc3, wrI_n (by omega) (by decide), nI_add, wrI_n (by omega) (by decide), nI_add, wrI_n (by omega) (by decide), hM5, e6, cl_some, ev]
theorem ck_setRule {Z : Nat} {M : Mem} (hZ : 4000 < Z) (hI : Inv M) (p1 p2 p3 p4 : Int32) : CK (f_L_setRule Z M p1 p2 p3 p4) (fun M => f_X12_setRule Z M p1 p2 p3 p4) (·.toInt64) := by
  unfold f_L_setRule
  rcases hI.2.2.2.2.2 with h | h
  · exact CK.er hI (e := 0) (c := 1) (w := 0) (by unfold f_X11_setRule; rw [needState0 h.2.1]; rfl) rfl (by decide) (by unfold f_X12_setRule; rw [noState0 h.1]; rfl)
  · by_cases hp : inR p1 (cN (gI M 112))
    · obtain ⟨x, hx, rfl⟩ := inR_nI hp
      by_cases hr : rOK (cM (gI M 112) x) p2 p3 p4
      · obtain ⟨f, _, hf, rfl⟩ := inN_nI hr.1
        obtain ⟨s, _, hs, rfl⟩ := inN_nI hr.2.1
        obtain ⟨t, _, ht, rfl⟩ := inN_nI hr.2.2.1
        have q : ∀ m k, top m k ≤ 10 := fun m k => by unfold top; split <;> decide
        exact CK.mk (ok_setRule hZ hI h hx hr hf (Nat.le_trans hs (q _ _)) (Nat.le_trans ht (q _ _)))
      · exact CK.er hI (e := 2) (c := 3) (w := 0) (by rw [setRule_cls h hx, if_neg hr]) rfl (by decide) (by rw [setRule_ref h.1 rfl h.2.1 hx, if_neg hr])
    · exact CK.er hI (e := 1) (c := 2) (w := 0) (by unfold f_X11_setRule; rw [h.nS, if_neg hp]; rfl) rfl (by decide) (by unfold f_X12_setRule; rw [h.rS, if_neg hp]; rfl)
theorem b_law_50 {Z L a : Nat} {xs : Nat → Int32} {M : Mem} {j : Mem → Option Unit} (hZ : 4000 < Z) (hI : Inv M) (ha : a + 6 ≤ L) (hL : L ≤ 3072) (hj : ∀ M1, Inv M1 → j M1 = some ()) : f_law_50 Z L xs M (nI a) j = some () := by
  unfold f_law_50
  simp (disch := omega) only [i1, i2, i3, i4, nI_add, rdX_n]
  generalize xs (a + 1) = p1
  generalize xs (a + 2) = p2
  generalize xs (a + 3) = p3
  generalize xs (a + 4) = p4
  exact (ck_setRule hZ hI p1 p2 p3 p4).tail hj
