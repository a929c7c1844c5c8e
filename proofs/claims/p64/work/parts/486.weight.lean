/-! bestWeight -/
theorem two_sum {m a o w : Nat} (hm : m ≤ 3) (ha : a < m) (ho : o < m) (hao : a ≠ o) (hw : w ≤ 10) : sm m (fun k => if k = a then 10 - w else if k = o then w else 0) = 10 := by
  have h2 : m = 2 ∨ m = 3 := by omega
  have q : ∀ k, (if k = a then 10 - w else if k = o then w else 0) = if k = a then 10 - w else if k = o then w else 0 := fun _ => rfl
  rcases h2 with g | g
  · subst g
    show 0 + (if 0 = a then 10 - w else if 0 = o then w else 0) + (if 1 = a then 10 - w else if 1 = o then w else 0) = 10
    repeat' split
    all_goals omega
  · subst g
    show 0 + (if 0 = a then 10 - w else if 0 = o then w else 0) + (if 1 = a then 10 - w else if 1 = o then w else 0) + (if 2 = a then 10 - w else if 2 = o then w else 0) = 10
    repeat' split
    all_goals omega
def wTwo (W0 : Nat → Nat) (x a o w r : Nat) : Nat := if r = x * 3 + a then 10 - w else if r = x * 3 + o then w else if r / 3 = x then 0 else W0 r
theorem wTwo_WOK {P : Nat → Int32} (hV : VP P) {W0 : Nat → Nat} (h0 : WOK P W0) {x a o w : Nat} (ha : a < cM P x) (ho : o < cM P x) (hao : a ≠ o) (hw : w ≤ 10) : WOK P (wTwo W0 x a o w) := by
  have hm := hV.sz.2.1 x
  refine ⟨fun r => ?_, fun y hy => ?_⟩
  · have := h0.1 r
    unfold wTwo
    repeat' split
    all_goals omega
  · by_cases c : y = x
    · subst c
      rw [← two_sum hm ha ho hao hw]
      refine sm_congr (fun k hk => ?_)
      unfold wTwo
      by_cases d : k = a
      · rw [if_pos (by omega), if_pos d]
      · rw [if_neg (by omega), if_neg d]
        by_cases e : k = o
        · rw [if_pos (by omega), if_pos e]
        · rw [if_neg (by omega), if_neg e, if_pos (by omega)]
    · rw [← h0.2 y hy]
      refine sm_congr (fun k hk => ?_)
      have := hV.sz.2.1 y
      unfold wTwo
      rw [if_neg (by omega), if_neg (by omega), if_neg (by omega)]
/-- of the weights below w: the first of the greatest gain that holds -/
def BW (P S : Nat → Int32) (x a o : Nat) : Nat → Option (Nat × Int64)
  | 0 => none
  | w + 1 => if brk (brN P S (wTwo (sW9 S) x a o w)) (cB P) = 0 then (match BW P S x a o w with
      | none => some (w, gRun P (wTwo (sW9 S) x a o w) (pn S 0) (pn S 1))
      | some q => if q.2 < gRun P (wTwo (sW9 S) x a o w) (pn S 0) (pn S 1) then some (w, gRun P (wTwo (sW9 S) x a o w) (pn S 0) (pn S 1)) else some q)
    else BW P S x a o w
def xB : Option (Nat × Int64) → Int32
  | none => -1
  | some q => nI q.1
def gB (d : Int64) : Option (Nat × Int64) → Int64
  | none => d
  | some q => q.2
theorem BW_lt {P S : Nat → Int32} {x a o : Nat} : ∀ w q, BW P S x a o w = some q → q.1 < w
  | 0, q, h => absurd h (by simp [BW])
  | w + 1, q, h => by
    have ih := BW_lt (P := P) (S := S) (x := x) (a := a) (o := o) w
    unfold BW at h
    split at h
    · cases g : BW P S x a o w with
      | none =>
        rw [g] at h
        have := Option.some.inj h
        rw [← this]
        exact Nat.lt_succ_self w
      | some q2 =>
        rw [g] at h
        have i2 := ih q2 g
        dsimp only at h
        split at h
        · have := Option.some.inj h
          rw [← this]
          exact Nat.lt_succ_self w
        · have := Option.some.inj h
          rw [← this]
          omega
    · have := ih q h
      omega
theorem cls_bestWeight {Z : Nat} (hZ : 4000 < Z) {M M0 : Mem} (h : Has M) {x a o : Nat} (hx : x < cN (gI M 112)) (ha : a < cM (gI M 112) x) (ho : o < cM (gI M 112) x) (hao : a ≠ o) (f0 : fr [107] M M0) (h0 : ∀ r, r < 3 * cN (gI M 112) → gI M0 107 r = nI (if r / 3 = x then 0 else sW9 (gI M 109) r)) : ∃ M', f_X11_bestWeight_L64 Z (nI x) (nI a) (nI o) Z (-1) (-9223372036854775808) 0 M0 = some (.ok (xB (BW (gI M 112) (gI M 109) x a o 11)), M') ∧ fr [16, 17, 18, 107] M M' := by
  have hN := h.N
  have hV := h.2.1
  have hm := h.z.2.1 x
  have hK0 := h.VS.W
  rw [i0]
  refine lpS (σ := Mem) (fun n w M' => f_X11_bestWeight_L64 Z (nI x) (nI a) (nI o) n (xB (BW (gI M 112) (gI M 109) x a o w)) (gB (-9223372036854775808) (BW (gI M 112) (gI M 109) x a o w)) (nI w) M') (fun q => ∃ M', q = some (.ok (xB (BW (gI M 112) (gI M 109) x a o 11)), M') ∧ fr [16, 17, 18, 107] M M') (fun w M' => fr [16, 17, 18, 107] M M' ∧ ∀ r, r < 3 * cN (gI M 112) → r ≠ x * 3 + a → r ≠ x * 3 + o → gI M' 107 r = nI (if r / 3 = x then 0 else sW9 (gI M 109) r)) 0 11 (s := M0) (by omega) (by omega) ⟨f0.mono (by decide), fun r hr _ _ => h0 r hr⟩ ?_ ?_
  · intro n w M1 _ hw hI KK
    obtain ⟨g1, g2⟩ := hI
    have hK := wTwo_WOK hV hK0 ha ho hao (show w ≤ 10 by omega)
    generalize hM2 : sI (sI M1 107 (x * 3 + a) (nI (10 - w))) 107 (x * 3 + o) (nI w) = M2
    have f2 : fr [16, 17, 18, 107] M M2 := by
      rw [← hM2]
      exact fr_sI (fr_sI g1 (by decide)) (by decide)
    have c2 : ∀ r, r < 3 * cN (gI M 112) → gI M2 107 r = nI (wTwo (sW9 (gI M 109)) x a o w r) := fun r hr => by
      rw [← hM2, gI_sI, gI_sI]
      unfold wTwo
      by_cases d : r = x * 3 + o
      · rw [if_pos ⟨rfl, d⟩, if_neg (by omega), if_pos d]
      · rw [if_neg (fun z => d z.2)]
        by_cases e : r = x * 3 + a
        · rw [if_pos ⟨rfl, e⟩, if_pos e]
        · rw [if_neg (fun z => e z.2), if_neg e, if_neg d]
          exact g2 r hr e d
    have H2 := h.kp (kp.of f2 (by decide))
    have p2 : gI M2 112 = gI M 112 := f2.I (by decide)
    have s2 : gI M2 109 = gI M 109 := f2.I (by decide)
    obtain ⟨v, M3, e3, f3, b1, b2, hv⟩ := brokenWith_ok (Z := Z) (M := M2) (w := 107) (W := wTwo (sW9 (gI M 109)) x a o w) (by omega) H2 (by decide) (by rw [p2]; exact c2) (by rw [p2]; exact hK)
    rw [p2, s2] at b2 hv
    rw [s2] at b1
    have D : FLd (gI M 112) (wTwo (sW9 (gI M 109)) x a o w) (pn (gI M 109) 0) (pn (gI M 109) 1) 107 M3 := ⟨h.2.2.1.same (fun o' x1 x2 => by rw [f3.I (by simp; omega), f2.I (by simp; omega)]), b1, b2, fun r hr => by rw [f3.I (by decide)]; exact c2 r hr⟩
    have f13 : fr [16, 17, 18, 107] M M3 := f2.trans (f3.mono (by decide))
    have n3 : ∀ r, r < 3 * cN (gI M 112) → r ≠ x * 3 + a → r ≠ x * 3 + o → gI M3 107 r = nI (if r / 3 = x then 0 else sW9 (gI M 109) r) := fun r hr d e => by
      rw [f3.I (by decide), ← hM2, gI_sI, if_neg (fun z => e z.2), gI_sI, if_neg (fun z => d z.2)]
      exact g2 r hr d e
    have K1 := KK M3 ⟨f13, n3⟩
    have eB : BW (gI M 112) (gI M 109) x a o (w + 1) = if brk (brN (gI M 112) (gI M 109) (wTwo (sW9 (gI M 109)) x a o w)) (cB (gI M 112)) = 0 then (match BW (gI M 112) (gI M 109) x a o w with
      | none => some (w, gRun (gI M 112) (wTwo (sW9 (gI M 109)) x a o w) (pn (gI M 109) 0) (pn (gI M 109) 1))
      | some q => if q.2 < gRun (gI M 112) (wTwo (sW9 (gI M 109)) x a o w) (pn (gI M 109) 0) (pn (gI M 109) 1) then some (w, gRun (gI M 112) (wTwo (sW9 (gI M 109)) x a o w) (pn (gI M 109) 0) (pn (gI M 109) 1)) else some q)
      else BW (gI M 112) (gI M 109) x a o w := rfl
    rw [← hv] at eB
    have gm := gRun_min (st := pn (gI M 109) 0) hV hK h.hz.2.2.1 h.hz.2.2.2
    rw [f_X11_bestWeight_L64, if_neg (by rw [show (10 : Int32) = nI 10 from rfl, nI_ilt (by decide) (by omega)]; omega), rowOf_eq, cl_some, show (10 : Int32) = nI 10 from rfl, nI_sub (by omega), wrI_n (by omega) (by decide), rowOf_eq, cl_some, wrI_n (by omega) (by decide), hM2, e3, cl_some, jn_eq, show nI w + (1 : Int32) = nI (w + 1) from nI_add w 1]
    by_cases c : v = 0
    · rw [if_pos c] at eB
      rw [if_pos c, D.gain hV hK (by omega) h.hz.2.2.1 h.hz.2.2.2, cl_some]
      cases q : BW (gI M 112) (gI M 109) x a o w with
      | none =>
        rw [q] at eB
        dsimp only at eB
        rw [eB] at K1
        rw [if_neg (show ¬ gRun (gI M 112) (wTwo (sW9 (gI M 109)) x a o w) (pn (gI M 109) 0) (pn (gI M 109) 1) ≤ gB (-9223372036854775808) none from Int64.not_le.mpr gm), D.gain hV hK (by omega) h.hz.2.2.1 h.hz.2.2.2, cl_some]
        exact K1
      | some q2 =>
        rw [q] at eB
        dsimp only at eB
        by_cases d : q2.2 < gRun (gI M 112) (wTwo (sW9 (gI M 109)) x a o w) (pn (gI M 109) 0) (pn (gI M 109) 1)
        · rw [if_pos d] at eB
          rw [eB] at K1
          rw [if_neg (show ¬ gRun (gI M 112) (wTwo (sW9 (gI M 109)) x a o w) (pn (gI M 109) 0) (pn (gI M 109) 1) ≤ gB (-9223372036854775808) (some q2) from Int64.not_le.mpr d), D.gain hV hK (by omega) h.hz.2.2.1 h.hz.2.2.2, cl_some]
          exact K1
        · rw [if_neg d] at eB
          rw [eB] at K1
          rw [if_pos (show gRun (gI M 112) (wTwo (sW9 (gI M 109)) x a o w) (pn (gI M 109) 0) (pn (gI M 109) 1) ≤ gB (-9223372036854775808) (some q2) from Int64.not_lt.mp d)]
          exact K1
    · rw [if_neg c] at eB
      rw [eB] at K1
      rw [if_neg c]
      exact K1
  · intro n M1 hI
    rw [f_X11_bestWeight_L64, if_pos (by decide)]
    exact ⟨M1, rfl, hI.1⟩
