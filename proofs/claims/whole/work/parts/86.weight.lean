/-! bestWeight -/
theorem two_sum {m a o w : Nat} (hm : m ≤ 3) (ha : a < m) (ho : o < m) (hao : a ≠ o) (hw : w ≤ 10) : sm m (fun k => if k = a then 10 - w else if k = o then w else 0) = 10 := by
  have h2 : m = 2 ∨ m = 3 := by omega
  have q : ∀ k, (if k = a then 10 - w else if k = o then w else 0) = if k = a then 10 - w else if k = o then w else 0 := fun _ => rfl
  rcases h2 with g | g
  · subst g
    show 0 + (if 0 = a then 10 - w else if 0 = o then w else 0) + (if 1 = a then 10 - w else if 1 = o then w else 0) = 10
    repeat' split
    all_goals omega
  · subst g
    show 0 + (if 0 = a then 10 - w else if 0 = o then w else 0) + (if 1 = a then 10 - w else if 1 = o then w else 0) + (if 2 = a then 10 - w else if 2 = o then w else 0) = 10
    repeat' split
    all_goals omega
def wTwo (W0 : Nat → Nat) (x a o w r : Nat) : Nat := if r = x * 3 + a then 10 - w else if r = x * 3 + o then w else if r / 3 = x then 0 else W0 r
theorem wTwo_WOK {P : Nat → Int32} (hV : VP P) {W0 : Nat → Nat} (h0 : WOK P W0) {x a o w : Nat} (ha : a < cM P x) (ho : o < cM P x) (hao : a ≠ o) (hw : w ≤ 10) : WOK P (wTwo W0 x a o w) := by
  have hm := hV.sz.2.1 x
  refine ⟨fun r => ?_, fun y hy => ?_⟩
  · have := h0.1 r
    unfold wTwo
    repeat' split
    all_goals omega
  · by_cases c : y = x
    · subst c
      rw [← two_sum hm ha ho hao hw]
      refine sm_congr (fun k hk => ?_)
      unfold wTwo
      by_cases d : k = a
      · rw [if_pos (by omega), if_pos d]
      · rw [if_neg (by omega), if_neg d]
        by_cases e : k = o
        · rw [if_pos (by omega), if_pos e]
        · rw [if_neg (by omega), if_neg e, if_pos (by omega)]
    · rw [← h0.2 y hy]
      refine sm_congr (fun k hk => ?_)
      have := hV.sz.2.1 y
      unfold wTwo
      rw [if_neg (by omega), if_neg (by omega), if_neg (by omega)]
/-- of the weights below w: the first of the greatest gain that holds -/
def BW (P S : Nat → Int32) (x a o : Nat) : Nat → Option (Nat × Int64)
  | 0 => none
  | w + 1 => if brk (brN P S (wTwo (sW S) x a o w)) (cB P) = 0 then (match BW P S x a o w with
      | none => some (w, gRun P (wTwo (sW S) x a o w) (pn S 0) (pn S 1))
      | some q => if q.2 < gRun P (wTwo (sW S) x a o w) (pn S 0) (pn S 1) then some (w, gRun P (wTwo (sW S) x a o w) (pn S 0) (pn S 1)) else some q)
    else BW P S x a o w
def xB : Option (Nat × Int64) → Int32
  | none => -1
  | some q => nI q.1
def gB (d : Int64) : Option (Nat × Int64) → Int64
  | none => d
  | some q => q.2
theorem BW_lt {P S : Nat → Int32} {x a o : Nat} : ∀ w q, BW P S x a o w = some q → q.1 < w
  | 0, q, h => absurd h (by simp [BW])
  | w + 1, q, h => by
    have ih := BW_lt (P := P) (S := S) (x := x) (a := a) (o := o) w
    unfold BW at h
    split at h
    · cases g : BW P S x a o w with
      | none =>
        rw [g] at h
        have := Option.some.inj h
        rw [← this]
        exact Nat.lt_succ_self w
      | some q2 =>
        rw [g] at h
        have i2 := ih q2 g
        dsimp only at h
        split at h
        · have := Option.some.inj h
          rw [← this]
          exact Nat.lt_succ_self w
        · have := Option.some.inj h
          rw [← this]
          omega
    · have := ih q h
      omega
theorem cls_bestWeight {Z : Nat} (hZ : 4000 < Z) {M M0 : Mem} (h : Has M) {x a o : Nat} (hx : x < cN (gI M 112)) (ha : a < cM (gI M 112) x) (ho : o < cM (gI M 112) x) (hao : a ≠ o) (f0 : fr [107] M M0) (h0 : ∀ r, r < 3 * cN (gI M 112) → gI M0 107 r = nI (if r / 3 = x then 0 else sW (gI M 109) r)) : ∃ M', f_X11_bestWeight_L64 Z (nI x) (nI a) (nI o) Z (-1) (-9223372036854775808) 0 M0 = some (.ok (xB (BW (gI M 112) (gI M 109) x a o 11)), M') ∧ fr [16, 17, 18, 107] M M' := by
  have hN := h.N
  have hV := h.2.1
  have hm := h.z.2.1 x
  have hK0 := h.VS.W
  rw [i0]
  refine lpS (σ := Mem) (fun n w M' => f_X11_bestWeight_L64 Z (nI x) (nI a) (nI o) n (xB (BW (gI M 112) (gI M 109) x a o w)) (gB (-9223372036854775808) (BW (gI M 112) (gI M 109) x a o w)) (nI w) M') (fun q => ∃ M', q = some (.ok (xB (BW (gI M 112) (gI M 109) x a o 11)), M') ∧ fr [16, 17, 18, 107] M M') (fun w M' => fr [16, 17, 18, 107] M M' ∧ ∀ r, r < 3 * cN (gI M 112) → r ≠ x * 3 + a → r ≠ x * 3 + o → gI M' 107 r = nI (if r / 3 = x then 0 else sW (gI M 109) r)) 0 11 (s := M0) (by omega) (by omega) ⟨f0.mono (by decide), fun r hr _ _ => h0 r hr⟩ ?_ ?_
  · intro n w M1 _ hw hI KK
    obtain ⟨g1, g2⟩ := hI
    have hK := wTwo_WOK hV hK0 ha ho hao (show w ≤ 10 by omega)
    generalize hM2 : sI (sI M1 107 (x * 3 + a) (nI (10 - w))) 107 (x * 3 + o) (nI w) = M2
    have f2 : fr [16, 17, 18, 107] M M2 := by
      rw [← hM2]
      exact fr_sI (fr_sI g1 (by decide)) (by decide)
    have c2 : ∀ r, r < 3 * cN (gI M 112) → gI M2 107 r = nI (wTwo (sW (gI M 109)) x a o w r) := fun r hr => by
      rw [← hM2, gI_sI, gI_sI]
      unfold wTwo
      by_cases d : r = x * 3 + o
      · rw [if_pos ⟨rfl, d⟩, if_neg (by omega), if_pos d]
      · rw [if_neg (fun z => d z.2)]
        by_cases e : r = x * 3 + a
        · rw [if_pos ⟨rfl, e⟩, if_pos e]
        · rw [if_neg (fun z => e z.2), if_neg e, if_neg d]
          exact g2 r hr e d
    have H2 := h.kp (kp.of f2 (by decide))
    have p2 : gI M2 112 = gI M 112 := f2.I (by decide)
    have s2 : gI M2 109 = gI M 109 := f2.I (by decide)
    obtain ⟨v, M3, e3, f3, b1, b2, hv⟩ := brokenWith_ok (Z := Z) (M := M2) (w := 107) (W := wTwo (sW (gI M 109)) x a o w) (by omega) H2 (by decide) (by rw [p2]; exact c2) (by rw [p2]; exact hK)
    rw [p2, s2] at b2 hv
    rw [s2] at b1
    have D : FLd (gI M 112) (wTwo (sW (gI M 109)) x a o w) (pn (gI M 109) 0) (pn (gI M 109) 1) 107 M3 := ⟨h.2.2.1.same (fun o' x1 x2 => by rw [f3.I (by simp; omega), f2.I (by simp; omega)]), b1, b2, fun r hr => by rw [f3.I (by decide)]; exact c2 r hr⟩
    have f13 : fr [16, 17, 18, 107] M M3 := f2.trans (f3.mono (by decide))
    have n3 : ∀ r, r < 3 * cN (gI M 112) → r ≠ x * 3 + a → r ≠ x * 3 + o → gI M3 107 r = nI (if r / 3 = x then 0 else sW (gI M 109) r) := fun r hr d e => by
      rw [f3.I (by decide), ← hM2, gI_sI, if_neg (fun z => e z.2), gI_sI, if_neg (fun z => d z.2)]
      exact g2 r hr d e
    have K1 := KK M3 ⟨f13, n3⟩
    have eB : BW (gI M 112) (gI M 109) x a o (w + 1) = if brk (brN (gI M 112) (gI M 109) (wTwo (sW (gI M 109)) x a o w)) (cB (gI M 112)) = 0 then (match BW (gI M 112) (gI M 109) x a o w with
      | none => some (w, gRun (gI M 112) (wTwo (sW (gI M 109)) x a o w) (pn (gI M 109) 0) (pn (gI M 109) 1))
      | some q => if q.2 < gRun (gI M 112) (wTwo (sW (gI M 109)) x a o w) (pn (gI M 109) 0) (pn (gI M 109) 1) then some (w, gRun (gI M 112) (wTwo (sW (gI M 109)) x a o w) (pn (gI M 109) 0) (pn (gI M 109) 1)) else some q)
      else BW (gI M 112) (gI M 109) x a o w := rfl
    rw [← hv] at eB
    have gm := gRun_min (st := pn (gI M 109) 0) hV hK h.hz.2.2.1 h.hz.2.2.2
    rw [f_X11_bestWeight_L64, if_neg (by rw [show (10 : Int32) = nI 10 from rfl, nI_ilt (by decide) (by omega)]; omega), rowOf_eq, cl_some, show (10 : Int32) = nI 10 from rfl, nI_sub (by omega), wrI_n (by omega) (by decide), rowOf_eq, cl_some, wrI_n (by omega) (by decide), hM2, e3, cl_some, jn_eq, show nI w + (1 : Int32) = nI (w + 1) from nI_add w 1]
    by_cases c : v = 0
    · rw [if_pos c] at eB
      rw [if_pos c, D.gain hV hK (by omega) h.hz.2.2.1 h.hz.2.2.2, cl_some]
      cases q : BW (gI M 112) (gI M 109) x a o w with
      | none =>
        rw [q] at eB
        dsimp only at eB
        rw [eB] at K1
        rw [if_neg (show ¬ gRun (gI M 112) (wTwo (sW (gI M 109)) x a o w) (pn (gI M 109) 0) (pn (gI M 109) 1) ≤ gB (-9223372036854775808) none from Int64.not_le.mpr gm), D.gain hV hK (by omega) h.hz.2.2.1 h.hz.2.2.2, cl_some]
        exact K1
      | some q2 =>
        rw [q] at eB
        dsimp only at eB
        by_cases d : q2.2 < gRun (gI M 112) (wTwo (sW (gI M 109)) x a o w) (pn (gI M 109) 0) (pn (gI M 109) 1)
        · rw [if_pos d] at eB
          rw [eB] at K1
          rw [if_neg (show ¬ gRun (gI M 112) (wTwo (sW (gI M 109)) x a o w) (pn (gI M 109) 0) (pn (gI M 109) 1) ≤ gB (-9223372036854775808) (some q2) from Int64.not_le.mpr d), D.gain hV hK (by omega) h.hz.2.2.1 h.hz.2.2.2, cl_some]
          exact K1
        · rw [if_neg d] at eB
          rw [eB] at K1
          rw [if_pos (show gRun (gI M 112) (wTwo (sW (gI M 109)) x a o w) (pn (gI M 109) 0) (pn (gI M 109) 1) ≤ gB (-9223372036854775808) (some q2) from Int64.not_lt.mp d)]
          exact K1
    · rw [if_neg c] at eB
      rw [eB] at K1
      rw [if_neg c]
      exact K1
  · intro n M1 hI
    rw [f_X11_bestWeight_L64, if_pos (by decide)]
    exact ⟨M1, rfl, hI.1⟩
theorem ref_bestWeight {Z : Nat} (hZ : 4000 < Z) {M M1 : Mem} {P S : Nat → Int32} (hV : VP P) (hS : VS P S) {x a o : Nat} (hx : x < cN P) (ha : a < cM P x) (ho : o < cM P x) (hao : a ≠ o) (hP : gI M 112 = P) (hM : gI M 109 = S) (f0 : fr [110] M M1) (u0 : ∀ i, i < 54 → gI M1 110 i = S i) (u1 : ∀ j, 54 ≤ j → gI M1 110 j = gI M 110 j) : ∃ M', f_X12_bestWeight_L72 Z (nI x) (nI a) (nI o) (fun (y35 : Int32) (M36 : Mem) => cl (f_X12_fetches Z M36 (0 : Int32)) (fun v37 M38 => some (y35, M38))) Z (-1 : Int32) (0 : Int64) (0 : Int32) M1 = some (xB (BW P S x a o 11), M') ∧ fr [109, 110, 116] M M' ∧ (∀ i, i < 54 → gI M' 109 i = S i) ∧ ∀ j, 54 ≤ j → gI M' 110 j = gI M 110 j := by
  have hN := hV.2.1
  have hm := hV.sz.2.1 x
  have hK0 := hS.W
  have hz0 : (0 : Int32) = nI 0 := rfl
  rw [show f_X12_bestWeight_L72 Z (nI x) (nI a) (nI o) (fun (y35 : Int32) (M36 : Mem) => cl (f_X12_fetches Z M36 (0 : Int32)) (fun v37 M38 => some (y35, M38))) Z (-1 : Int32) (0 : Int64) (0 : Int32) M1 = f_X12_bestWeight_L72 Z (nI x) (nI a) (nI o) (fun (y35 : Int32) (M36 : Mem) => cl (f_X12_fetches Z M36 (0 : Int32)) (fun v37 M38 => some (y35, M38))) Z (xB (BW P S x a o 0)) (gB 0 (BW P S x a o 0)) (nI 0) M1 from rfl]
  refine lpS (σ := Mem) (fun n w M' => f_X12_bestWeight_L72 Z (nI x) (nI a) (nI o) (fun (y35 : Int32) (M36 : Mem) => cl (f_X12_fetches Z M36 (0 : Int32)) (fun v37 M38 => some (y35, M38))) n (xB (BW P S x a o w)) (gB 0 (BW P S x a o w)) (nI w) M') (fun q => ∃ M', q = some (xB (BW P S x a o 11), M') ∧ fr [109, 110, 116] M M' ∧ (∀ i, i < 54 → gI M' 109 i = S i) ∧ ∀ j, 54 ≤ j → gI M' 110 j = gI M 110 j) (fun w M' => fr [109, 116] M1 M' ∧ ∀ i, i < 54 → (i < 4 + x * 3 ∨ 4 + x * 3 + 3 ≤ i) → gI M' 109 i = S i) 0 11 (s := M1) (by omega) (by omega) ⟨fr.rfl, fun i hi _ => by rw [f0.I (by decide), hM]⟩ ?_ ?_
  · intro n w M2 _ hw hI KK
    obtain ⟨g1, g2⟩ := hI
    have hK := wTwo_WOK hV hK0 ha ho hao (show w ≤ 10 by omega)
    obtain ⟨M3, e3, f3, q3⟩ := givesAll_ok (Z := Z) (M := M2) (by omega) (x := x) (a := a) (by omega) (by omega)
    generalize hM4 : sI (sI M3 109 (4 + x * 3 + a) (nI (10 - w))) 109 (4 + x * 3 + o) (nI w) = M4
    have f4 : fr [109, 116] M1 M4 := by
      rw [← hM4]
      exact fr_sI (fr_sI (g1.trans (f3.mono (by decide))) (by decide)) (by decide)
    have c4 : ∀ i, gI M4 109 i = if i = 4 + x * 3 + o then nI w else if i = 4 + x * 3 + a then nI (10 - w) else gI M3 109 i := fun i => by
      rw [← hM4, gI_sI, gI_sI]
      simp only [true_and]
    have n4 : ∀ i, i < 54 → (i < 4 + x * 3 ∨ 4 + x * 3 + 3 ≤ i) → gI M4 109 i = S i := fun i hi d => by
      rw [c4, if_neg (by omega), if_neg (by omega), q3, if_neg (by omega)]
      exact g2 i hi d
    have sr : SR M4 (pn S 0) (pn S 1) (wTwo (sW S) x a o w) := by
      refine ⟨by rw [n4 0 (by decide) (by omega)]; exact hS.v0.1, by rw [n4 1 (by decide) (by omega)]; exact hS.v1.1, fun r hr => ?_⟩
      unfold wTwo
      by_cases d : r / 3 = x
      · rw [c4, q3]
        by_cases e : r = x * 3 + o
        · rw [if_pos (by omega), if_neg (by omega), if_pos e]
        · rw [if_neg (by omega)]
          by_cases e2 : r = x * 3 + a
          · rw [if_pos (by omega), if_pos e2]
          · rw [if_neg (by omega), if_pos (by omega), if_neg (by omega), if_neg e2, if_neg e, if_pos d]
      · rw [n4 _ (by omega) (by omega), if_neg (by omega), if_neg (by omega), if_neg d]
        exact hS.v3.1 r hr
    have p4 : gI M4 112 = P := by rw [f4.I (by decide), f0.I (by decide)]; exact hP
    obtain ⟨v, M5, e5, f5, hv⟩ := brokenNow_ok (Z := Z) (M := M4) hV p4 (by omega) sr hK hS.v0.2 hS.v1.2.1 hS.v1.2.2 (lim := fun b => pn S (40 + b)) (fun b hb => by
      rw [n4 _ (by omega) (by omega)]
      exact ⟨(hS.v5 b hb).1, Nat.le_trans (hS.v5 b hb).2 (by decide)⟩)
    have hv2 : v = brk (brN P S (wTwo (sW S) x a o w)) (cB P) := hv
    have p5 : gI M5 112 = P := by rw [f5.I (by decide)]; exact p4
    have s5 : SR M5 (pn S 0) (pn S 1) (wTwo (sW S) x a o w) := by
      unfold SR
      rw [f5.I (by decide)]
      exact sr
    have K0 : ∀ M', fr [116] M4 M' → ∃ M'_1, f_X12_bestWeight_L72 Z (nI x) (nI a) (nI o) (fun (y35 : Int32) (M36 : Mem) => cl (f_X12_fetches Z M36 (0 : Int32)) (fun v37 M38 => some (y35, M38))) n (xB (BW P S x a o (w + 1))) (gB 0 (BW P S x a o (w + 1))) (nI (w + 1)) M' = some (xB (BW P S x a o 11), M'_1) ∧ fr [109, 110, 116] M M'_1 ∧ (∀ i, i < 54 → gI M'_1 109 i = S i) ∧ ∀ j, 54 ≤ j → gI M'_1 110 j = gI M 110 j := fun M' f => KK M' ⟨f4.trans (f.mono (by decide)), fun i hi d => by rw [f.I (by decide)]; exact n4 i hi d⟩
    have eB : BW P S x a o (w + 1) = if brk (brN P S (wTwo (sW S) x a o w)) (cB P) = 0 then (match BW P S x a o w with
      | none => some (w, gRun P (wTwo (sW S) x a o w) (pn S 0) (pn S 1))
      | some q => if q.2 < gRun P (wTwo (sW S) x a o w) (pn S 0) (pn S 1) then some (w, gRun P (wTwo (sW S) x a o w) (pn S 0) (pn S 1)) else some q)
      else BW P S x a o w := rfl
    rw [← hv2] at eB
    rw [f_X12_bestWeight_L72, if_neg (by rw [show (10 : Int32) = nI 10 from rfl, nI_ilt (by decide) (by omega)]; omega), e3, cl_some, show (4 : Int32) = nI 4 from rfl, show (3 : Int32) = nI 3 from rfl, nI_mul, nI_add, mc3, nI_add, nI_add, show (10 : Int32) = nI 10 from rfl, nI_sub (by omega), wrI_n (by omega) (by decide), wrI_n (by omega) (by decide), hM4, e5, cl_some, jn_eq, show nI w + (1 : Int32) = nI (w + 1) from nI_add w 1]
    by_cases c : v = 0
    · rw [if_pos c] at eB
      rw [if_pos c, jn_eq]
      cases q : BW P S x a o w with
      | none =>
        rw [q] at eB
        dsimp only at eB
        obtain ⟨v6, M6, e6, f6, hv6⟩ := rGainW (Z := Z) (M := M5) hV p5 (by omega) s5 hK hS.v0.2 hS.v1.2.1 hS.v1.2.2
        have K1 := K0 M6 (f5.trans f6)
        rw [eB] at K1
        rw [if_pos (show xB none < 0 by decide)]
        dsimp only
        rw [e6, cl_some, hv6]
        exact K1
      | some q2 =>
        rw [q] at eB
        dsimp only at eB
        have hq := BW_lt w q2 q
        obtain ⟨v6, M6, e6, f6, hv6⟩ := rGainW (Z := Z) (M := M5) hV p5 (by omega) s5 hK hS.v0.2 hS.v1.2.1 hS.v1.2.2
        rw [if_neg (show ¬ xB (some q2) < 0 from nI_nlt0 (by omega)), e6, cl_some, hv6]
        by_cases d : q2.2 < gRun P (wTwo (sW S) x a o w) (pn S 0) (pn S 1)
        · rw [if_pos d] at eB
          obtain ⟨v7, M7, e7, f7, hv7⟩ := rGainW (Z := Z) (M := M6) hV (by rw [f6.I (by decide)]; exact p5) (by omega) (by unfold SR; rw [f6.I (by decide)]; exact s5) hK hS.v0.2 hS.v1.2.1 hS.v1.2.2
          have K1 := K0 M7 ((f5.trans f6).trans f7)
          rw [eB] at K1
          rw [if_pos (show gB 0 (some q2) < gRun P (wTwo (sW S) x a o w) (pn S 0) (pn S 1) from d)]
          dsimp only
          rw [e7, cl_some, hv7]
          exact K1
        · rw [if_neg d] at eB
          have K1 := K0 M6 (f5.trans f6)
          rw [eB] at K1
          rw [if_neg (show ¬ gB 0 (some q2) < gRun P (wTwo (sW S) x a o w) (pn S 0) (pn S 1) from d)]
          exact K1
    · rw [if_neg c] at eB
      have K1 := K0 M5 f5
      rw [eB] at K1
      rw [if_neg c]
      exact K1
  · intro n M2 hI
    obtain ⟨g1, g2⟩ := hI
    obtain ⟨_, M3, e3, f3, q3⟩ := fetches_ok (Z := Z) (M := M2) (by omega) (r := 0) (by decide)
    rw [f_X12_bestWeight_L72, if_pos (by decide), show (0 : Int32) = nI 0 from rfl, e3, cl_some]
    refine ⟨M3, rfl, ((f0.mono (by decide)).trans (g1.mono (by decide))).trans (f3.mono (by decide)), fun i hi => ?_, fun j hj => ?_⟩
    · rw [q3 i hi, Nat.zero_mul, Nat.zero_add, g1.I (by decide), u0 i hi]
    · rw [f3.I (by decide), g1.I (by decide), u1 j hj]
theorem ok_bestWeight {Z : Nat} (hZ : 4000 < Z) {M : Mem} (hI : Inv M) (h : Has M) {x a o : Nat} (hx : x < cN (gI M 112)) (ha : a < cM (gI M 112) x) (ho : o < cM (gI M 112) x) (hao : a ≠ o) : OKc (f_X11_bestWeight Z M (nI x) (nI a) (nI o)) (fun M => f_X12_bestWeight Z M (nI x) (nI a) (nI o)) (·.toInt64) (·.toInt64) := by
  have hN := h.N
  have hm := h.z.2.1 x
  have hS := h.VS
  have nao : ¬ nI a = nI o := fun z => hao ((nI_eq (by omega) (by omega)).mp z)
  obtain ⟨_, Ma, ea, fa, qa⟩ := copyRow_ok (Z := Z) (M := M) (a := 11) (b := 107) (n := 18) (by decide)
  generalize hM0 : sI (sI (sI Ma 107 (x * 3) (nI 0)) 107 (x * 3 + 1) (nI 0)) 107 (x * 3 + 2) (nI 0) = M0
  have f0 : fr [107] M M0 := by
    rw [← hM0]
    exact fr_sI (fr_sI (fr_sI fa (by decide)) (by decide)) (by decide)
  have c0 : ∀ r, r < 3 * cN (gI M 112) → gI M0 107 r = nI (if r / 3 = x then 0 else sW (gI M 109) r) := fun r hr => by
    rw [← hM0, gI_3]
    by_cases d : r / 3 = x
    · rw [if_pos d]
      repeat' split
      all_goals first | rfl | omega
    · rw [if_neg d, if_neg (by omega), if_neg (by omega), if_neg (by omega), qa r (by omega), show (11 : Nat) = 10 + 1 from rfl, h.RS.2.1 r hr]
      exact hS.v3.1 r (by omega)
  obtain ⟨M1, e1, f1⟩ := cls_bestWeight (Z := Z) hZ h hx ha ho hao f0 c0
  generalize hv : xB (BW (gI M 112) (gI M 109) x a o 11) = v at e1
  have k1 : kp M M1 := kp.of f1 (by decide)
  have kp1 : kp M (T0 (sL M1 124 0 v.toInt64)) := k1.trans (out_kp.trans T0.kp)
  have H2 := (h.kp k1).out (v := v.toInt64)
  have j109 : gI (T0 (sL M1 124 0 v.toInt64)) 109 = gI M 109 := (kp1.1 109 (by decide) (by decide)).1
  have j112 : gI (T0 (sL M1 124 0 v.toInt64)) 112 = gI M 112 := (kp1.1 112 (by decide) (by decide)).1
  obtain ⟨_, M3, e3, f3, k3, k3'⟩ := keeps_ok (Z := Z) (M := T0 (sL M1 124 0 v.toInt64)) (by omega) (r := 0) (by decide)
  obtain ⟨M4, e4, f4, t4, u4⟩ := ref_bestWeight (Z := Z) hZ (M := T0 (sL M1 124 0 v.toInt64)) (P := gI M 112) (S := gI M 109) h.2.1 hS hx ha ho hao j112 j109 f3 (fun i hi => by
    have := k3 i hi
    rw [Nat.zero_mul, Nat.zero_add, j109] at this
    exact this) (fun j hj => k3' j (by omega))
  rw [hv] at e4
  have kt4 : kt M M4 := by
    refine ⟨fun o a b c => ?_, fun k hk => ?_, t4, fun j hj => by rw [u4 j hj, (kp1.1 110 (by decide) (by decide)).1]⟩
    · have c1 : o ∉ [109, 110, 116] := fun z => by
        have : ∀ o, o ∈ [109, 110, 116] → o ∈ scrL ∨ o ∈ [96, 97, 98, 109, 110] := by decide
        rcases this o z with y | y
        · exact a y
        · exact c y
      have q := f4 o c1
      have q2 := kp1.1 o a b
      exact ⟨q.1.trans q2.1, q.2.1.trans q2.2.1, q.2.2.trans q2.2.2⟩
    · rw [f4.I (by decide)]
      exact kp1.2 k hk
  have hc4 : Cache (gI M 112) M4 := by
    have hc := h.2.2.2.2.2.2.2.2
    unfold Cache
    rw [f4.I (by decide), f4.L (by decide), f4.L (by decide), (kp1.1 96 (by decide) (by decide)).1, (kp1.1 97 (by decide) (by decide)).2.1, (kp1.1 98 (by decide) (by decide)).2.1]
    exact hc
  refine ⟨v, v, M1, M4, ?_, ?_, invKt hI h kt4 hc4, ?_, ?_⟩
  · unfold f_X11_bestWeight
    rw [h.nA hx, if_pos (inR_of ha (by omega)), clT_ok, h.nA hx, if_pos (inR_of ho (by omega)), clT_ok, if_neg nao, ea, cl_some]
    unfold f_X11_setWeights
    rw [i0, i1, show (2 : Int32) = nI 2 from rfl, rowOf_eq, cl_some, wrI_n (by omega) (by decide), rowOf_eq, cl_some, wrI_n (by omega) (by decide), rowOf_eq, cl_some, wrI_n (by omega) (by decide), cl_some, Nat.add_zero, hM0]
    exact e1
  · show f_X12_bestWeight Z (sL M1 124 0 v.toInt64) (nI x) (nI a) (nI o) = _
    have q112 : gI (sL M1 124 0 v.toInt64) 112 = gI M 112 := by rw [gI_sL']; exact (k1.1 112 (by decide) (by decide)).1
    unfold f_X12_bestWeight
    rw [H2.rC, cl_some, if_pos rfl, H2.iA (by rw [q112]; exact hx), q112, bI1 (inR_of ha (by omega)), cl_some, jn_eq, jn_eq, if_neg (by decide), H2.iA (by rw [q112]; exact hx), q112, bI1 (inR_of ho (by omega)), cl_some, if_neg (by decide)]
    dsimp only
    rw [ref0 T0_0, cl_some, if_pos rfl, jnT, if_neg nao, ref0 T0_0, cl_some, if_pos rfl, show f_X12_keeps Z (T0 (sL M1 124 0 v.toInt64)) 0 = f_X12_keeps Z (T0 (sL M1 124 0 v.toInt64)) (nI 0) from rfl, e3, cl_some]
    exact e4
  · rw [f4.I (by decide)]
    exact T0_0
  · rw [f4.L (by decide), T0_L, gL_sL, if_pos ⟨rfl, rfl⟩]
theorem ck_bestWeight {Z : Nat} {M : Mem} (hZ : 4000 < Z) (hI : Inv M) (p1 p2 p3 : Int32) : CK (f_L_bestWeight Z M p1 p2 p3) (fun M => f_X12_bestWeight Z M p1 p2 p3) (·.toInt64) := by
  unfold f_L_bestWeight
  rcases hI.2.2.2.2.2 with h | h
  · exact CK.er hI (e := 0) (c := 1) (w := 0) (by unfold f_X11_bestWeight; rw [needAction0 h.2.1]; rfl) rfl (by decide) (by unfold f_X12_bestWeight; rw [noChain0 h.1]; rfl)
  · by_cases hp : inR p1 (cN (gI M 112))
    · obtain ⟨x, hx, rfl⟩ := inR_nI hp
      by_cases hp2 : inR p2 (cM (gI M 112) x)
      · by_cases hp3 : inR p3 (cM (gI M 112) x)
        · by_cases hq : p2 = p3
          · exact CK.er hI (e := 2) (c := 3) (w := 0) (by unfold f_X11_bestWeight; rw [h.nA hx, if_pos hp2, clT_ok, h.nA hx, if_pos hp3, clT_ok, if_pos hq]) rfl (by decide) (by unfold f_X12_bestWeight; rw [h.rC, cl_some, if_pos rfl, h.iA hx, bI1 hp2, cl_some, jn_eq, jn_eq, if_neg (by decide), h.iA hx, bI1 hp3, cl_some, if_neg (by decide)]; dsimp only; rw [ref0 T0_0, cl_some, if_pos rfl, jnT, if_pos hq, ref1 T0_0 (by decide)]; rfl)
          · obtain ⟨a, ha, rfl⟩ := inR_nI hp2
            obtain ⟨o, ho, rfl⟩ := inR_nI hp3
            exact CK.mk (ok_bestWeight hZ hI h hx ha ho (fun z => hq (by rw [z])))
        · exact CK.er hI (e := 1) (c := 2) (w := 0) (by unfold f_X11_bestWeight; rw [h.nA hx, if_pos hp2, clT_ok, h.nA hx, if_neg hp3]; rfl) rfl (by decide) (by unfold f_X12_bestWeight; rw [h.rC, cl_some, if_pos rfl, h.iA hx, bI1 hp2, cl_some, jn_eq, jn_eq, if_neg (by decide), h.iA hx, bIz hp3, cl_some, if_pos rfl]; dsimp only; rw [ref1 T0_0 (by decide)]; rfl)
      · exact CK.er hI (e := 1) (c := 2) (w := 0) (by unfold f_X11_bestWeight; rw [h.nA hx, if_neg hp2]; rfl) rfl (by decide) (by unfold f_X12_bestWeight; rw [h.rC, cl_some, if_pos rfl, h.iA hx, bIz hp2, cl_some, jn_eq, jn_eq, if_pos rfl]; dsimp only; rw [ref1 T0_0 (by decide)]; rfl)
    · exact CK.er hI (e := 1) (c := 2) (w := 0) (by unfold f_X11_bestWeight; rw [h.nAX hp]; rfl) rfl (by decide) (by unfold f_X12_bestWeight; rw [h.rC, cl_some, if_pos rfl, h.iAX hp, cl_some, jn_eq, jn_eq, if_pos rfl]; dsimp only; rw [ref1 T0_0 (by decide)]; rfl)
theorem b_law_41 {Z L a : Nat} {xs : Nat → Int32} {M : Mem} {j : Mem → Option Unit} (hZ : 4000 < Z) (hI : Inv M) (ha : a + 6 ≤ L) (hL : L ≤ 3072) (hj : ∀ M1, Inv M1 → j M1 = some ()) : f_law_41 Z L xs M (nI a) j = some () := by
  unfold f_law_41
  simp (disch := omega) only [i1, i2, i3, nI_add, rdX_n]
  generalize xs (a + 1) = p1
  generalize xs (a + 2) = p2
  generalize xs (a + 3) = p3
  exact (ck_bestWeight hZ hI p1 p2 p3).tail hj
