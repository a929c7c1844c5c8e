/-! the sums of all pure sets -/
theorem wPure_lt {c : Nat → Nat} {r : Nat} : wPure c r ≤ 10 := by
  unfold wPure
  split <;> decide
theorem wPure_WOK {P : Nat → Int32} (hV : VP P) {c : Nat → Nat} (h : CHo P c) : WOK P (wPure c) := by
  refine ⟨fun r => wPure_lt, fun x hx => ?_⟩
  have e : ∀ n, sm n (fun a => wPure c (x * 3 + a)) = sm n (fun a => wPure c (x * 3 + a)) := fun _ => rfl
  have key : ∀ n, n ≤ 3 → sm n (fun a => wPure c (x * 3 + a)) = if c x < n then 10 else 0 := fun n hn => by
    induction n with
    | zero => rw [if_neg (by omega)]; rfl
    | succ n ih =>
      show sm n (fun a => wPure c (x * 3 + a)) + wPure c (x * 3 + n) = _
      rw [ih (by omega)]
      unfold wPure
      rw [show (x * 3 + n) % 3 = n by omega, show (x * 3 + n) / 3 = x by omega]
      by_cases d : n = c x
      · rw [if_neg (by omega), if_pos d, if_pos (by omega)]
      · rw [if_neg d]
        by_cases d2 : c x < n
        · rw [if_pos d2, if_pos (by omega)]
        · rw [if_neg d2, if_neg (by omega)]
  rw [key _ (hV.sz.2.1 x), if_pos (h x hx)]
theorem writeWeights_ok {Z : Nat} {M : Mem} {N : Nat} {c : Nat → Nat} {a w : Nat} (hZ : 10 < Z) (hN : N ≤ 6) (h3 : gI M 3 0 = nI N) (ha : ∀ y, y < N → gI M a y = nI (c y)) (hc : ∀ y, y < N → c y < 3) (haw : a ≠ w) (hw : w ≠ 3) : ∃ M', f_X5_writeWeights Z M a w = some ((), M') ∧ fr [w] M M' ∧ ∀ r, gI M' w r = if r < 3 * N then nI (wPure c r) else gI M w r := by
  unfold f_X5_writeWeights
  rw [i0]
  refine lpS (σ := Mem) (fun n x M' => f_X5_writeWeights_L2 Z a w n (nI x) M') (fun q => ∃ M', q = some ((), M') ∧ fr [w] M M' ∧ ∀ r, gI M' w r = if r < 3 * N then nI (wPure c r) else gI M w r) (fun x M' => fr [w] M M' ∧ ∀ r, gI M' w r = if r < 3 * x then nI (wPure c r) else gI M w r) 0 N (by omega) (by omega) ⟨fr.rfl, fun r => by rw [if_neg (by omega)]⟩ ?_ ?_
  · intro n x M' _ hx hI K
    obtain ⟨g1, g2⟩ := hI
    have n3 : 3 ∉ [w] := fun z => hw (List.mem_singleton.mp z).symm
    have na : a ∉ [w] := fun z => haw (List.mem_singleton.mp z)
    have mw : w ∈ [w] := List.mem_cons_self
    have h1 := hc x hx
    have K1 := K (sI (sI (sI (sI M' w (x * 3) (nI 0)) w (x * 3 + 1) (nI 0)) w (x * 3 + 2) (nI 0)) w (x * 3 + c x) (nI 10)) ⟨fr_sI (fr_sI (fr_sI (fr_sI g1 mw) mw) mw) mw, fun r => by
      rw [gI_sI, gI_3, g2]
      unfold wPure
      by_cases d : r < 3 * (x + 1)
      · rw [if_pos d]
        by_cases d2 : r < 3 * x
        · rw [if_neg (by omega), if_neg (by omega), if_neg (by omega), if_neg (by omega), if_pos d2]
        · have e1 : r / 3 = x := by omega
          rw [e1]
          by_cases d3 : r % 3 = c x
          · rw [if_pos ⟨rfl, by omega⟩, if_pos d3]
          · rw [if_neg (by omega), if_neg d3]
            by_cases d4 : r = x * 3 + 2
            · rw [if_pos d4]
            · rw [if_neg d4]
              by_cases d5 : r = x * 3 + 1
              · rw [if_pos d5]
              · rw [if_neg d5, if_pos (by omega)]
      · rw [if_neg (by omega), if_neg (by omega), if_neg (by omega), if_neg (by omega), if_neg (by omega), if_neg d]⟩
    have fz : fr [w] M (sI (sI (sI M' w (x * 3) (nI 0)) w (x * 3 + 1) (nI 0)) w (x * 3 + 2) (nI 0)) := fr_sI (fr_sI (fr_sI g1 mw) mw) mw
    rw [f_X5_writeWeights_L2, bd_eq, g1.I n3, h3, if_neg (by rw [nI_ile (by omega) (by omega)]; omega)]
    unfold f_X11_setWeights
    rw [i0, i1, show (2 : Int32) = nI 2 from rfl, rowOf_eq, cl_some, wrI_n (by omega) (by decide), rowOf_eq, cl_some, wrI_n (by omega) (by decide), rowOf_eq, cl_some, wrI_n (by omega) (by decide), cl_some, Nat.add_zero, rdI_n (by omega) (by decide), fz.I na, ha x hx, rowOf_eq, cl_some, show (10 : Int32) = nI 10 from rfl, wrI_n (by omega) (by decide), nI_add]
    exact K1
  · intro n M' hI
    have n3 : 3 ∉ [w] := fun z => hw (List.mem_singleton.mp z).symm
    rw [f_X5_writeWeights_L2, bd_eq, hI.1.I n3, h3, if_pos (by rw [nI_ile (by omega) (by omega)]; omega)]
    exact ⟨M', rfl, hI.1, hI.2⟩
/-- a run that was followed -/
def FLd (P : Nat → Int32) (W : Nat → Nat) (st H w : Nat) (M : Mem) : Prop := RP P M 3 ∧ gI M 16 2 = nI H ∧ MT 18 M (fun t x => if t ≤ H ∧ x < cN P then lN (fNow P W st t x) else 0) ∧ ∀ r, r < 3 * cN P → gI M w r = nI (W r)
theorem FLd.gain {Z : Nat} {P : Nat → Int32} {W : Nat → Nat} {st H w : Nat} {M : Mem} (hV : VP P) (hK : WOK P W) (hZ : 60 < Z) (h1 : 1 ≤ H) (hH : H ≤ 5) (h : FLd P W st H w M) : f_X1_gainOf Z M w = some (gRun P W st H, M) := by
  rw [gainOf_eq (Z := Z) (h.1.chC hV) hV.sz (by omega) (w := w) (W := W) (G := fun r => P (14 + r)) h.2.2.2 hK.1 (fun r hr => h.1.2.2.2.1 r hr) (fun r hr => hV.2.2.2.2.1 r hr) h.2.2.1 h.2.1 h1 hH, ← gRun_eq hH]
theorem FLd.used {Z : Nat} {P : Nat → Int32} {W : Nat → Nat} {st H w : Nat} {M : Mem} (hV : VP P) (hK : WOK P W) (hZ : 60 < Z) (h1 : 1 ≤ H) (hH : H ≤ 5) {b : Nat} (hb : b < 3) (h : FLd P W st H w M) : f_X1_usedOf Z M w (nI b) = some (uRun P W b st H, M) := by
  have ham : ∀ r, r < 18 → ∀ b, b < 3 → gI M 6 (r * 3 + b) = nI (cA P r b) := fun r hr b hb => by
    rw [show (6 : Nat) = 3 + 3 from rfl, h.1.2.2.2.2.1 _ (by omega), ← Nat.add_assoc]
    exact hV.a hr hb
  rw [usedOf_eq (Z := Z) (h.1.chC hV) hV.sz (by omega) (w := w) (W := W) (G := cA P) hb h.2.2.2 hK.1 ham (fun r b => hV.2.2.2.2.2.1 r b) h.2.2.1 h.2.1 h1 hH, ← uRun_eq hH]
theorem FLd.fr {P : Nat → Int32} {W : Nat → Nat} {st H w : Nat} {M M' : Mem} {l : List Nat} (h : FLd P W st H w M) (hf : fr l M M') (hl : ∀ o, 3 ≤ o → o ≤ 9 → o ∉ l) (h16 : 16 ∉ l) (h18 : 18 ∉ l) (hw : w ∉ l) : FLd P W st H w M' := by
  refine ⟨h.1.same (fun o a b => hf.I (hl o a b)), by rw [hf.I h16]; exact h.2.1, fun x hx y hy => ?_, by rw [hf.I hw]; exact h.2.2.2⟩
  rw [hf.L h18]
  exact h.2.2.1 x hx y hy
theorem followD {Z : Nat} {M : Mem} {P : Nat → Int32} {W : Nat → Nat} {st H w : Nat} (hV : VP P) (hR : RP P M 3) (hK : WOK P W) (hZ : 60 < Z) (hH : H ≤ 5) (hst : st < cN P) (hw : w ≠ 16 ∧ w ≠ 17 ∧ w ≠ 18) (hW : ∀ r, r < 3 * cN P → gI M w r = nI (W r)) : ∃ M', f_X1_follow Z M w (nI st) (nI H) = some ((), M') ∧ fr [16, 17, 18] M M' ∧ FLd P W st H w M' := by
  obtain ⟨_, M1, e1, q1, q2, q3, q4, q5⟩ := follow_ok (Z := Z) (hR.chC hV) hV.sz hZ (w := w) (W := W) hw hW hK.1 hst hH (fun x hx => Nat.le_of_eq (hK.T hV x hx))
  exact ⟨M1, e1, q1, hR.same (fun o a b => q1.I (by simp; omega)), q3, q5, fun r hr => by rw [q1.I (by simp; omega)]; exact hW r hr⟩
/-- the table of the sums is right up to k -/
def TAB (P : Nat → Int32) (st H k : Nat) (M : Mem) : Prop := ∀ i, i < k → ∀ c, cho P i = some c → gL M 97 i = gRun P (wPure c) st H ∧ ∀ b, b < cB P → gL M 98 (i * 3 + b) = uRun P (wPure c) b st H
def lF : List Nat := [16, 17, 18, 96, 97, 98, 99, 100]
theorem lF_in {o : Nat} : o ∈ lF ↔ (16 ≤ o ∧ o ≤ 18) ∨ (96 ≤ o ∧ o ≤ 100) := by
  unfold lF
  simp only [List.mem_cons, List.not_mem_nil, or_false]
  omega
theorem fill_ok {Z : Nat} {M : Mem} {P : Nat → Int32} {st H : Nat} (hV : VP P) (hR : RP P M 3) (hZ : 4000 < Z) (h3 : gI M 10 3 = nI st) (h4 : gI M 10 4 = nI H) (hst : st < cN P) (h1 : 1 ≤ H) (hH : H ≤ 5) (hC : Cache P M) : ∃ M', f_X5_fill Z M = some ((), M') ∧ fr lF M M' ∧ gI M' 96 5 = nI st ∧ gI M' 96 6 = nI H ∧ TAB P st H 729 M' := by
  have hN := hV.2.1
  have hc := hR.chC hV
  -- what is there is right
  have skip : gI M 96 5 = nI st → gI M 96 6 = nI H → TAB P st H 729 M := fun e5 e6 => by
    rcases hC with g | ⟨st', H', g1, g2, g3, g4, g5, g6⟩
    · exact absurd (e5.symm.trans g) (nI_ne_neg (by omega))
    · have a1 : st' = st := (nI_eq (by omega) (by omega)).mp (g1.symm.trans e5)
      have a2 : H' = H := (nI_eq (by omega) (by omega)).mp (g2.symm.trans e6)
      subst a1
      subst a2
      exact fun i _ c hc => g6 i c hc
  have make : ∃ M', cl (f_X5_begin Z M) (fun v4 M5 => f_X5_fill_L36 Z (fun (M34 : Mem) => bd (gI M34 (10) 3) (fun v35 => bd (sI M34 (96) 5 v35) (fun M36 => bd (gI M36 (10) 4) (fun v37 => bd (sI M36 (96) 6 v37) (fun M38 => some ((), M38)))))) Z v4 (0 : Int32) M5) = some ((), M') ∧ fr lF M M' ∧ gI M' 96 5 = nI st ∧ gI M' 96 6 = nI H ∧ TAB P st H 729 M' := by
    obtain ⟨M0, e0, f0, _, _, s0⟩ := begin_ok (Z := Z) (M := M) (P := P) (by omega)
    obtain ⟨K, k1, k2, k3, k4⟩ := cho_end hV
    have kend : ∀ i, K ≤ i → cho P i = none := fun i hi => by
      obtain ⟨d, rfl⟩ : ∃ d, i = K + d := ⟨i - K, by omega⟩
      clear hi
      induction d with
      | zero => exact k4
      | succ d ih =>
        show (match cho P (K + d) with | some c => odo (cM P) c (cN P) | none => none) = none
        rw [ih]
    rw [e0, cl_some, i0]
    refine lpS (σ := Int32 × Mem) (fun n k s => f_X5_fill_L36 Z (fun (M34 : Mem) => bd (gI M34 (10) 3) (fun v35 => bd (sI M34 (96) 5 v35) (fun M36 => bd (gI M36 (10) 4) (fun v37 => bd (sI M36 (96) 6 v37) (fun M38 => some ((), M38)))))) n s.1 (nI k) s.2) (fun q => ∃ M', q = some ((), M') ∧ fr lF M M' ∧ gI M' 96 5 = nI st ∧ gI M' 96 6 = nI H ∧ TAB P st H 729 M') (fun k s => fr lF M s.2 ∧ TAB P st H k s.2 ∧ (k < K → s.1 = 1 ∧ ∃ c, SetC P s.2 k c) ∧ (k = K → s.1 = 0)) 0 K (s := (1, M0)) (by omega) (by omega) ⟨f0.mono (by decide), fun i hi => absurd hi (by omega), fun _ => ⟨rfl, _, s0⟩, fun z => absurd z (by omega)⟩ ?_ ?_
    · intro n k s _ hk hI KK
      obtain ⟨x6, M1⟩ := s
      obtain ⟨g1, g2, g3, _⟩ := hI
      obtain ⟨e6, c, hs⟩ := g3 hk
      dsimp only at g1 g2 e6 hs KK ⊢
      subst e6
      have hch := (cho_ok hV k c hs.1).1
      have hK := wPure_WOK hV hch
      have h39 : ∀ o, 3 ≤ o → o ≤ 9 → o ∉ lF := fun o a b z => by
        have := lF_in.mp z
        omega
      have R1 : RP P M1 3 := hR.same (fun o a b => g1.I (h39 o a b))
      have d1 : gI M1 10 3 = nI st := by rw [g1.I (by decide)]; exact h3
      have d2 : gI M1 10 4 = nI H := by rw [g1.I (by decide)]; exact h4
      have c30 : ∀ {M' : Mem}, RP P M' 3 → gI M' 3 0 = nI (cN P) := fun h => (h.chC hV).1
      have c31 : ∀ {M' : Mem}, RP P M' 3 → gI M' 3 1 = nI (cB P) := fun h => h.2.1.trans hV.b
      obtain ⟨M2, e2, f2, w2⟩ := writeWeights_ok (Z := Z) (M := M1) (c := c) (a := 99) (w := 100) (by omega) hN.2.1 (c30 R1) (fun y hy => hs.2.1 y (by omega)) (fun y hy => by have := hch y hy; have := hV.sz.2.1 y; omega) (by decide) (by decide)
      have R2 : RP P M2 3 := R1.same (fun o a b => f2.I (by simp; omega))
      obtain ⟨M3, e3, f3, D3⟩ := followD (Z := Z) (M := M2) hV R2 hK (by omega) hH hst (w := 100) (by decide) (fun r hr => by rw [w2, if_pos hr])
      have s3 : SetC P M3 k c := (hs.fr f2 (by decide) (by decide)).fr f3 (by decide) (by decide)
      have f13 : fr lF M M3 := (g1.trans (f2.mono (by decide))).trans (f3.mono (by decide))
      have b13 : fr [16, 17, 18, 100] M1 M3 := (f2.mono (by decide)).trans (f3.mono (by decide))
      have hk9 : k < 729 := by omega
      rw [f_X5_fill_L36, if_neg (by rw [show (729 : Int32) = nI 729 from rfl, nI_ile (by decide) (by omega)]; omega), if_neg (by decide), e2, cl_some, bd_eq, f2.I (by decide), d1, bd_eq, d2, e3, cl_some, bd_eq, s3.2.2, D3.gain hV hK (by omega) h1 hH, cl_some, wrL_n hk9 (by decide), i0]
      -- the budgets
      refine lpS (σ := Mem) (fun m b M' => f_X5_fill_L106 Z (nI k) (fun (M27 : Mem) => cl (f_X5_moveOn Z M27) (fun v28 M29 => f_X5_fill_L36 Z (fun (M34 : Mem) => bd (gI M34 (10) 3) (fun v35 => bd (sI M34 (96) 5 v35) (fun M36 => bd (gI M36 (10) 4) (fun v37 => bd (sI M36 (96) 6 v37) (fun M38 => some ((), M38)))))) n v28 (nI k + (1 : Int32)) M29)) m (nI b) M') (fun q => ∃ M', q = some ((), M') ∧ fr lF M M' ∧ gI M' 96 5 = nI st ∧ gI M' 96 6 = nI H ∧ TAB P st H 729 M') (fun b M' => fr [97, 98] M3 M' ∧ (∀ i, gL M' 97 i = if i = k then gRun P (wPure c) st H else gL M1 97 i) ∧ (∀ i, (∀ b', b' < b → i ≠ k * 3 + b') → gL M' 98 i = gL M1 98 i) ∧ ∀ b', b' < b → gL M' 98 (k * 3 + b') = uRun P (wPure c) b' st H) 0 (cB P) (Z := Z) (s := sL M3 97 k (gRun P (wPure c) st H)) (by omega) (by omega) ⟨fr_sL fr.rfl (by decide), fun i => ?_, fun i _ => ?_, fun b' h => absurd h (by omega)⟩ ?_ ?_
      · rw [gL_sL]
        by_cases q : i = k
        · rw [if_pos ⟨rfl, q⟩, if_pos q]
        · rw [if_neg (fun z => q z.2), if_neg q, b13.L (by decide)]
      · rw [gL_sL, if_neg (fun z => absurd z.1 (by decide)), b13.L (by decide)]
      · intro m b M4 _ hb hJ KJ
        obtain ⟨j1, j2, j3, j4⟩ := hJ
        have D4 := D3.fr j1 (fun o a b => by simp; omega) (by decide) (by decide) (by decide)
        have K1 := KJ (sL M4 98 (k * 3 + b) (uRun P (wPure c) b st H)) ⟨fr_sL j1 (by decide), fun i => by
          rw [gL_sL, if_neg (fun z => absurd z.1 (by decide))]
          exact j2 i, fun i hi => by
          rw [gL_sL, if_neg (fun z => hi b (by omega) z.2)]
          exact j3 i (fun b' hb' => hi b' (by omega)), fun b' hb' => by
          rw [gL_sL]
          by_cases q : b' = b
          · rw [if_pos ⟨rfl, by omega⟩, q]
          · rw [if_neg (fun z => q (by have := z.2; omega))]
            exact j4 b' (by omega)⟩
        rw [f_X5_fill_L106, bd_eq, c31 D4.1, if_neg (by rw [nI_ile (by omega) (by omega)]; omega), bd_eq, j1.I (by decide), s3.2.2, D4.used hV hK (by omega) h1 hH (by omega), cl_some, i3, nI_mul, nI_add, wrL_n (by omega) (by decide), show nI b + (1 : Int32) = nI (b + 1) from nI_add b 1]
        exact K1
      · intro m M4 hJ
        obtain ⟨j1, j2, j3, j4⟩ := hJ
        have D4 := D3.fr j1 (fun o a b => by simp; omega) (by decide) (by decide) (by decide)
        have s4 : SetC P M4 k c := s3.fr j1 (by decide) (by decide)
        have f14 : fr lF M M4 := f13.trans (j1.mono (by decide))
        have t4 : TAB P st H (k + 1) M4 := fun i hi c2 hc2 => by
          by_cases q : i = k
          · subst q
            have e : c2 = c := Option.some.inj (hc2.symm.trans hs.1)
            subst e
            exact ⟨by rw [j2, if_pos rfl], fun b hb => j4 b hb⟩
          · obtain ⟨a1, a2⟩ := g2 i (by omega) c2 hc2
            exact ⟨by rw [j2, if_neg q]; exact a1, fun b hb => by rw [j3 _ (fun b' hb' => by omega)]; exact a2 b hb⟩
        obtain ⟨bb, M5, e5, f5, _, _, alt⟩ := moveOn_ok (Z := Z) (M := M4) hV (by omega) (c30 D4.1) (fun y hy => by
          rw [show (4 : Nat) = 3 + 1 from rfl, D4.1.2.2.1 y hy, hV.at (by omega) (by omega), cM, if_pos hy]) s4
        have f15 : fr lF M M5 := f14.trans (f5.mono (by decide))
        have t5 : TAB P st H (k + 1) M5 := fun i hi c2 hc2 => by
          rw [f5.L (by decide), f5.L (by decide)]
          exact t4 i hi c2 hc2
        have KK1 := KK (bb, M5) ⟨f15, t5, fun hlt => by
          rcases alt with ⟨a1, a2⟩ | ⟨_, a2⟩
          · exact ⟨a1, a2⟩
          · obtain ⟨c2, hc2⟩ := k3 (k + 1) hlt
            exact absurd (hc2.symm.trans a2) (by simp), fun heq => by
          rcases alt with ⟨_, c2, a2⟩ | ⟨a1, _⟩
          · have := a2.1
            rw [heq, k4] at this
            exact absurd this (by simp)
          · exact a1⟩
        rw [f_X5_fill_L106, bd_eq, c31 D4.1, if_pos (by rw [nI_ile (by omega) (by omega)]; omega), e5, cl_some, i1, nI_add]
        exact KK1
    · intro n s hI
      obtain ⟨x6, M1⟩ := s
      obtain ⟨g1, g2, _, g4⟩ := hI
      dsimp only at g1 g2 g4 ⊢
      have e6 := g4 rfl
      subst e6
      have ex : ∀ q : Option (Unit × Mem), f_X5_fill_L36 Z (fun (M34 : Mem) => bd (gI M34 (10) 3) (fun v35 => bd (sI M34 (96) 5 v35) (fun M36 => bd (gI M36 (10) 4) (fun v37 => bd (sI M36 (96) 6 v37) (fun M38 => some ((), M38)))))) (n + 1) 0 (nI K) M1 = some ((), sI (sI M1 96 5 (nI st)) 96 6 (nI H)) := fun _ => by
        have d1 : gI M1 10 3 = nI st := by rw [g1.I (by decide)]; exact h3
        have d2 : gI M1 10 4 = nI H := by rw [g1.I (by decide)]; exact h4
        rw [f_X5_fill_L36, if_pos (show (0 : Int32) = 0 from rfl), ite_self, bd_eq, d1, bd_eq, bd_eq, gI_sI, if_neg (show ¬ ((10 : Nat) = 96 ∧ (4 : Nat) = 5) by decide), d2, bd_eq]
      rw [ex none]
      refine ⟨_, rfl, fr_sI (fr_sI g1 (by decide)) (by decide), ?_, ?_, fun i hi c hc => ?_⟩
      · rw [gI_sI, if_neg (by decide), gI_sI, if_pos ⟨rfl, rfl⟩]
      · rw [gI_sI, if_pos ⟨rfl, rfl⟩]
      · rw [gL_sI', gL_sI']
        by_cases q : i < K
        · exact g2 i q c hc
        · exact absurd ((kend i (by omega)).symm.trans hc) (by simp)
  unfold f_X5_fill
  rw [bd_eq, bd_eq, h3]
  by_cases q : gI M 96 5 = nI st
  · rw [jn_eq, if_pos q, bd_eq, bd_eq, h4]
    by_cases q2 : gI M 96 6 = nI H
    · rw [if_pos q2]
      exact ⟨M, rfl, fr.rfl, q, q2, skip q q2⟩
    · rw [if_neg q2]
      exact make
  · rw [jn_eq, if_neg q]
    exact make

