/-! the moves -/
theorem cho_0 {P : Nat → Int32} : ∀ k c, cho P k = some c → ∀ y, cN P ≤ y → c y = 0
  | 0, c, h, y, _ => by
    have e : c = fun _ => 0 := (Option.some.inj h).symm
    rw [e]
  | k + 1, c', h, y, hy => by
    cases g : cho P k with
    | none =>
      unfold cho at h
      rw [g] at h
      exact absurd h (by simp)
    | some c =>
      rw [cho_next g] at h
      obtain ⟨x, h1, h2, _, _⟩ := odo_some _ h
      rw [h2]
      unfold nx
      rw [if_neg (by omega), if_pos (by omega)]
def SetC (P : Nat → Int32) (M : Mem) (k : Nat) (c : Nat → Nat) : Prop := cho P k = some c ∧ (∀ y, y < 6 → gI M 99 y = nI (c y)) ∧ gI M 96 7 = nI k
def SetR (P : Nat → Int32) (M : Mem) (k : Nat) (c : Nat → Nat) : Prop := cho P k = some c ∧ ∀ y, y < cN P → gI M 121 y = nI (c y)
theorem SetC.fr {P : Nat → Int32} {l : List Nat} {M M' : Mem} {k : Nat} {c : Nat → Nat} (h : SetC P M k c) (hf : fr l M M') (h1 : 96 ∉ l) (h2 : 99 ∉ l) : SetC P M' k c := ⟨h.1, by rw [hf.I h2]; exact h.2.1, by rw [hf.I h1]; exact h.2.2⟩
theorem SetR.fr {P : Nat → Int32} {l : List Nat} {M M' : Mem} {k : Nat} {c : Nat → Nat} (h : SetR P M k c) (hf : fr l M M') (h1 : 121 ∉ l) : SetR P M' k c := ⟨h.1, by rw [hf.I h1]; exact h.2⟩
theorem begin_ok {Z : Nat} {M : Mem} {P : Nat → Int32} (hZ : 10 < Z) : ∃ M', f_X5_begin Z M = some (1, M') ∧ fr [96, 99] M M' ∧ gI M' 96 5 = gI M 96 5 ∧ gI M' 96 6 = gI M 96 6 ∧ SetC P M' 0 (fun _ => 0) := by
  unfold f_X5_begin
  rw [bd_eq]
  obtain ⟨_, M1, e1, f1, k1⟩ := fill_i_ok (Z := Z) (M := sI M 96 7 0) (a := 99) (na := 6) (v := 0) (by decide) (by omega)
  have f0 : fr [96, 99] M (sI M 96 7 0) := fr_sI fr.rfl (by decide)
  rw [e1, cl_some]
  refine ⟨M1, rfl, f0.trans (f1.mono (by decide)), ?_, ?_, rfl, fun y hy => k1 y hy, ?_⟩
  · rw [f1.I (by decide), gI_sI, if_neg (by decide)]
  · rw [f1.I (by decide), gI_sI, if_neg (by decide)]
  · rw [f1.I (by decide), gI_sI, if_pos ⟨rfl, rfl⟩]
    rfl
theorem moveOn_ok {Z : Nat} {M : Mem} {P : Nat → Int32} (hV : VP P) (hZ : 10 < Z) (h3 : gI M 3 0 = nI (cN P)) (h4 : ∀ y, y < 6 → gI M 4 y = nI (cM P y)) {k : Nat} {c : Nat → Nat} (h : SetC P M k c) :
    ∃ b M', f_X5_moveOn Z M = some (b, M') ∧ fr [96, 99] M M' ∧ gI M' 96 5 = gI M 96 5 ∧ gI M' 96 6 = gI M 96 6 ∧ ((b = 1 ∧ ∃ c', SetC P M' (k + 1) c') ∨ (b = 0 ∧ cho P (k + 1) = none)) := by
  obtain ⟨h1, h2, h7⟩ := h
  have hN := hV.2.1.2.1
  have hc := (cho_ok hV k c h1).1
  have hcn := cho_next h1
  unfold f_X5_moveOn
  rw [bd_eq, h3]
  have mv := moveL (Z := Z) (P := P) (fun y => hV.sz.2.1 y) (c := c) (fun (y7 : Int32) (M8 : Mem) => rdI M8 99 6 y7 (fun v9 => wrI M8 99 6 y7 (v9 + (1 : Int32)) (fun M10 => bd (gI M10 (96) 7) (fun v11 => bd (sI M10 (96) 7 (v11 + (1 : Int32))) (fun M12 => bd (gI M12 (96) 7) (fun v13 => (if (729 : Int32) ≤ v13 then some ((0 : Int32), M12) else some ((1 : Int32), M12)))))))) (cN P) Z M hN (by omega) h4 (fun y hy => ⟨h2 y (by omega), by have := hc y hy; have := hV.sz.2.1 y; omega⟩) (fun y a b => by rw [h2 y b, cho_0 k c h1 y a])
  cases q : odo (cM P) c (cN P) with
  | none =>
    rw [q] at mv
    obtain ⟨M', e, f⟩ := mv
    rw [e]
    exact ⟨0, M', rfl, f.mono (by decide), by rw [f.I (by decide)], by rw [f.I (by decide)], Or.inr ⟨rfl, by rw [hcn, q]⟩⟩
  | some c' =>
    rw [q] at mv
    obtain ⟨x, M', hx, ec, e, f, g1, g2⟩ := mv
    have hk := cho_lt hV (k := k + 1) (c := c') (by rw [hcn, q])
    rw [e]
    have e7 : gI M' 96 7 = nI k := by rw [f.I (by decide)]; exact h7
    rw [rdI_n (by omega) (by decide), g1, i1, nI_add, wrI_n (by omega) (by decide), bd_eq, gI_sI, if_neg (fun z => absurd z.1 (by decide)), e7, bd_eq, nI_add, bd_eq, gI_sI, if_pos (show (96 : Nat) = 96 ∧ (7 : Nat) = 7 from ⟨rfl, rfl⟩), if_neg (by rw [show (729 : Int32) = nI 729 from rfl, nI_ile (by decide) (by omega)]; omega)]
    have hf : fr [96, 99] M (sI (sI M' 99 x (nI (c x + 1))) 96 7 (nI (k + 1))) := fr_sI (fr_sI (f.mono (by decide)) (by decide)) (by decide)
    refine ⟨_, _, rfl, hf, ?_, ?_, Or.inl ⟨rfl, c', by rw [hcn, q], fun y hy => ?_, ?_⟩⟩
    · rw [gI_sI, if_neg (by decide), gI_sI, if_neg (fun z => absurd z.1 (by decide)), f.I (by decide)]
    · rw [gI_sI, if_neg (by decide), gI_sI, if_neg (fun z => absurd z.1 (by decide)), f.I (by decide)]
    · rw [gI_sI, if_neg (fun z => absurd z.1 (by decide)), gI_sI]
      by_cases d : y = x
      · rw [if_pos ⟨rfl, d⟩, ec, d]
        unfold nx
        rw [if_pos rfl]
      · rw [if_neg (fun z => d z.2)]
        exact g2 y hy d
    · rw [gI_sI, if_pos ⟨rfl, rfl⟩]
/-- reference -/
theorem turnL {Z : Nat} {P : Nat → Int32} (hm : ∀ y, cM P y ≤ 3) {c : Nat → Nat} : ∀ n f M, n ≤ 6 → n < f → (∀ y, y < 6 → gI M 112 (8 + y) = nI (cM P y)) → (∀ y, y < n → gI M 121 y = nI (c y) ∧ c y ≤ 3) → (∀ y, n ≤ y → y < cN P → gI M 121 y = nI 0) →
    (match odo (cM P) c n with
      | some c' => ∃ M', f_X12_turns_L9 Z f (nI n - 1) M = some (1, M') ∧ fr [121] M M' ∧ ∀ y, y < cN P → gI M' 121 y = nI (c' y)
      | none => ∃ M', f_X12_turns_L9 Z f (nI n - 1) M = some (0, M') ∧ fr [121] M M')
  | 0, f, M, _, hf, _, _, _ => by
    obtain ⟨f, rfl⟩ : ∃ g, f = g + 1 := ⟨f - 1, by omega⟩
    refine ⟨M, ?_, fr.rfl⟩
    rw [f_X12_turns_L9, if_pos (by rw [below0 (by decide)])]
  | n + 1, f, M, hn, hf, h4, h9, h0 => by
    obtain ⟨f, rfl⟩ : ∃ g, f = g + 1 := ⟨f - 1, by omega⟩
    obtain ⟨a1, a2⟩ := h9 n (by omega)
    have m3 := hm n
    have f9 : fr [121] M (sI M 121 n (nI (c n + 1))) := fr_sI fr.rfl (by decide)
    rw [nI_m1, f_X12_turns_L9, if_neg (by rw [Int32.lt_iff_toInt_lt, nI_toInt (by omega), Int32.toInt_zero]; omega), rdI_n (by omega) (by decide), a1, show (1 : Int32) = nI 1 from rfl, nI_add, wrI_n (by omega) (by decide), rdI_n (by omega) (by decide), gI_sI, if_pos ⟨rfl, rfl⟩, show (8 : Int32) = nI 8 from rfl, nI_add, rdI_n (by omega) (by decide), f9.I (by decide), h4 n (by omega)]
    unfold odo
    by_cases g : c n + 1 < cM P n
    · rw [if_pos g, if_neg (by rw [nI_ile (by omega) (by omega)]; omega)]
      refine ⟨_, rfl, f9, fun y hy => ?_⟩
      show gI (sI M 121 n (nI (c n + 1))) 121 y = nI (if y = n then c n + 1 else if n < y then 0 else c y)
      rw [gI_sI]
      by_cases d : y = n
      · rw [if_pos ⟨rfl, d⟩, if_pos d]
      · rw [if_neg (fun z => d z.2), if_neg d]
        by_cases e : n < y
        · rw [if_pos e]
          exact h0 y (by omega) hy
        · rw [if_neg e]
          exact (h9 y (by omega)).1
    · rw [if_neg g, if_pos (by rw [nI_ile (by omega) (by omega)]; omega), wrI_n (by omega) (by decide), nI_p1']
      have f8 : fr [121] M (sI (sI M 121 n (nI (c n + 1))) 121 n 0) := fr_sI f9 (by decide)
      have e8 : ∀ y, gI (sI (sI M 121 n (nI (c n + 1))) 121 n 0) 121 y = if y = n then 0 else gI M 121 y := fun y => by
        rw [gI_sI]
        by_cases d : y = n
        · rw [if_pos ⟨rfl, d⟩, if_pos d]
        · rw [if_neg (fun z => d z.2), if_neg d, gI_sI, if_neg (fun z => d z.2)]
      have ih := turnL (Z := Z) hm (c := c) n f (sI (sI M 121 n (nI (c n + 1))) 121 n 0) (by omega) (by omega) (fun y hy => by rw [f8.I (by decide)]; exact h4 y hy) (fun y hy => by
        rw [e8, if_neg (by omega)]
        exact h9 y (by omega)) (fun y h1 h2 => by
        rw [e8]
        by_cases e : y = n
        · rw [if_pos e]
          rfl
        · rw [if_neg e]
          exact h0 y (by omega) h2)
      cases q : odo (cM P) c n with
      | none =>
        rw [q] at ih
        obtain ⟨M', b1, b2⟩ := ih
        exact ⟨M', b1, f8.trans b2⟩
      | some c' =>
        rw [q] at ih
        obtain ⟨M', b1, b2, b3⟩ := ih
        exact ⟨M', b1, f8.trans b2, b3⟩
theorem turns_ok {Z : Nat} {M : Mem} {P : Nat → Int32} (hV : VP P) (hP : gI M 112 = P) (hZ : 10 < Z) {k : Nat} {c : Nat → Nat} (h : SetR P M k c) :
    ∃ b M', f_X12_turns Z M = some (b, M') ∧ fr [121] M M' ∧ ((b = 1 ∧ ∃ c', SetR P M' (k + 1) c') ∨ (b = 0 ∧ cho P (k + 1) = none)) := by
  obtain ⟨h1, h2⟩ := h
  have hN := hV.2.1.2.1
  have hc := (cho_ok hV k c h1).1
  have hcn := cho_next h1
  have mv := turnL (Z := Z) (P := P) (fun y => hV.sz.2.1 y) (c := c) (cN P) Z M hN (by omega) (fun y hy => by rw [hP, hV.at (by omega) (by omega), cM, if_pos hy]) (fun y hy => ⟨h2 y hy, by have := hc y hy; have := hV.sz.2.1 y; omega⟩) (fun y a b => absurd b (by omega))
  unfold f_X12_turns
  rw [i0, rdI_n (by decide) (by decide), hP, hV.n]
  cases q : odo (cM P) c (cN P) with
  | none =>
    rw [q] at mv
    obtain ⟨M', e, f⟩ := mv
    rw [e]
    exact ⟨0, M', rfl, f, Or.inr ⟨rfl, by rw [hcn, q]⟩⟩
  | some c' =>
    rw [q] at mv
    obtain ⟨M', e, f, g⟩ := mv
    rw [e]
    exact ⟨1, M', rfl, f, Or.inl ⟨rfl, c', by rw [hcn, q], g⟩⟩
theorem beginsPure_ok {Z : Nat} {M : Mem} {P : Nat → Int32} (hV : VP P) (hP : gI M 112 = P) (hZ : 60 < Z) : ∃ M', f_X12_beginsPure Z M = some ((), M') ∧ fr [110, 121] M M' ∧ (∀ i, i < 54 → gI M' 110 i = gI M 109 i) ∧ (∀ j, 54 ≤ j → gI M' 110 j = gI M 110 j) ∧ SetR P M' 0 (fun _ => 0) := by
  have hN := hV.2.1.2.1
  obtain ⟨_, M1, e1, f1, k1, k2⟩ := keeps_ok (Z := Z) (M := M) hZ (r := 0) (by decide)
  unfold f_X12_beginsPure
  rw [i0, e1, cl_some]
  refine lpS (σ := Mem) (fun n x M' => f_X12_beginsPure_L7 Z n (nI x) M') (fun q => ∃ M', q = some ((), M') ∧ fr [110, 121] M M' ∧ (∀ i, i < 54 → gI M' 110 i = gI M 109 i) ∧ (∀ j, 54 ≤ j → gI M' 110 j = gI M 110 j) ∧ SetR P M' 0 (fun _ => 0)) (fun x M' => fr [121] M1 M' ∧ ∀ y, y < x → gI M' 121 y = nI 0) 0 (cN P) (by omega) (by omega) ⟨fr.rfl, fun y hy => absurd hy (by omega)⟩ ?_ ?_
  · intro n x M' _ hx hI K
    have e112 : gI M' 112 = P := by rw [hI.1.I (by decide), f1.I (by decide)]; exact hP
    have K1 := K (sI M' 121 x (nI 0)) ⟨fr_sI hI.1 (by decide), fun y hy => by
      rw [gI_sI]
      by_cases d : y = x
      · rw [if_pos ⟨rfl, d⟩]
      · rw [if_neg (fun z => d z.2)]
        exact hI.2 y (by omega)⟩
    rw [f_X12_beginsPure_L7, i0, rdI_n (by decide) (by decide), e112, hV.n, if_neg (by rw [nI_ile (by omega) (by omega)]; omega), wrI_n (by omega) (by decide), i1, nI_add]
    exact K1
  · intro n M' hI
    have e112 : gI M' 112 = P := by rw [hI.1.I (by decide), f1.I (by decide)]; exact hP
    rw [f_X12_beginsPure_L7, i0, rdI_n (by decide) (by decide), e112, hV.n, if_pos (by rw [nI_ile (by omega) (by omega)]; omega)]
    refine ⟨M', rfl, (f1.mono (by decide)).trans (hI.1.mono (by decide)), fun i hi => ?_, fun j hj => ?_, rfl, hI.2⟩
    · rw [hI.1.I (by decide)]
      have := k1 i hi
      rwa [Nat.zero_mul, Nat.zero_add] at this
    · rw [hI.1.I (by decide), k2 j (by omega)]
