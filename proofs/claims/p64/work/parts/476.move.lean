/-! the moves -/
theorem cho_0 {P : Nat → Int32} : ∀ k c, cho P k = some c → ∀ y, cN P ≤ y → c y = 0
  | 0, c, h, y, _ => by
    have e : c = fun _ => 0 := (Option.some.inj h).symm
    rw [e]
  | k + 1, c', h, y, hy => by
    cases g : cho P k with
    | none =>
      unfold cho at h
      rw [g] at h
      exact absurd h (by simp)
    | some c =>
      rw [cho_next g] at h
      obtain ⟨x, h1, h2, _, _⟩ := odo_some _ h
      rw [h2]
      unfold nx
      rw [if_neg (by omega), if_pos (by omega)]
def SetC (P : Nat → Int32) (M : Mem) (k : Nat) (c : Nat → Nat) : Prop := cho P k = some c ∧ (∀ y, y < 6 → gI M 99 y = nI (c y)) ∧ gI M 96 7 = nI k
def SetR (P : Nat → Int32) (M : Mem) (k : Nat) (c : Nat → Nat) : Prop := cho P k = some c ∧ ∀ y, y < cN P → gI M 121 y = nI (c y)
theorem SetC.fr {P : Nat → Int32} {l : List Nat} {M M' : Mem} {k : Nat} {c : Nat → Nat} (h : SetC P M k c) (hf : fr l M M') (h1 : 96 ∉ l) (h2 : 99 ∉ l) : SetC P M' k c := ⟨h.1, by rw [hf.I h2]; exact h.2.1, by rw [hf.I h1]; exact h.2.2⟩
theorem SetR.fr {P : Nat → Int32} {l : List Nat} {M M' : Mem} {k : Nat} {c : Nat → Nat} (h : SetR P M k c) (hf : fr l M M') (h1 : 121 ∉ l) : SetR P M' k c := ⟨h.1, by rw [hf.I h1]; exact h.2⟩
theorem begin_ok {Z : Nat} {M : Mem} {P : Nat → Int32} (hZ : 10 < Z) : ∃ M', f_X5_begin Z M = some (1, M') ∧ fr [96, 99] M M' ∧ gI M' 96 5 = gI M 96 5 ∧ gI M' 96 6 = gI M 96 6 ∧ SetC P M' 0 (fun _ => 0) := by
  unfold f_X5_begin
  rw [bd_eq]
  obtain ⟨_, M1, e1, f1, k1⟩ := fill_i_ok (Z := Z) (M := sI M 96 7 0) (a := 99) (na := 6) (v := 0) (by decide) (by omega)
  have f0 : fr [96, 99] M (sI M 96 7 0) := fr_sI fr.rfl (by decide)
  rw [e1, cl_some]
  refine ⟨M1, rfl, f0.trans (f1.mono (by decide)), ?_, ?_, rfl, fun y hy => k1 y hy, ?_⟩
  · rw [f1.I (by decide), gI_sI, if_neg (by decide)]
  · rw [f1.I (by decide), gI_sI, if_neg (by decide)]
  · rw [f1.I (by decide), gI_sI, if_pos ⟨rfl, rfl⟩]
    rfl
theorem moveOn_ok {Z : Nat} {M : Mem} {P : Nat → Int32} (hV : VP P) (hZ : 10 < Z) (h3 : gI M 3 0 = nI (cN P)) (h4 : ∀ y, y < 6 → gI M 4 y = nI (cM P y)) {k : Nat} {c : Nat → Nat} (h : SetC P M k c) :
    ∃ b M', f_X5_moveOn Z M = some (b, M') ∧ fr [96, 99] M M' ∧ gI M' 96 5 = gI M 96 5 ∧ gI M' 96 6 = gI M 96 6 ∧ ((b = 1 ∧ ∃ c', SetC P M' (k + 1) c') ∨ (b = 0 ∧ cho P (k + 1) = none)) := by
  obtain ⟨h1, h2, h7⟩ := h
  have hN := hV.2.1.2.1
  have hc := (cho_ok hV k c h1).1
  have hcn := cho_next h1
  unfold f_X5_moveOn
  rw [bd_eq, h3]
  have mv := moveL (Z := Z) (P := P) (fun y => hV.sz.2.1 y) (c := c) (fun (y7 : Int32) (M8 : Mem) => rdI M8 99 6 y7 (fun v9 => wrI M8 99 6 y7 (v9 + (1 : Int32)) (fun M10 => bd (gI M10 (96) 7) (fun v11 => bd (sI M10 (96) 7 (v11 + (1 : Int32))) (fun M12 => bd (gI M12 (96) 7) (fun v13 => (if (729 : Int32) ≤ v13 then some ((0 : Int32), M12) else some ((1 : Int32), M12)))))))) (cN P) Z M hN (by omega) h4 (fun y hy => ⟨h2 y (by omega), by have := hc y hy; have := hV.sz.2.1 y; omega⟩) (fun y a b => by rw [h2 y b, cho_0 k c h1 y a])
  cases q : odo (cM P) c (cN P) with
  | none =>
    rw [q] at mv
    obtain ⟨M', e, f⟩ := mv
    rw [e]
    exact ⟨0, M', rfl, f.mono (by decide), by rw [f.I (by decide)], by rw [f.I (by decide)], Or.inr ⟨rfl, by rw [hcn, q]⟩⟩
  | some c' =>
    rw [q] at mv
    obtain ⟨x, M', hx, ec, e, f, g1, g2⟩ := mv
    have hk := cho_lt hV (k := k + 1) (c := c') (by rw [hcn, q])
    rw [e]
    have e7 : gI M' 96 7 = nI k := by rw [f.I (by decide)]; exact h7
    rw [rdI_n (by omega) (by decide), g1, i1, nI_add, wrI_n (by omega) (by decide), bd_eq, gI_sI, if_neg (fun z => absurd z.1 (by decide)), e7, bd_eq, nI_add, bd_eq, gI_sI, if_pos (show (96 : Nat) = 96 ∧ (7 : Nat) = 7 from ⟨rfl, rfl⟩), if_neg (by rw [show (729 : Int32) = nI 729 from rfl, nI_ile (by decide) (by omega)]; omega)]
    have hf : fr [96, 99] M (sI (sI M' 99 x (nI (c x + 1))) 96 7 (nI (k + 1))) := fr_sI (fr_sI (f.mono (by decide)) (by decide)) (by decide)
    refine ⟨_, _, rfl, hf, ?_, ?_, Or.inl ⟨rfl, c', by rw [hcn, q], fun y hy => ?_, ?_⟩⟩
    · rw [gI_sI, if_neg (by decide), gI_sI, if_neg (fun z => absurd z.1 (by decide)), f.I (by decide)]
    · rw [gI_sI, if_neg (by decide), gI_sI, if_neg (fun z => absurd z.1 (by decide)), f.I (by decide)]
    · rw [gI_sI, if_neg (fun z => absurd z.1 (by decide)), gI_sI]
      by_cases d : y = x
      · rw [if_pos ⟨rfl, d⟩, ec, d]
        unfold nx
        rw [if_pos rfl]
      · rw [if_neg (fun z => d z.2)]
        exact g2 y hy d
    · rw [gI_sI, if_pos ⟨rfl, rfl⟩]
