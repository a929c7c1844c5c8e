/-! the best pure set -/
def okS (P S : Nat → Int32) (st H : Nat) (lim : Nat → Nat) (c : Nat → Nat) : Bool := al S c (cN P) && hd P (wPure c) st H lim (cB P)
/-- of the sets below k: how many hold, the greatest gain, the first set that has it -/
def FB (P S : Nat → Int32) (st H : Nat) (lim : Nat → Nat) : Nat → Nat × Int64 × (Nat → Nat)
  | 0 => (0, -9223372036854775808, fun _ => 0)
  | k + 1 => match cho P k with
    | none => FB P S st H lim k
    | some c => if okS P S st H lim c then ((FB P S st H lim k).1 + 1, if (FB P S st H lim k).1 = 0 ∨ (FB P S st H lim k).2.1 < gRun P (wPure c) st H then (gRun P (wPure c) st H, c) else (FB P S st H lim k).2) else FB P S st H lim k
theorem FB_s {P S : Nat → Int32} {st H : Nat} {lim : Nat → Nat} {k : Nat} {c : Nat → Nat} (h : cho P k = some c) : FB P S st H lim (k + 1) = if okS P S st H lim c then ((FB P S st H lim k).1 + 1, if (FB P S st H lim k).1 = 0 ∨ (FB P S st H lim k).2.1 < gRun P (wPure c) st H then (gRun P (wPure c) st H, c) else (FB P S st H lim k).2) else FB P S st H lim k := by
  show (match cho P k with
    | none => FB P S st H lim k
    | some c => if okS P S st H lim c then ((FB P S st H lim k).1 + 1, if (FB P S st H lim k).1 = 0 ∨ (FB P S st H lim k).2.1 < gRun P (wPure c) st H then (gRun P (wPure c) st H, c) else (FB P S st H lim k).2) else FB P S st H lim k) = _
  rw [h]
theorem FB_ok {P S : Nat → Int32} {st H : Nat} {lim : Nat → Nat} (hV : VP P) (h1 : 1 ≤ H) (hH : H ≤ 5) : ∀ k, (FB P S st H lim k).1 ≤ k ∧ ((FB P S st H lim k).1 = 0 → (FB P S st H lim k).2.1 = -9223372036854775808) ∧ (0 < (FB P S st H lim k).1 → -9223372036854775808 < (FB P S st H lim k).2.1 ∧ CHo P (FB P S st H lim k).2.2 ∧ ∀ y, cN P ≤ y → (FB P S st H lim k).2.2 y = 0)
  | 0 => ⟨Nat.le_refl _, fun _ => rfl, fun z => absurd z (Nat.lt_irrefl 0)⟩
  | k + 1 => by
    obtain ⟨a1, a2, a3⟩ := FB_ok (S := S) (st := st) (lim := lim) hV h1 hH k
    cases q : cho P k with
    | none =>
      have e : FB P S st H lim (k + 1) = FB P S st H lim k := by
        show (match cho P k with
          | none => FB P S st H lim k
          | some c => if okS P S st H lim c then ((FB P S st H lim k).1 + 1, if (FB P S st H lim k).1 = 0 ∨ (FB P S st H lim k).2.1 < gRun P (wPure c) st H then (gRun P (wPure c) st H, c) else (FB P S st H lim k).2) else FB P S st H lim k) = _
        rw [q]
      rw [e]
      exact ⟨by omega, a2, a3⟩
    | some c =>
      rw [FB_s q]
      by_cases g : okS P S st H lim c = true
      · rw [if_pos g]
        refine ⟨by show _ + 1 ≤ _; omega, fun z => absurd z (by show ¬ _ + 1 = 0; omega), fun _ => ?_⟩
        dsimp only
        by_cases d : (FB P S st H lim k).1 = 0 ∨ (FB P S st H lim k).2.1 < gRun P (wPure c) st H
        · rw [if_pos d]
          have hc := (cho_ok hV k c q).1
          exact ⟨gRun_min hV (wPure_WOK hV hc) h1 hH, hc, cho_0 k c q⟩
        · rw [if_neg d]
          exact a3 (by omega)
      · rw [if_neg g]
        exact ⟨by omega, a2, a3⟩
/-- the class's memory for this -/
def PM (P S : Nat → Int32) (st H : Nat) (M : Mem) : Prop := RP P M 3 ∧ RS P M 10 S ∧ gI M 10 3 = nI st ∧ gI M 10 4 = nI H ∧ gI M 96 5 = nI st ∧ gI M 96 6 = nI H ∧ TAB P st H 729 M
theorem PM.fr {P S : Nat → Int32} {st H : Nat} {M M' : Mem} {l : List Nat} (h : PM P S st H M) (hf : fr l M M') (h1 : ∀ o, 3 ≤ o → o ≤ 15 → o ∉ l) (h97 : 97 ∉ l) (h98 : 98 ∉ l) (e5 : gI M' 96 5 = gI M 96 5) (e6 : gI M' 96 6 = gI M 96 6) : PM P S st H M' := by
  obtain ⟨a1, a2, a3, a4, a5, a6, a7⟩ := h
  refine ⟨a1.same (fun o a b => hf.I (h1 o a (by omega))), a2.same (fun i hi => hf.I (h1 (10 + i) (by omega) (by omega))), by rw [hf.I (h1 10 (by decide) (by decide))]; exact a3, by rw [hf.I (h1 10 (by decide) (by decide))]; exact a4, by rw [e5]; exact a5, by rw [e6]; exact a6, fun i hi c hc => ?_⟩
  rw [hf.L h97, hf.L h98]
  exact a7 i hi c hc
theorem PM.n {P S : Nat → Int32} {st H : Nat} {M : Mem} (h : PM P S st H M) (hV : VP P) : gI M 3 0 = nI (cN P) := (h.1.chC hV).1
theorem PM.m {P S : Nat → Int32} {st H : Nat} {M : Mem} (h : PM P S st H M) (hV : VP P) : ∀ y, y < 6 → gI M 4 y = nI (cM P y) := fun y hy => by
  rw [show (4 : Nat) = 3 + 1 from rfl, h.1.2.2.1 y hy, hV.at (by omega) (by omega), cM, if_pos hy]
theorem PM.b {P S : Nat → Int32} {st H : Nat} {M : Mem} (h : PM P S st H M) (hV : VP P) : gI M 3 1 = nI (cB P) := h.1.2.1.trans hV.b
def lB9 : List Nat := [16, 17, 18, 96, 97, 98, 99, 100, 101]
theorem lB_in {o : Nat} : o ∈ lB9 ↔ (16 ≤ o ∧ o ≤ 18) ∨ (96 ≤ o ∧ o ≤ 101) := by
  unfold lB9
  simp only [List.mem_cons, List.not_mem_nil, or_false]
  omega
