theorem i99 : (99 : Int32) = nI 99 := by decide
theorem i495 : (495 : Int32) = nI 495 := by decide
theorem rfR_n {β : Type} {M : Mem} {o f q : Nat} {sh : List SE} {e : SE} {k : Nat → Option β} (h : gR M o f = some q) (hs : sh[q]? = some e) : rfR M o f sh e k = k q := by
  unfold rfR
  rw [h]
  exact if_pos hs
/-- the two rows of the class's sums: here and later -/
def HL (M : Mem) (q r : Nat) : Prop := gR M 92 1 = some q ∧ gR M 92 2 = some r ∧ (q = 93 ∧ r = 94 ∨ q = 94 ∧ r = 93)
theorem HL.sh {M : Mem} {q r : Nat} (h : HL M q r) : SH[q]? = some (1, 2976) ∧ SH[r]? = some (1, 2976) ∧ q ≠ r := by
  rcases h.2.2 with ⟨rfl, rfl⟩ | ⟨rfl, rfl⟩
  · exact ⟨rfl, rfl, by decide⟩
  · exact ⟨rfl, rfl, by decide⟩
theorem HL.fr {M M' : Mem} {q r : Nat} {l : List Nat} (h : HL M q r) (hf : fr l M M') (h9 : 92 ∉ l) : HL M' q r := by
  unfold HL
  rw [hf.R h9]
  exact h
theorem HL.out {M : Mem} {q r : Nat} (h : HL M q r) : (∀ o, o < 92 → o ≠ q ∧ o ≠ r) ∧ 92 ≠ q ∧ 92 ≠ r := by
  rcases h.2.2 with ⟨rfl, rfl⟩ | ⟨rfl, rfl⟩
  · exact ⟨fun o h => by omega, by decide, by decide⟩
  · exact ⟨fun o h => by omega, by decide, by decide⟩
/-- what a state adds to the later sums, from the sum i -/
def spa (m W u : Nat → Nat) (pc : Nat → Nat → Nat) (lim : Nat) (B : Nat → Nat → Nat) (i x n y s : Nat) : Nat := sm n (fun a => if s = i + u (x * 3 + a) then (if s ≤ lim then B x i * W (x * 3 + a) * pc (x * 3 + a) y else 0) else 0)
/-- the class's sums at a time -/
def HT9 (P : Nat → Int32) (W : Nat → Nat) (b st lim t x s : Nat) : Nat := if x < cN P ∧ s ≤ lim then MS (cN P) (cM P) W (fun r => cA P r b) (cP P) st t x s else 0
theorem HT_le {P : Nat → Int32} {W : Nat → Nat} (hV : VP P) (hK : WOK P W) {b st lim t x s : Nat} (ht : t ≤ 5) : HT9 P W b st lim t x s ≤ 10 ^ 15 := by
  have h := BT_le (b := b) (st := st) (t := t) (x := x) (s := s) hV hK ht
  unfold HT9
  unfold BT at h
  by_cases c : x < cN P ∧ s ≤ lim
  · rw [if_pos c]
    rw [if_pos c.1] at h
    exact h
  · rw [if_neg c]
    exact Nat.zero_le _
theorem HT_step {P : Nat → Int32} {W : Nat → Nat} (hV : VP P) {b st lim mo t y s : Nat} (hmo : mo = min lim (t * 99)) : (if y < cN P then sm (mo + 1) (fun i => sm (cN P) (fun x => spa (cM P) W (fun r => cA P r b) (cP P) lim (HT9 P W b st lim t) i x (cM P x) y s)) else 0) = HT9 P W b st lim (t + 1) y s := by
  unfold HT9
  by_cases c : y < cN P
  · rw [if_pos c, sm_swap]
    by_cases d : s ≤ lim
    · rw [if_pos ⟨c, d⟩]
      show _ = sm (cN P) _
      refine sm_congr (fun x hx => ?_)
      unfold spa
      rw [sm_swap]
      refine sm_congr (fun a _ => ?_)
      simp only [if_pos d]
      rw [sm_single (f := fun i => (if x < cN P ∧ i ≤ lim then MS (cN P) (cM P) W (fun r => cA P r b) (cP P) st t x i else 0) * W (x * 3 + a) * cP P (x * 3 + a) y)]
      by_cases e : cA P (x * 3 + a) b ≤ s
      · rw [if_pos e]
        by_cases g : s - cA P (x * 3 + a) b < mo + 1
        · rw [if_pos ⟨e, g⟩, if_pos ⟨hx, by omega⟩]
        · rw [if_neg (fun z => g z.2), MS_zero (fun r => hV.2.2.2.2.2.1 r b) t x _ (by omega), Nat.zero_mul, Nat.zero_mul]
      · rw [if_neg e, if_neg (fun z => e z.1)]
    · rw [if_neg (fun z => d z.2)]
      have e : ∀ x, x < cN P → sm (mo + 1) (fun i => spa (cM P) W (fun r => cA P r b) (cP P) lim (fun x s => if x < cN P ∧ s ≤ lim then MS (cN P) (cM P) W (fun r => cA P r b) (cP P) st t x s else 0) i x (cM P x) y s) = 0 := fun x _ => by
        rw [sm_congr (g := fun _ => 0) (fun i _ => ?_), sm_zero]
        unfold spa
        rw [sm_congr (g := fun _ => 0) (fun a _ => ?_), sm_zero]
        simp only [if_neg d]
        split <;> rfl
      rw [sm_congr (g := fun _ => 0) e, sm_zero]
  · rw [if_neg c, if_neg (fun z => c z.1)]

