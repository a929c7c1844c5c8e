/-! what a loaded object gives the methods -/
theorem nI_pn {f : Nat → Int32} {i : Nat} (h : f i = nI (pn f i)) {n : Nat} (hn : pn f i = n) : f i = nI n := by rw [h, hn]
theorem VP.at {P : Nat → Int32} (h : VP P) {i : Nat} (hi : i < 344) (h2 : ¬ (14 ≤ i ∧ i < 32)) : P i = nI (pn P i) := h.1 i hi h2
theorem VP.m {P : Nat → Int32} (h : VP P) {x : Nat} (hx : x < 6) : P (8 + x) = nI (cM P x) := by
  rw [h.at (by omega) (by omega), cM, if_pos hx]
theorem VP.p {P : Nat → Int32} (h : VP P) {r y : Nat} (hr : r < 18) (hy : y < 6) : P (86 + r * 6 + y) = nI (cP P r y) := by
  rw [h.at (by omega) (by omega), cP, if_pos ⟨hr, hy⟩]
theorem VP.a {P : Nat → Int32} (h : VP P) {r b : Nat} (hr : r < 18) (hb : b < 3) : P (32 + r * 3 + b) = nI (cA P r b) := by
  rw [h.at (by omega) (by omega), cA, if_pos ⟨hr, hb⟩]
theorem VP.n {P : Nat → Int32} (h : VP P) : P 0 = nI (cN P) := h.at (by decide) (by decide)
theorem VP.b {P : Nat → Int32} (h : VP P) : P 1 = nI (cB P) := h.at (by decide) (by decide)
theorem VP.sz {P : Nat → Int32} (h : VP P) : Sz (cN P) (cM P) (cP P) := ⟨h.2.1.2.1, h.2.2.1, h.2.2.2.2.2.2.1⟩
theorem VP.chR {P : Nat → Int32} {M : Mem} (h : VP P) (hM : gI M 112 = P) : ChR M (cN P) (cM P) (cP P) := by
  unfold ChR
  rw [hM]
  exact ⟨h.n, fun x hx => h.m hx, fun r hr y hy => h.p hr hy⟩
theorem RP.chC {P : Nat → Int32} {M : Mem} (h : VP P) (hr : RP P M 3) : ChC M (cN P) (cM P) (cP P) := by
  refine ⟨hr.1.trans h.n, fun x hx => ?_, fun r hr9 y hy => ?_⟩
  · rw [show (4 : Nat) = 3 + 1 from rfl, hr.2.2.1 x hx]
    exact h.m hx
  · rw [show (7 : Nat) = 3 + 4 from rfl, hr.2.2.2.2.2.1 _ (by omega), ← Nat.add_assoc]
    exact h.p hr9 hy
theorem VS.toSR {P S : Nat → Int32} {M : Mem} (h : VS P S) (hM : gI M 109 = S) : SR M (pn S 0) (pn S 1) (sW9 S) := by
  unfold SR
  rw [hM]
  exact ⟨h.1.1, h.2.1.1, fun r hr => h.2.2.2.1 r hr⟩
theorem RS.w {P S : Nat → Int32} {M : Mem} {o : Nat} (h : VS P S) (hr : RS P M o S) (hN : cN P ≤ 6) : ∀ r, r < 3 * cN P → gI M (o + 1) r = nI (sW9 S r) := fun r hr9 => by
  rw [hr.2.1 r hr9]
  exact h.2.2.2.1 r (by omega)
/-- a step's parts sum to 1000 -/
theorem Tp_sum {P S : Nat → Int32} (h : VP P) (hs : VS P S) : ∀ x, x < cN P → sm (cN P) (Tp (cM P) (cP P) (sW9 S) x) = 1000 := by
  intro x hx
  show sm (cN P) (fun y => sm (cM P x) (fun a => sW9 S (x * 3 + a) * cP P (x * 3 + a) y)) = 1000
  rw [sm_swap]
  have h1 : sm (cM P x) (fun j => sm (cN P) (fun i => sW9 S (x * 3 + j) * cP P (x * 3 + j) i)) = sm (cM P x) (fun j => 100 * sW9 S (x * 3 + j)) := sm_congr (fun a ha => by
    rw [sm_mul, show sm (cN P) (fun i => cP P (x * 3 + a) i) = 100 from (h.2.2.2.2.2.2.2 x hx a ha).1, Nat.mul_comm])
  rw [h1, sm_mul, (hs.2.2.2.2.2.1 x hx).1]
theorem Tp_le {P S : Nat → Int32} (h : VP P) (hs : VS P S) {x y : Nat} (hx : x < cN P) (hy : y < cN P) : Tp (cM P) (cP P) (sW9 S) x y ≤ 1000 := by
  have h1 := Tp_sum h hs x hx
  have h2 := le_sm (f := Tp (cM P) (cP P) (sW9 S) x) hy
  omega
/-! the reference's guards -/
def bI (c : Prop) [Decidable c] : Int32 := if c then 1 else 0
theorem bI_and (c : Prop) [Decidable c] : bI c &&& 1 = bI c := by
  unfold bI
  split <;> rfl
/-! cases without an exception -/
theorem rd112 {β : Type} {M : Mem} {c : Int32} {i : Nat} {k : Int32 → Option β} (hc : c = nI i) (hi : i < 344) : rdI M 112 344 c k = k (gI M 112 i) := by rw [hc]; exact rdI_n hi (by decide)
theorem rd109 {β : Type} {M : Mem} {c : Int32} {i : Nat} {k : Int32 → Option β} (hc : c = nI i) (hi : i < 54) : rdI M 109 54 c k = k (gI M 109 i) := by rw [hc]; exact rdI_n hi (by decide)
