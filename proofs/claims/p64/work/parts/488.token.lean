/-! tokens in the reference -/
def BR (b : Nat → Nat) (n : Nat) (M : Mem) : Prop := n ≤ 1200 ∧ gI M 108 12 = nI n ∧ ∀ i, i < n → b i < 256 ∧ gI M 114 i = nI (b i)
def kR (k : Nat) : Nat := if k = 3 then 4 else if k = 4 then 3 else k
def TR (b : Nat → Nat) (n e : Nat) (M : Mem) : Prop := gI M 108 15 = nI (kR (tK b n e)) ∧ gI M 108 14 = nI (tA b n e) ∧ gI M 108 13 = nI (tE b n e) ∧ (tK b n e = 2 → gI M 108 18 = nI (tV b n e)) ∧ (tK b n e = 1 → gI M 108 17 = nI (tE b n e - tA b n e) ∧ ∀ k, k < tE b n e - tA b n e → gI M 115 k = nI (b (tA b n e + k)))
def kT : List Nat := [13, 14, 15, 17, 18]
def ft (M M' : Mem) : Prop := fr [108, 115] M M' ∧ ∀ k, k ∉ kT → gI M' 108 k = gI M 108 k
theorem ft.rfl {M : Mem} : ft M M := ⟨fr.rfl, fun _ _ => Eq.refl _⟩
theorem ft.trans {M M1 M2 : Mem} (h : ft M M1) (h2 : ft M1 M2) : ft M M2 := ⟨h.1.trans h2.1, fun k hk => (h2.2 k hk).trans (h.2 k hk)⟩
theorem ft.s {M M1 : Mem} {k : Nat} {v : Int32} (h : ft M M1) (hk : k ∈ kT) : ft M (sI M1 108 k v) := ⟨fr_sI h.1 (by decide), fun j hj => by rw [gI_sI, if_neg (fun z => hj (by rw [z.2]; exact hk))]; exact h.2 j hj⟩
theorem ft.w {M M1 : Mem} {k : Nat} {v : Int32} (h : ft M M1) : ft M (sI M1 115 k v) := ⟨fr_sI h.1 (by decide), fun j hj => by rw [gI_sI, if_neg (fun z => absurd z.1 (by decide))]; exact h.2 j hj⟩
theorem BR.ft {b : Nat → Nat} {n : Nat} {M M' : Mem} (h : BR b n M) (hf : ft M M') : BR b n M' := by
  unfold BR
  rw [hf.2 12 (by decide), hf.1.I (by decide)]
  exact h
