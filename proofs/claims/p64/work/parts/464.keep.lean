theorem fr_sR {l : List Nat} {M M1 : Mem} {o k : Nat} {v : Option Nat} (h : fr l M M1) (ho : o ∈ l) : fr l M (sR M1 o k v) := fun a ha => by
  rw [gI_sR', gL_sR']
  refine ⟨(h a ha).1, (h a ha).2.1, ?_⟩
  rw [← (h a ha).2.2]
  funext b
  rw [gR_sR, if_neg (fun z => ha (by rw [z.1]; exact ho))]
theorem rdR_n {β : Type} {M : Mem} {o n j q : Nat} {sh : List SE} {e : SE} {k : Nat → Option β} (h : j < n) (hn : n < 100000) (hq : gR M o j = some q) (hs : sh[q]? = some e) : rdR M o n (nI j) sh e k = k q := by
  have e1 := nI_clamp (n := j) (by omega)
  have : inB (nI j) n = true := by
    simp only [inB, Bool.and_eq_true, decide_eq_true_eq, e1]
    exact ⟨nI_pos' (by omega), h⟩
  unfold rdR
  rw [if_pos this, e1, hq]
  exact if_pos hs
theorem wrR_n {β : Type} {M : Mem} {o n j v : Nat} {k : Mem → Option β} (h : j < n) (hn : n < 100000) : wrR M o n (nI j) v k = k (sR M o j (some v)) := by
  have e := nI_clamp (n := j) (by omega)
  have : inB (nI j) n = true := by
    simp only [inB, Bool.and_eq_true, decide_eq_true_eq, e]
    exact ⟨nI_pos' (by omega), h⟩
  simp only [wrR, this, if_true, e]
theorem rot_sh : ∀ j, j < 7 → SH[38 + 6 * j]? = some (13, 9) := by decide
theorem rot_sh' (a : Nat) : SH[38 + 6 * (a % 7)]? = some (13, 9) := rot_sh _ (Nat.mod_lt _ (by decide))
/-- the places of the settings before the changes -/
def RoT (M : Mem) (rot : Nat) : Prop := ∀ k, k < 7 → gR M 36 k = some (38 + 6 * ((rot + k) % 7))
theorem RoT.to {M M' : Mem} {rot : Nat} (h : RoT M rot) (h1 : gR M' 36 = gR M 36) : RoT M' rot := by
  unfold RoT
  rw [h1]
  exact h
theorem i7 : (7 : Int32) = nI 7 := by decide
def shf (n : Nat) : Nat := if n = 7 then 1 else 0
/-- reference: rows of settings kept -/
theorem i54 : (54 : Int32) = nI 54 := by decide
theorem i378 : (378 : Int32) = nI 378 := by decide
theorem mc54 (a : Nat) : 54 * a = a * 54 := Nat.mul_comm 54 a
/-- all but these objects, and of 108 all but the number of changes, are as before -/
def f4 (l : List Nat) (M M' : Mem) : Prop := (∀ o, o ∉ l → o ≠ 108 → gI M' o = gI M o ∧ gL M' o = gL M o ∧ gR M' o = gR M o) ∧ (∀ k, k ≠ 4 → gI M' 108 k = gI M 108 k) ∧ gL M' 108 = gL M 108 ∧ gR M' 108 = gR M 108
