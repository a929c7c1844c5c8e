/-! going forward under a goal of the outcome -/
def Ok {β : Type} (Q : β → Prop) (o : Option β) : Prop := ∃ r, o = some r ∧ Q r
theorem Ok.some {β : Type} {Q : β → Prop} {r : β} (h : Q r) : Ok Q (some r) := ⟨r, rfl, h⟩
theorem bd_R {α β : Type} {R : Option β → Prop} {x : α} {k : α → Option β} (h : R (k x)) : R (bd x k) := h
theorem jn_R {α β : Type} {R : Option β → Prop} {rest : α → Option β} {body : (α → Option β) → Option β} (P : α → Prop) (hr : ∀ t, P t → R (rest t)) (hb : ∀ j, (∀ t, P t → R (j t)) → R (body j)) : R (jn rest body) := hb rest hr
theorem rdQ_R {β : Type} {R : Option β → Prop} {M : Mem} {o n j r : Nat} {i : Int32} {sh : Nat → Option SE} {e : SE} {k : Nat → Option β} (hi : i = nI j) (hj : j < n) (hn : n < 1000) (hg : gR M o j = some r) (hs : sh r = some e) (K : R (k r)) : R (rdQ M o n i sh e k) := by
  rw [hi, rdQ_n hj hn hg hs]
  exact K
theorem rdI_R {β : Type} {R : Option β → Prop} {M : Mem} {o n j : Nat} {i : Int32} {k : Int32 → Option β} (hi : i = nI j) (hj : j < n) (hn : n < 1000) (K : R (k (gI M o j))) : R (rdI M o n i k) := by
  unfold rdI
  rw [hi, if_pos (inB_nI hj (by omega)), nI_clamp (by omega)]
  exact K
theorem wrI_R {β : Type} {R : Option β → Prop} {M : Mem} {o n j : Nat} {i v : Int32} {k : Mem → Option β} (hi : i = nI j) (hj : j < n) (hn : n < 1000) (K : R (k (sI M o j v))) : R (wrI M o n i v k) := by
  unfold wrI
  rw [hi, if_pos (inB_nI hj (by omega)), nI_clamp (by omega)]
  exact K
theorem wrZ_R {β : Type} {R : Option β → Prop} {M : Mem} {o n j : Nat} {i : Int32} {k : Mem → Option β} (hi : i = nI j) (hj : j < n) (hn : n < 1000) (K : R (k (sI M o j (nI 1)))) : R (wrZ M o n i (1 : Int32) k) := by
  unfold wrZ
  rw [hi, if_pos (inB_nI hj (by omega)), nI_clamp (by omega), nz1]
  exact K
theorem ifp_R {β : Type} {R : Option β → Prop} {c : Prop} [Decidable c] {a b : Option β} (h : c) (K : R a) : R (if c then a else b) := by
  rw [if_pos h]
  exact K
theorem ifn_R {β : Type} {R : Option β → Prop} {c : Prop} [Decidable c] {a b : Option β} (h : ¬ c) (K : R b) : R (if c then a else b) := by
  rw [if_neg h]
  exact K
theorem gI_same {M : Mem} {o k : Nat} {v : Int32} : gI (sI M o k v) o k = v := (gI_sI M o k v o k).trans (if_pos ⟨rfl, rfl⟩)
