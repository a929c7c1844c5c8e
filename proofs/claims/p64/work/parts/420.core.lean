/-! layer B: what the functions of the methods compute. R: any goal on an outcome; OK: a method's own -/
def OK {α : Type} (x : Option (α × Mem)) (Q : α → Mem → Prop) : Prop := ∃ a M', x = some (a, M') ∧ Q a M'
theorem OK.ret {α : Type} {a : α} {M : Mem} {Q : α → Mem → Prop} (h : Q a M) : OK (some (a, M)) Q := ⟨a, M, rfl, h⟩
theorem OK.cl {α β : Type} {x : Option (α × Mem)} {Q : α → Mem → Prop} {k : α → Mem → Option β} {R : Option β → Prop} (h : OK x Q) (hk : ∀ a M', Q a M' → R (k a M')) : R (cl x k) := by
  obtain ⟨a, M', rfl, hq⟩ := h
  exact hk a M' hq
theorem cl_some {α β : Type} {a : α} {M : Mem} {k : α → Mem → Option β} : cl (some (a, M)) k = k a M := rfl
theorem clT_ok {α β : Type} {a : α} {M : Mem} {k : α → Mem → Option β} {ke : Nat → Mem → Option β} : clT (some (.ok a, M)) k ke = k a M := rfl
theorem clT_err {α β : Type} {e : Nat} {M : Mem} {k : α → Mem → Option β} {ke : Nat → Mem → Option β} : clT (some (.error e, M)) k ke = ke e M := rfl
theorem bd_eq {α β : Type} (x : α) (k : α → β) : bd x k = k x := rfl
theorem jn_eq {α β : Type} (x : α) (k : α → β) : jn x k = k x := rfl
/-- a loop from i up to e -/
theorem lp_up {σ β : Type} (F : Nat → σ → Option β) (R : Option β → Prop) (I : Nat → σ → Prop) (e : Nat) (hx : ∀ n s, I e s → R (F (n + 1) s)) (hs : ∀ n i s, i < e → I i s → (∀ s', I (i + 1) s' → R (F n s')) → R (F (n + 1) s)) : ∀ d i n s, i + d = e → d < n → I i s → R (F n s) := by
  intro d
  induction d with
  | zero =>
    intro i n s hi hn h
    obtain ⟨m, rfl⟩ : ∃ m, n = m + 1 := ⟨n - 1, by omega⟩
    have : i = e := by omega
    subst this
    exact hx m s h
  | succ d ih =>
    intro i n s hi hn h
    obtain ⟨m, rfl⟩ : ∃ m, n = m + 1 := ⟨n - 1, by omega⟩
    exact hs m i s (by omega) h (fun s' h' => ih (i + 1) m s' (by omega) (by omega) h')
theorem lp_0 {σ β : Type} (F : Nat → σ → Option β) (R : Option β → Prop) (I : Nat → σ → Prop) (e : Nat) {Z : Nat} {s : σ} (hZ : e < Z) (h0 : I 0 s) (hs : ∀ n i s, i < e → I i s → (∀ s', I (i + 1) s' → R (F n s')) → R (F (n + 1) s)) (hx : ∀ n s, I e s → R (F (n + 1) s)) : R (F Z s) := lp_up F R I e hx hs e 0 Z s (by omega) hZ h0
/-- .. with a counter and a state -/
theorem lpS {σ β : Type} (F : Nat → Nat → σ → Option β) (R : Option β → Prop) (I : Nat → σ → Prop) (i0 e : Nat) {Z : Nat} {s : σ} (hi : i0 ≤ e) (hZ : e < Z) (h0 : I i0 s) (hs : ∀ n i s, i0 ≤ i → i < e → I i s → (∀ s', I (i + 1) s' → R (F n (i + 1) s')) → R (F (n + 1) i s)) (hx : ∀ n s, I e s → R (F (n + 1) e s)) : R (F Z i0 s) := by
  have key : ∀ d i n s, i + d = e → d < n → i0 ≤ i → I i s → R (F n i s) := by
    intro d
    induction d with
    | zero =>
      intro i n s h1 hn _ h
      obtain ⟨m, rfl⟩ : ∃ m, n = m + 1 := ⟨n - 1, by omega⟩
      have : i = e := by omega
      subst this
      exact hx m s h
    | succ d ih =>
      intro i n s h1 hn h2 h
      obtain ⟨m, rfl⟩ : ∃ m, n = m + 1 := ⟨n - 1, by omega⟩
      exact hs m i s h2 (by omega) h (fun s' h' => ih (i + 1) m s' (by omega) (by omega) (by omega) h')
  exact key (e - i0) i0 Z s (by omega) (by omega) (Nat.le_refl _) h0
/-- all objects but these are as before -/
def fr (l : List Nat) (M M' : Mem) : Prop := ∀ o, o ∉ l → gI M' o = gI M o ∧ gL M' o = gL M o ∧ gR M' o = gR M o
theorem fr.rfl {l : List Nat} {M : Mem} : fr l M M := fun _ _ => ⟨Eq.refl _, Eq.refl _, Eq.refl _⟩
theorem fr.trans {l : List Nat} {M M1 M2 : Mem} (h : fr l M M1) (h2 : fr l M1 M2) : fr l M M2 := fun o ho => ⟨(h2 o ho).1.trans (h o ho).1, (h2 o ho).2.1.trans (h o ho).2.1, (h2 o ho).2.2.trans (h o ho).2.2⟩
theorem fr.mono {l l2 : List Nat} {M M1 : Mem} (h : fr l M M1) (hl : ∀ o, o ∈ l → o ∈ l2) : fr l2 M M1 := fun o ho => h o (fun z => ho (hl o z))
theorem fr.I {l : List Nat} {M M1 : Mem} (h : fr l M M1) {o : Nat} (ho : o ∉ l) : gI M1 o = gI M o := (h o ho).1
theorem fr.L {l : List Nat} {M M1 : Mem} (h : fr l M M1) {o : Nat} (ho : o ∉ l) : gL M1 o = gL M o := (h o ho).2.1
theorem fr.R {l : List Nat} {M M1 : Mem} (h : fr l M M1) {o : Nat} (ho : o ∉ l) : gR M1 o = gR M o := (h o ho).2.2
theorem gI_sI' (M : Mem) (o k : Nat) (v : Int32) (a : Nat) : gI (sI M o k v) a = if a = o then upd (gI M a) k v else gI M a := by
  funext b
  rw [gI_sI]
  by_cases h : a = o
  · subst h
    by_cases h2 : b = k
    · simp [h2, upd]
    · simp [h2, upd]
  · simp [h]
theorem gL_sL' (M : Mem) (o k : Nat) (v : Int64) (a : Nat) : gL (sL M o k v) a = if a = o then vp_updL (gL M a) k v else gL M a := by
  funext b
  rw [gL_sL]
  by_cases h : a = o
  · subst h
    by_cases h2 : b = k
    · simp [h2, vp_updL]
    · simp [h2, vp_updL]
  · simp [h]
theorem gI_sL' (M : Mem) (o k : Nat) (v : Int64) (a : Nat) : gI (sL M o k v) a = gI M a := rfl
theorem gR_sL' (M : Mem) (o k : Nat) (v : Int64) (a : Nat) : gR (sL M o k v) a = gR M a := rfl
theorem gL_sI' (M : Mem) (o k : Nat) (v : Int32) (a : Nat) : gL (sI M o k v) a = gL M a := rfl
theorem gR_sI' (M : Mem) (o k : Nat) (v : Int32) (a : Nat) : gR (sI M o k v) a = gR M a := rfl
theorem gI_sR' (M : Mem) (o k : Nat) (v : Option Nat) (a : Nat) : gI (sR M o k v) a = gI M a := rfl
theorem gL_sR' (M : Mem) (o k : Nat) (v : Option Nat) (a : Nat) : gL (sR M o k v) a = gL M a := rfl
theorem fr_sI {l : List Nat} {M M1 : Mem} {o k : Nat} {v : Int32} (h : fr l M M1) (ho : o ∈ l) : fr l M (sI M1 o k v) := fun a ha => by
  rw [gI_sI', gL_sI', gR_sI', if_neg (fun z => ha (by rw [z]; exact ho))]
  exact h a ha
theorem fr_sL {l : List Nat} {M M1 : Mem} {o k : Nat} {v : Int64} (h : fr l M M1) (ho : o ∈ l) : fr l M (sL M1 o k v) := fun a ha => by
  rw [gL_sL', gI_sL', gR_sL', if_neg (fun z => ha (by rw [z]; exact ho))]
  exact h a ha
theorem nI_mul (a b : Nat) : nI a * nI b = nI (a * b) := by
  show Int32.ofNat a * Int32.ofNat b = Int32.ofNat (a * b)
  rw [Int32.ofNat_mul]
theorem rdI_n {β : Type} {M : Mem} {o n j : Nat} {k : Int32 → Option β} (h : j < n) (hn : n < 100000) : rdI M o n (nI j) k = k (gI M o j) := by
  have e := nI_clamp (n := j) (by omega)
  have : inB (nI j) n = true := by
    simp only [inB, Bool.and_eq_true, decide_eq_true_eq, e]
    exact ⟨nI_pos' (by omega), h⟩
  simp only [rdI, this, if_true, e]
theorem rdL_n {β : Type} {M : Mem} {o n j : Nat} {k : Int64 → Option β} (h : j < n) (hn : n < 100000) : rdL M o n (nI j) k = k (gL M o j) := by
  have e := nI_clamp (n := j) (by omega)
  have : inB (nI j) n = true := by
    simp only [inB, Bool.and_eq_true, decide_eq_true_eq, e]
    exact ⟨nI_pos' (by omega), h⟩
  simp only [rdL, this, if_true, e]
theorem wrI_n {β : Type} {M : Mem} {o n j : Nat} {v : Int32} {k : Mem → Option β} (h : j < n) (hn : n < 100000) : wrI M o n (nI j) v k = k (sI M o j v) := by
  have e := nI_clamp (n := j) (by omega)
  have : inB (nI j) n = true := by
    simp only [inB, Bool.and_eq_true, decide_eq_true_eq, e]
    exact ⟨nI_pos' (by omega), h⟩
  simp only [wrI, this, if_true, e]
theorem wrL_n {β : Type} {M : Mem} {o n j : Nat} {v : Int64} {k : Mem → Option β} (h : j < n) (hn : n < 100000) : wrL M o n (nI j) v k = k (sL M o j v) := by
  have e := nI_clamp (n := j) (by omega)
  have : inB (nI j) n = true := by
    simp only [inB, Bool.and_eq_true, decide_eq_true_eq, e]
    exact ⟨nI_pos' (by omega), h⟩
  simp only [wrL, this, if_true, e]
theorem i0 : (0 : Int32) = nI 0 := by decide
theorem i1 : (1 : Int32) = nI 1 := by decide
theorem i2 : (2 : Int32) = nI 2 := by decide
theorem i3 : (3 : Int32) = nI 3 := by decide
theorem i4 : (4 : Int32) = nI 4 := by decide
theorem i5 : (5 : Int32) = nI 5 := by decide
theorem i6 : (6 : Int32) = nI 6 := by decide
theorem i8 : (8 : Int32) = nI 8 := by decide
theorem i10 : (10 : Int32) = nI 10 := by decide
theorem i14 : (14 : Int32) = nI 14 := by decide
theorem i36 : (36 : Int32) = nI 36 := by decide
theorem i86 : (86 : Int32) = nI 86 := by decide
theorem nI_ile {a b : Nat} (ha : a < 2 ^ 31) (hb : b < 2 ^ 31) : (nI a ≤ nI b) = (a ≤ b) := propext (nI_leI ha hb)
theorem nI_ilt {a b : Nat} (ha : a < 2 ^ 31) (hb : b < 2 ^ 31) : (nI a < nI b) = (a < b) := propext (nI_ltI ha hb)
theorem lN_toI {n : Nat} (h : n < 2 ^ 63) : (lN n).toInt = (n : Int) := by
  show (Int64.ofNat n).toInt = n
  rw [Int64.toInt_ofNat_of_lt h]
theorem lN_ile {a b : Nat} (ha : a < 2 ^ 63) (hb : b < 2 ^ 63) : (lN a ≤ lN b) = (a ≤ b) := by
  rw [Int64.le_iff_toInt_le, lN_toI ha, lN_toI hb]
  exact propext ⟨fun h => by omega, fun h => by omega⟩
theorem lN_ilt {a b : Nat} (ha : a < 2 ^ 63) (hb : b < 2 ^ 63) : (lN a < lN b) = (a < b) := by
  rw [Int64.lt_iff_toInt_lt, lN_toI ha, lN_toI hb]
  exact propext ⟨fun h => by omega, fun h => by omega⟩
theorem ge_self {n : Nat} : (nI n ≤ nI n) = True := eq_true (Int32.le_refl _)
theorem ofN (n : Nat) : Int32.ofNat n = nI n := rfl
theorem l0 : (0 : Int64) = lN 0 := by decide
theorem l1 : (1 : Int64) = lN 1 := by decide

