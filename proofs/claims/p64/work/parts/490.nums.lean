/-! numbers -/
theorem dv_lt {b : Nat → Nat} {a : Nat} : ∀ k, (∀ j, j < k → b (a + j) ≤ 57) → dv b a k < 10 ^ k
  | 0, _ => by
    show 0 < 1
    decide
  | k + 1, h => by
    have ih := dv_lt (b := b) (a := a) k (fun j hj => h j (by omega))
    have h2 := h k (by omega)
    show dv b a k * 10 + (b (a + k) - 48) < 10 ^ (k + 1)
    rw [Nat.pow_succ]
    omega
theorem tV_lt {b : Nat → Nat} {n e : Nat} (he : e ≤ n) (h : tK b n e = 2) : tV b n e < 100000 := by
  have a2 := (tA_ok (b := b) he).2
  have d := spN_ok (p := fun i => isD (b i)) a2
  have ed : spN (fun i => isD (b i)) n (tA b n e) = tD b n e := rfl
  rw [ed] at d
  have h5 : tD b n e - tA b n e ≤ 5 := by
    unfold tK at h
    split at h
    · exact absurd h (by decide)
    · split at h
      · split at h
        · exact absurd h (by decide)
        · exact absurd h (by decide)
      · split at h
        · split at h
          · exact absurd h (by decide)
          · omega
        · split at h
          · exact absurd h (by decide)
          · split at h
            · exact absurd h (by decide)
            · exact absurd h (by decide)
  have h6 := dv_lt (b := b) (a := tA b n e) (tD b n e - tA b n e) (fun j hj => by
    have q : isD (b (tA b n e + j)) = true := d.2.2.1 (tA b n e + j) (by omega) (by omega)
    exact (of_decide_eq_true q).2)
  have h7 : 10 ^ (tD b n e - tA b n e) ≤ 10 ^ 5 := Nat.pow_le_pow_right (by decide) h5
  have e5 : (10 : Nat) ^ 5 = 100000 := by decide
  unfold tV
  omega
def nOK (v lo : Nat) (hi : Int32) : Prop := lo ≤ v ∧ (v : Int) ≤ hi.toInt
/-- the class, right so far, at the token e -/
def okC (b : Nat → Nat) (n e : Nat) (M : Mem) : Prop := BC b n M ∧ TC b n e M ∧ e ≤ n
def erC (c p : Nat) (M : Mem) : Prop := gI M 21 2 = nI c ∧ gI M 21 3 = nI p
theorem okC.fr {b : Nat → Nat} {n e : Nat} {M M' : Mem} {l : List Nat} (h : okC b n e M) (hf : fr l M M') (h1 : 1 ∉ l) (h2 : 2 ∉ l) : okC b n e M' := ⟨h.1.fr hf h1 h2, h.2.1.fr hf h1, h.2.2⟩
/-- tokens were read, the number taken was set: but no more -/
def fP (M M' : Mem) : Prop := fr [1, 21] M M' ∧ ∀ k, k ≠ 5 → gI M' 21 k = gI M 21 k
theorem fP.rfl {M : Mem} : fP M M := ⟨fr.rfl, fun _ _ => Eq.refl _⟩
theorem fP.trans {M M1 M2 : Mem} (h : fP M M1) (h2 : fP M1 M2) : fP M M2 := ⟨h.1.trans h2.1, fun k hk => (h2.2 k hk).trans (h.2 k hk)⟩
theorem nextC {Z : Nat} {M : Mem} {b : Nat → Nat} {n e : Nat} (hZ : 4000 < Z) (h : okC b n e M) : ∃ M', f_X2_advance Z M = some ((), M') ∧ fP M M' ∧ gI M' 21 = gI M 21 ∧ okC b n (tE b n e) M' := by
  obtain ⟨hB, hT, he⟩ := h
  obtain ⟨a1, a2⟩ := tE_ok (b := b) he
  obtain ⟨M', e1, f1, b1, t1⟩ := advance_ok hZ hB a2 hT.2.2.1
  exact ⟨M', e1, ⟨f1.mono (by decide), fun k _ => by rw [f1.I (by decide)]⟩, f1.I (by decide), b1, t1, a2⟩
theorem failC {Z : Nat} {M : Mem} {b : Nat → Nat} {n e c : Nat} (h : okC b n e M) : ∃ M', f_X4_fail Z M (nI c) = some (0, M') ∧ fr [21] M M' ∧ erC c (tA b n e) M' := by
  unfold f_X4_fail
  rw [bd_eq, bd_eq, gI_sI, if_neg (fun z => absurd z.1 (by decide)), h.2.1.2.1, bd_eq]
  exact ⟨_, rfl, fr_sI (fr_sI fr.rfl (by decide)) (by decide), by rw [gI_sI, if_neg (by decide), gI_sI, if_pos ⟨rfl, rfl⟩], by rw [gI_sI, if_pos ⟨rfl, rfl⟩]⟩
theorem takeWordC {Z : Nat} {M : Mem} {b : Nat → Nat} {n e t : Nat} (hZ : 4000 < Z) (h : okC b n e M) (ht : t < 10) (hw : isW b n e t = true) : ∃ M', f_X4_takeWord Z M t = some (1, M') ∧ fP M M' ∧ okC b n (tE b n e) M' := by
  obtain ⟨M', e1, f1, _, o1⟩ := nextC hZ h
  unfold f_X4_takeWord
  rw [isWordC hZ h.1 h.2.1 h.2.2 ht, cl_some, hw, if_neg (by decide), e1, cl_some]
  exact ⟨M', rfl, f1, o1⟩
theorem takeWordN {Z : Nat} {M : Mem} {b : Nat → Nat} {n e t : Nat} (hZ : 4000 < Z) (h : okC b n e M) (ht : t < 10) (hw : isW b n e t = false) : ∃ M', f_X4_takeWord Z M t = some (0, M') ∧ fr [21] M M' ∧ erC 1 (tA b n e) M' := by
  obtain ⟨M', e1, f1, o1⟩ := failC (Z := Z) (c := 1) h
  unfold f_X4_takeWord
  rw [isWordC hZ h.1 h.2.1 h.2.2 ht, cl_some, hw, if_pos (by decide), show (1 : Int32) = nI 1 from rfl, e1, cl_some, if_pos (by decide)]
  exact ⟨M', rfl, f1, o1⟩
theorem seeC {Z : Nat} {M : Mem} {b : Nat → Nat} {n e lo : Nat} {hi : Int32} (h : okC b n e M) (hlo : lo < 1000) (h2 : tK b n e = 2) (hv : nOK (tV b n e) lo hi) : ∃ M', f_X4_seeNumber Z M (nI lo) hi = some (1, M') ∧ fP M M' ∧ gI M' 21 5 = nI (tV b n e) ∧ okC b n e M' := by
  obtain ⟨hB, hT, he⟩ := h
  have vl := tV_lt he h2
  have f : fr [21] M (sI M 21 5 (nI (tV b n e))) := fr_sI fr.rfl (by decide)
  have q5 : gI (sI M 21 5 (nI (tV b n e))) 21 5 = nI (tV b n e) := by rw [gI_sI, if_pos ⟨rfl, rfl⟩]
  unfold f_X4_seeNumber
  rw [bd_eq, hT.1, h2, if_pos (show nI 2 = 2 from rfl), bd_eq, hT.2.2.2 h2, bd_eq, bd_eq, q5, jn_eq, if_neg (by rw [nI_ilt (by omega) (by omega)]; have := hv.1; omega), bd_eq, if_pos (by
    rw [Int32.le_iff_toInt_le, nI_toInt (by omega)]
    exact hv.2)]
  exact ⟨_, rfl, ⟨f.mono (by decide), fun k hk => by rw [gI_sI, if_neg (fun z => hk z.2)]⟩, q5, hB.fr f (by decide) (by decide), hT.fr f (by decide), he⟩
theorem seeN {Z : Nat} {M : Mem} {b : Nat → Nat} {n e lo : Nat} {hi : Int32} (h : okC b n e M) (hlo : lo < 1000) (h2 : ¬ (tK b n e = 2 ∧ nOK (tV b n e) lo hi)) : ∃ M', f_X4_seeNumber Z M (nI lo) hi = some (0, M') ∧ fr [21] M M' ∧ erC (if tK b n e = 2 then 2 else 1) (tA b n e) M' := by
  have h0 := h
  obtain ⟨hB, hT, he⟩ := h
  have kl := tK_lt (b := b) (n := n) (e := e)
  unfold f_X4_seeNumber
  rw [bd_eq, hT.1]
  by_cases c : tK b n e = 2
  · have vl := tV_lt he c
    have f : fr [21] M (sI M 21 5 (nI (tV b n e))) := fr_sI fr.rfl (by decide)
    have q5 : gI (sI M 21 5 (nI (tV b n e))) 21 5 = nI (tV b n e) := by rw [gI_sI, if_pos ⟨rfl, rfl⟩]
    obtain ⟨M', e1, f1, o1⟩ := failC (Z := Z) (c := 2) (M := sI M 21 5 (nI (tV b n e))) (h0.fr f (by decide) (by decide))
    have fin : ∃ M', cl (f_X4_fail Z (sI M 21 5 (nI (tV b n e))) (2 : Int32)) (fun v6 M7 => (if v6 = 0 then some ((0 : Int32), M7) else some ((1 : Int32), M7))) = some (0, M') ∧ fr [21] M M' ∧ erC (if tK b n e = 2 then 2 else 1) (tA b n e) M' := by
      rw [show (2 : Int32) = nI 2 from rfl, e1, cl_some, if_pos rfl]
      exact ⟨M', rfl, f.trans f1, by rw [if_pos c]; exact o1⟩
    rw [if_pos (by rw [c]; rfl), bd_eq, hT.2.2.2 c, bd_eq, bd_eq, q5, jn_eq]
    by_cases d : tV b n e < lo
    · rw [if_pos (by rw [nI_ilt (by omega) (by omega)]; exact d)]
      exact fin
    · rw [if_neg (by rw [nI_ilt (by omega) (by omega)]; exact d), bd_eq, if_neg (fun z => h2 ⟨c, by omega, by
        rw [Int32.le_iff_toInt_le, nI_toInt (by omega)] at z
        exact z⟩)]
      exact fin
  · obtain ⟨M', e1, f1, o1⟩ := failC (Z := Z) (c := 1) h0
    rw [if_neg (by rw [show (2 : Int32) = nI 2 from rfl, nI_eq (by omega) (by decide)]; exact c), show (1 : Int32) = nI 1 from rfl, e1, cl_some, if_pos (by decide)]
    exact ⟨M', rfl, f1, by rw [if_neg c]; exact o1⟩
theorem takeC {Z : Nat} {M : Mem} {b : Nat → Nat} {n e lo : Nat} {hi : Int32} (hZ : 4000 < Z) (h : okC b n e M) (hlo : lo < 1000) (h2 : tK b n e = 2) (hv : nOK (tV b n e) lo hi) : ∃ M', f_X4_takeNumber Z M (nI lo) hi = some (1, M') ∧ fP M M' ∧ gI M' 21 5 = nI (tV b n e) ∧ okC b n (tE b n e) M' := by
  obtain ⟨M1, e1, f1, q1, o1⟩ := seeC (Z := Z) h hlo h2 hv
  obtain ⟨M2, e2, f2, g2, o2⟩ := nextC hZ o1
  unfold f_X4_takeNumber
  rw [e1, cl_some, if_neg (by decide), e2, cl_some]
  exact ⟨M2, rfl, f1.trans f2, by rw [g2]; exact q1, o2⟩
theorem takeN {Z : Nat} {M : Mem} {b : Nat → Nat} {n e lo : Nat} {hi : Int32} (h : okC b n e M) (hlo : lo < 1000) (h2 : ¬ (tK b n e = 2 ∧ nOK (tV b n e) lo hi)) : ∃ M', f_X4_takeNumber Z M (nI lo) hi = some (0, M') ∧ fr [21] M M' ∧ erC (if tK b n e = 2 then 2 else 1) (tA b n e) M' := by
  obtain ⟨M1, e1, f1, o1⟩ := seeN (Z := Z) h hlo h2
  unfold f_X4_takeNumber
  rw [e1, cl_some, if_pos rfl]
  exact ⟨M1, rfl, f1, o1⟩

