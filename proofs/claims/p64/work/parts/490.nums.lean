/-! numbers -/
theorem dv_lt {b : Nat → Nat} {a : Nat} : ∀ k, (∀ j, j < k → b (a + j) ≤ 57) → dv b a k < 10 ^ k
  | 0, _ => by
    show 0 < 1
    decide
  | k + 1, h => by
    have ih := dv_lt (b := b) (a := a) k (fun j hj => h j (by omega))
    have h2 := h k (by omega)
    show dv b a k * 10 + (b (a + k) - 48) < 10 ^ (k + 1)
    rw [Nat.pow_succ]
    omega
theorem tV_lt {b : Nat → Nat} {n e : Nat} (he : e ≤ n) (h : tK b n e = 2) : tV b n e < 100000 := by
  have a2 := (tA_ok (b := b) he).2
  have d := spN_ok (p := fun i => isD (b i)) a2
  have ed : spN (fun i => isD (b i)) n (tA b n e) = tD b n e := rfl
  rw [ed] at d
  have h5 : tD b n e - tA b n e ≤ 5 := by
    unfold tK at h
    split at h
    · exact absurd h (by decide)
    · split at h
      · split at h
        · exact absurd h (by decide)
        · exact absurd h (by decide)
      · split at h
        · split at h
          · exact absurd h (by decide)
          · omega
        · split at h
          · exact absurd h (by decide)
          · split at h
            · exact absurd h (by decide)
            · exact absurd h (by decide)
  have h6 := dv_lt (b := b) (a := tA b n e) (tD b n e - tA b n e) (fun j hj => by
    have q : isD (b (tA b n e + j)) = true := d.2.2.1 (tA b n e + j) (by omega) (by omega)
    exact (of_decide_eq_true q).2)
  have h7 : 10 ^ (tD b n e - tA b n e) ≤ 10 ^ 5 := Nat.pow_le_pow_right (by decide) h5
  have e5 : (10 : Nat) ^ 5 = 100000 := by decide
  unfold tV
  omega
def nOK (v lo : Nat) (hi : Int32) : Prop := lo ≤ v ∧ (v : Int) ≤ hi.toInt
/-- the class, right so far, at the token e -/
def okC (b : Nat → Nat) (n e : Nat) (M : Mem) : Prop := BC b n M ∧ TC b n e M ∧ e ≤ n
def erC (c p : Nat) (M : Mem) : Prop := gI M 21 2 = nI c ∧ gI M 21 3 = nI p
theorem okC.fr {b : Nat → Nat} {n e : Nat} {M M' : Mem} {l : List Nat} (h : okC b n e M) (hf : fr l M M') (h1 : 1 ∉ l) (h2 : 2 ∉ l) : okC b n e M' := ⟨h.1.fr hf h1 h2, h.2.1.fr hf h1, h.2.2⟩
theorem failC {Z : Nat} {M : Mem} {b : Nat → Nat} {n e c : Nat} (h : okC b n e M) : ∃ M', f_X4_fail Z M (nI c) = some (0, M') ∧ fr [21] M M' ∧ erC c (tA b n e) M' := by
  unfold f_X4_fail
  rw [bd_eq, bd_eq, gI_sI, if_neg (fun z => absurd z.1 (by decide)), h.2.1.2.1, bd_eq]
  exact ⟨_, rfl, fr_sI (fr_sI fr.rfl (by decide)) (by decide), by rw [gI_sI, if_neg (by decide), gI_sI, if_pos ⟨rfl, rfl⟩], by rw [gI_sI, if_pos ⟨rfl, rfl⟩]⟩
theorem seeN {Z : Nat} {M : Mem} {b : Nat → Nat} {n e lo : Nat} {hi : Int32} (h : okC b n e M) (hlo : lo < 1000) (h2 : ¬ (tK b n e = 2 ∧ nOK (tV b n e) lo hi)) : ∃ M', f_X4_seeNumber Z M (nI lo) hi = some (0, M') ∧ fr [21] M M' ∧ erC (if tK b n e = 2 then 2 else 1) (tA b n e) M' := by
  have h0 := h
  obtain ⟨hB, hT, he⟩ := h
  have kl := tK_lt (b := b) (n := n) (e := e)
  unfold f_X4_seeNumber
  rw [bd_eq, hT.1]
  by_cases c : tK b n e = 2
  · have vl := tV_lt he c
    have f : fr [21] M (sI M 21 5 (nI (tV b n e))) := fr_sI fr.rfl (by decide)
    have q5 : gI (sI M 21 5 (nI (tV b n e))) 21 5 = nI (tV b n e) := by rw [gI_sI, if_pos ⟨rfl, rfl⟩]
    obtain ⟨M', e1, f1, o1⟩ := failC (Z := Z) (c := 2) (M := sI M 21 5 (nI (tV b n e))) (h0.fr f (by decide) (by decide))
    have fin : ∃ M', cl (f_X4_fail Z (sI M 21 5 (nI (tV b n e))) (2 : Int32)) (fun v6 M7 => (if v6 = 0 then some ((0 : Int32), M7) else some ((1 : Int32), M7))) = some (0, M') ∧ fr [21] M M' ∧ erC (if tK b n e = 2 then 2 else 1) (tA b n e) M' := by
      rw [show (2 : Int32) = nI 2 from rfl, e1, cl_some, if_pos rfl]
      exact ⟨M', rfl, f.trans f1, by rw [if_pos c]; exact o1⟩
    rw [if_pos (by rw [c]; rfl), bd_eq, hT.2.2.2 c, bd_eq, bd_eq, q5, jn_eq]
    by_cases d : tV b n e < lo
    · rw [if_pos (by rw [nI_ilt (by omega) (by omega)]; exact d)]
      exact fin
    · rw [if_neg (by rw [nI_ilt (by omega) (by omega)]; exact d), bd_eq, if_neg (fun z => h2 ⟨c, by omega, by
        rw [Int32.le_iff_toInt_le, nI_toInt (by omega)] at z
        exact z⟩)]
      exact fin
  · obtain ⟨M', e1, f1, o1⟩ := failC (Z := Z) (c := 1) h0
    rw [if_neg (by rw [show (2 : Int32) = nI 2 from rfl, nI_eq (by omega) (by decide)]; exact c), show (1 : Int32) = nI 1 from rfl, e1, cl_some, if_pos (by decide)]
    exact ⟨M', rfl, f1, by rw [if_neg c]; exact o1⟩
theorem takeN {Z : Nat} {M : Mem} {b : Nat → Nat} {n e lo : Nat} {hi : Int32} (h : okC b n e M) (hlo : lo < 1000) (h2 : ¬ (tK b n e = 2 ∧ nOK (tV b n e) lo hi)) : ∃ M', f_X4_takeNumber Z M (nI lo) hi = some (0, M') ∧ fr [21] M M' ∧ erC (if tK b n e = 2 then 2 else 1) (tA b n e) M' := by
  obtain ⟨M1, e1, f1, o1⟩ := seeN (Z := Z) h hlo h2
  unfold f_X4_takeNumber
  rw [e1, cl_some, if_pos rfl]
  exact ⟨M1, rfl, f1, o1⟩

