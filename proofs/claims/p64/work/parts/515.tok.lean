/-! a text that is known, and its tokens -/
def Tq (b : Nat → Nat) (n e : Nat) (t : List Nat) : Prop := e + t.length = n ∧ ∀ j, j < t.length → b (e + j) = t.getD j 0
theorem getD_l {s t : List Nat} {j : Nat} (h : j < s.length) : (s ++ t).getD j 0 = s.getD j 0 := by
  simp only [List.getD_eq_getElem?_getD, List.getElem?_append_left h]
theorem getD_r {s t : List Nat} {j : Nat} : (s ++ t).getD (s.length + j) 0 = t.getD j 0 := by
  simp only [List.getD_eq_getElem?_getD, List.getElem?_append_right (Nat.le_add_right _ _), Nat.add_sub_cancel_left]
theorem getD_mem {s : List Nat} {j : Nat} (h : j < s.length) : s.getD j 0 ∈ s := by
  simp only [List.getD_eq_getElem?_getD, List.getElem?_eq_getElem h]
  exact List.getElem_mem h
theorem Tq.tail {b : Nat → Nat} {n e : Nat} {s t : List Nat} (h : Tq b n e (s ++ t)) : Tq b n (e + s.length) t := by
  obtain ⟨h1, h2⟩ := h
  rw [List.length_append] at h1 h2
  refine ⟨by omega, fun j hj => ?_⟩
  rw [Nat.add_assoc, h2 _ (by omega), getD_r]
theorem Tq.at {b : Nat → Nat} {n e : Nat} {s t : List Nat} (h : Tq b n e (s ++ t)) {j : Nat} (hj : j < s.length) : b (e + j) = s.getD j 0 := by
  rw [h.2 j (by rw [List.length_append]; omega), getD_l hj]
theorem Tq.hd {b : Nat → Nat} {n e : Nat} {t : List Nat} (h : Tq b n e t) (he : e < n) : b e = t.headD 0 := by
  obtain ⟨h1, h2⟩ := h
  cases t with
  | nil => exact absurd h1 (by simp; omega)
  | cons c t => exact h2 0 (by simp)
theorem Tq.le {b : Nat → Nat} {n e : Nat} {t : List Nat} (h : Tq b n e t) : e ≤ n := by
  have := h.1
  omega
theorem spN_eq {p : Nat → Bool} {n e k : Nat} (h1 : e ≤ k) (h2 : k ≤ n) (h3 : ∀ i, e ≤ i → i < k → p i = true) (h4 : k < n → p k = false) : spN p n e = k := by
  obtain ⟨a1, a2, a3, a4⟩ := spN_ok (p := p) (Nat.le_trans h1 h2)
  generalize spN p n e = r at *
  rcases Nat.lt_trichotomy r k with c | c | c
  · exact absurd ((h3 r a1 c).symm.trans (a4 (by omega))) (by decide)
  · exact c
  · exact absurd ((a3 k h1 c).symm.trans (h4 (by omega))) (by decide)
def sp (i : Nat) : List Nat := List.replicate i 32
theorem sp_len {i : Nat} : (sp i).length = i := List.length_replicate
theorem sp_at {i j : Nat} (h : j < i) : (sp i).getD j 0 = 32 := by
  unfold sp
  simp [List.getD_eq_getElem?_getD, List.getElem?_replicate, h]
theorem tA_eq {b : Nat → Nat} {n e i : Nat} {t : List Nat} (h : Tq b n e (sp i ++ t)) (ht : t.headD 0 ≠ 32) : tA b n e = e + i ∧ Tq b n (e + i) t := by
  have h2 := h.tail
  rw [sp_len] at h2
  refine ⟨spN_eq (by omega) h2.le (fun j h3 h4 => ?_) (fun h3 => ?_), h2⟩
  · have := h.at (j := j - e) (by rw [sp_len]; omega)
    rw [sp_at (by omega), show e + (j - e) = j by omega] at this
    exact decide_eq_true this
  · rw [h2.hd h3]
    exact decide_eq_false ht
theorem run_eq {b : Nat → Nat} {p : Nat → Bool} {n e : Nat} {w t : List Nat} (h : Tq b n e (w ++ t)) (hw : ∀ c ∈ w, p c = true) (ht : p (t.headD 0) = false) : spN (fun i => p (b i)) n e = e + w.length := by
  have h2 := h.tail
  refine spN_eq (by omega) h2.le (fun j h3 h4 => ?_) (fun h3 => ?_)
  · have := h.at (j := j - e) (by omega)
    rw [show e + (j - e) = j by omega] at this
    show p (b j) = true
    rw [this]
    exact hw _ (getD_mem (by omega))
  · show p (b _) = false
    rw [h2.hd h3]
    exact ht
theorem hd_app {w t : List Nat} (h : 0 < w.length) : (w ++ t).headD 0 = w.getD 0 0 := by
  cases w with
  | nil => exact absurd h (by decide)
  | cons c w => rfl
theorem tW {b : Nat → Nat} {n e i : Nat} {w t : List Nat} (h : Tq b n e (sp i ++ (w ++ t))) (hw : ∀ c ∈ w, isL c = true) (h0 : 0 < w.length) (h8 : w.length ≤ 8) (ht : isL (t.headD 0) = false) : tK b n e = 1 ∧ tA b n e = e + i ∧ tE b n e = e + i + w.length ∧ Tq b n (tE b n e) t ∧ ∀ j, j < w.length → b (tA b n e + j) = w.getD j 0 := by
  have l0 : isL (w.getD 0 0) = true := hw _ (getD_mem h0)
  obtain ⟨ea, h2⟩ := tA_eq h (by
    rw [hd_app h0]
    intro z
    rw [z] at l0
    exact absurd l0 (by decide))
  have h3 := h2.tail
  have hn := h3.le
  have b0 : b (e + i) = w.getD 0 0 := h2.at (j := 0) h0
  have el : tL b n e = e + i + w.length := by
    unfold tL
    rw [ea]
    exact run_eq h2 hw ht
  have lt : ¬ n ≤ tA b n e := by rw [ea]; omega
  have lb : isL (b (tA b n e)) = true := by rw [ea, b0]; exact l0
  have ee : tE b n e = e + i + w.length := by
    unfold tE
    rw [if_neg lt, if_pos lb, el]
  refine ⟨?_, ea, ee, by rw [ee]; exact h3, fun j hj => by rw [ea]; exact h2.at hj⟩
  unfold tK
  rw [if_neg lt, if_pos lb, el, ea, if_neg (by omega)]
theorem wL_all : ∀ k, k < 10 → (∀ c ∈ wL k, isL c = true) ∧ 0 < (wL k).length ∧ (wL k).length ≤ 8 := by decide
theorem wL_inj : ∀ k, k < 10 → ∀ l, l < 10 → (wL k).length = (wL l).length → (∀ j, j < 8 → (wL k).getD j 0 = (wL l).getD j 0) → k = l := by decide +kernel
theorem eqW_iff {b : Nat → Nat} {a : Nat} {w : List Nat} : ∀ m, eqW b a w m = true ↔ ∀ k, k < m → b (a + k) = w.getD k 0
  | 0 => ⟨fun _ k hk => absurd hk (by omega), fun _ => rfl⟩
  | m + 1 => by
    show (eqW b a w m && decide (b (a + m) = w.getD m 0)) = true ↔ _
    rw [Bool.and_eq_true, eqW_iff m, decide_eq_true_eq]
    constructor
    · rintro ⟨h1, h2⟩ k hk
      by_cases c : k = m
      · rw [c]; exact h2
      · exact h1 k (by omega)
    · intro h
      exact ⟨fun k hk => h k (by omega), h m (by omega)⟩
theorem getD_hi {s : List Nat} {j : Nat} (h : s.length ≤ j) : s.getD j 0 = 0 := by
  simp [List.getD_eq_getElem?_getD, List.getElem?_eq_none h]
theorem isW_W {b : Nat → Nat} {n e i k l : Nat} {t : List Nat} (h : Tq b n e (sp i ++ (wL k ++ t))) (hk : k < 10) (hl : l < 10) (ht : isL (t.headD 0) = false) : isW b n e l = decide (k = l) := by
  obtain ⟨w1, w2, w3⟩ := wL_all k hk
  obtain ⟨a1, a2, a3, a4, a5⟩ := tW h w1 w2 w3 ht
  unfold isW
  rw [decide_eq_true a1, Bool.true_and, a3, a2, show e + i + (wL k).length - (e + i) = (wL k).length by omega]
  rw [a2] at a5
  by_cases c : k = l
  · subst c
    rw [decide_eq_true rfl, decide_eq_true rfl, Bool.true_and]
    exact (eqW_iff _).mpr a5
  · rw [decide_eq_false c, Bool.and_eq_false_iff]
    by_cases d : (wL k).length = (wL l).length
    · refine .inr ?_
      cases q : eqW b (e + i) (wL l) (wL l).length with
      | false => rfl
      | true =>
        have q2 := (eqW_iff _).mp q
        refine absurd (wL_inj k hk l hl d (fun j _ => ?_)) c
        by_cases hj : j < (wL k).length
        · rw [← a5 j hj]
          exact q2 j (by omega)
        · rw [getD_hi (by omega), getD_hi (by omega)]
    · exact .inl (decide_eq_false d)
theorem isW_no {b : Nat → Nat} {n e l : Nat} (h : tK b n e ≠ 1) : isW b n e l = false := by
  unfold isW
  rw [decide_eq_false h, Bool.false_and]
theorem dgs_all {v : Nat} (h : v < 100000) : ∀ c ∈ dgs v, isD c = true := by
  intro c hc
  unfold isD
  refine decide_eq_true ?_
  unfold dgs at hc
  repeat' (split at hc)
  all_goals (simp only [List.mem_cons, List.not_mem_nil, or_false] at hc; omega)
theorem dv_dgs {b : Nat → Nat} {a v : Nat} (h : v < 100000) (hb : ∀ j, j < (dgs v).length → b (a + j) = (dgs v).getD j 0) : dv b a (dgs v).length = v := by
  unfold dgs at hb ⊢
  by_cases c1 : v < 10
  · rw [if_pos c1] at hb ⊢
    have h0 := hb 0 (by simp only [List.length_cons, List.length_nil]; omega)
    simp only [List.length_cons, List.length_nil, dv, Nat.add_zero, List.getD_cons_zero] at h0 ⊢
    omega
  rw [if_neg c1] at hb ⊢
  by_cases c2 : v < 100
  · rw [if_pos c2] at hb ⊢
    have h0 := hb 0 (by simp only [List.length_cons, List.length_nil]; omega)
    have h1 := hb 1 (by simp only [List.length_cons, List.length_nil]; omega)
    simp only [List.length_cons, List.length_nil, dv, Nat.add_zero, Nat.zero_add, List.getD_cons_zero, List.getD_cons_succ] at h0 h1 ⊢
    omega
  rw [if_neg c2] at hb ⊢
  by_cases c3 : v < 1000
  · rw [if_pos c3] at hb ⊢
    have h0 := hb 0 (by simp only [List.length_cons, List.length_nil]; omega)
    have h1 := hb 1 (by simp only [List.length_cons, List.length_nil]; omega)
    have h2 := hb 2 (by simp only [List.length_cons, List.length_nil]; omega)
    simp only [List.length_cons, List.length_nil, dv, Nat.add_zero, Nat.zero_add, Nat.reduceAdd, List.getD_cons_zero, List.getD_cons_succ] at h0 h1 h2 ⊢
    omega
  rw [if_neg c3] at hb ⊢
  by_cases c4 : v < 10000
  · rw [if_pos c4] at hb ⊢
    have h0 := hb 0 (by simp only [List.length_cons, List.length_nil]; omega)
    have h1 := hb 1 (by simp only [List.length_cons, List.length_nil]; omega)
    have h2 := hb 2 (by simp only [List.length_cons, List.length_nil]; omega)
    have h3 := hb 3 (by simp only [List.length_cons, List.length_nil]; omega)
    simp only [List.length_cons, List.length_nil, dv, Nat.add_zero, Nat.zero_add, Nat.reduceAdd, List.getD_cons_zero, List.getD_cons_succ] at h0 h1 h2 h3 ⊢
    omega
  rw [if_neg c4] at hb ⊢
  have h0 := hb 0 (by simp only [List.length_cons, List.length_nil]; omega)
  have h1 := hb 1 (by simp only [List.length_cons, List.length_nil]; omega)
  have h2 := hb 2 (by simp only [List.length_cons, List.length_nil]; omega)
  have h3 := hb 3 (by simp only [List.length_cons, List.length_nil]; omega)
  have h4 := hb 4 (by simp only [List.length_cons, List.length_nil]; omega)
  simp only [List.length_cons, List.length_nil, dv, Nat.add_zero, Nat.zero_add, Nat.reduceAdd, List.getD_cons_zero, List.getD_cons_succ] at h0 h1 h2 h3 h4 ⊢
  omega
theorem tN {b : Nat → Nat} {n e i v : Nat} {t : List Nat} (h : Tq b n e (sp i ++ (dgs v ++ t))) (hv : v < 100000) (ht : isD (t.headD 0) = false) : tK b n e = 2 ∧ tA b n e = e + i ∧ tE b n e = e + i + (dgs v).length ∧ tV b n e = v ∧ Tq b n (tE b n e) t := by
  have h0 := (dgs_len (v := v)).2
  have h5 := (dgs_len (v := v)).1
  have hw := dgs_all hv
  have l0 : isD ((dgs v).getD 0 0) = true := hw _ (getD_mem h0)
  have l1 : 48 ≤ (dgs v).getD 0 0 ∧ (dgs v).getD 0 0 ≤ 57 := of_decide_eq_true l0
  obtain ⟨ea, h2⟩ := tA_eq h (by rw [hd_app h0]; omega)
  have h3 := h2.tail
  have hn := h3.le
  have b0 : b (e + i) = (dgs v).getD 0 0 := h2.at (j := 0) h0
  have el : tD b n e = e + i + (dgs v).length := by
    unfold tD
    rw [ea]
    exact run_eq h2 hw ht
  have lt : ¬ n ≤ tA b n e := by rw [ea]; omega
  have lb : ¬ isL (b (tA b n e)) = true := by
    rw [ea, b0]
    intro z
    have : 97 ≤ (dgs v).getD 0 0 ∧ (dgs v).getD 0 0 ≤ 122 := of_decide_eq_true z
    omega
  have ld : isD (b (tA b n e)) = true := by rw [ea, b0]; exact l0
  have ee : tE b n e = e + i + (dgs v).length := by
    unfold tE
    rw [if_neg lt, if_neg lb, if_pos ld, el]
  refine ⟨?_, ea, ee, ?_, by rw [ee]; exact h3⟩
  · unfold tK
    rw [if_neg lt, if_neg lb, if_pos ld, el, ea, if_neg (by omega)]
  · unfold tV
    rw [el, ea, show e + i + (dgs v).length - (e + i) = (dgs v).length by omega]
    exact dv_dgs hv (fun j hj => h2.at hj)
theorem tC {b : Nat → Nat} {n e i c : Nat} {t : List Nat} (h : Tq b n e (sp i ++ (c :: t))) (hc : c = 45 ∨ c = 59) : tK b n e = (if c = 45 then 3 else 4) ∧ tE b n e = e + i + 1 ∧ Tq b n (e + i + 1) t := by
  obtain ⟨ea, h2⟩ := tA_eq h (by show c ≠ 32; omega)
  have h3 : Tq b n (e + i + 1) t := Tq.tail (s := [c]) h2
  have hn := h3.le
  have b0 : b (e + i) = c := h2.at (s := [c]) (j := 0) Nat.one_pos
  have lt : ¬ n ≤ tA b n e := by rw [ea]; omega
  have lb : ¬ isL (b (tA b n e)) = true := by
    rw [ea, b0]
    rcases hc with hc | hc <;> rw [hc] <;> decide
  have ld : ¬ isD (b (tA b n e)) = true := by
    rw [ea, b0]
    rcases hc with hc | hc <;> rw [hc] <;> decide
  refine ⟨?_, ?_, h3⟩
  · unfold tK
    rw [if_neg lt, if_neg lb, if_neg ld, ea, b0]
    rcases hc with hc | hc <;> rw [hc] <;> decide
  · unfold tE
    rw [if_neg lt, if_neg lb, if_neg ld, ea]
theorem tZ {b : Nat → Nat} {n e : Nat} (h : Tq b n e []) : tK b n e = 0 := by
  obtain ⟨ea, h2⟩ := tA_eq (i := 0) (t := []) h (by decide)
  have := h2.1
  unfold tK
  rw [if_pos]
  rw [ea]
  simp at this
  omega
