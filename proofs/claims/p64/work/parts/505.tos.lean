/-! an act of the law's chain is drawn: where it leads to -/
def toT (o p : Nat → Nat) : Nat → List Nat
  | 0 => []
  | k + 1 => toT o p k ++ (WL.getD 18 [] ++ dgs (o k) ++ [32] ++ dgs (p (o k)))
theorem toT_c {o p q : Nat → Nat} : ∀ k, (∀ j, j < k → p (o j) = q (o j)) → toT o p k = toT o q k
  | 0, _ => rfl
  | k + 1, h => by rw [toT, toT, toT_c k (fun j hj => h j (by omega)), h k (by omega)]
theorem toT_len {o p : Nat → Nat} : ∀ k, (∀ j, j < k → o j < 10 ∧ p (o j) ≤ 100) → (toT o p k).length ≤ 9 * k
  | 0, _ => Nat.le_refl _
  | k + 1, h => by
    have ih := toT_len k (fun j hj => h j (by omega))
    obtain ⟨h1, h2⟩ := h k (by omega)
    have d1 : (dgs (o k)).length = 1 := by
      unfold dgs
      rw [if_pos (by omega)]
      rfl
    have d2 : (dgs (p (o k))).length ≤ 3 := by
      unfold dgs
      split
      · exact Nat.le_add_left 1 2
      · split
        · exact Nat.le_succ 2
        · rw [if_pos (by omega)]
          exact Nat.le_refl _
    have : (WL.getD 18 []).length = 4 := rfl
    have : ([32] : List Nat).length = 1 := rfl
    simp only [toT, List.length_append, d1]
    omega
theorem mod_inj {n f i j : Nat} (hi : i < n) (hj : j < n) (h : (f + i) % n = (f + j) % n) : i = j := by
  have h1 := Nat.div_add_mod (f + i) n
  have h2 := Nat.div_add_mod (f + j) n
  rw [h] at h1
  have h3 : n * ((f + i) / n) + j = n * ((f + j) / n) + i := by omega
  have h4 : (f + i) / n = (f + j) / n := by
    rcases Nat.lt_trichotomy ((f + i) / n) ((f + j) / n) with hlt | he | hgt
    · have := Nat.mul_le_mul_left n (Nat.succ_le_of_lt hlt)
      rw [Nat.mul_succ] at this
      omega
    · exact he
    · have := Nat.mul_le_mul_left n (Nat.succ_le_of_lt hgt)
      rw [Nat.mul_succ] at this
      omega
  rw [h4] at h3
  omega
theorem sm_c9 {f g : Nat → Nat} : ∀ k, (∀ j, j < k → f j = g j) → sm k f = sm k g
  | 0, _ => rfl
  | k + 1, h => by rw [sm, sm, sm_c9 k (fun j hj => h j (by omega)), h k (by omega)]
/-- so far: m of them told, left percents -/
def J196 (M0 : Mem) (T0 : List Nat) (o1 o2 n f k0 c0 m left : Nat) (M : Mem) (c : Nat) : Prop := ((∃ k, gI M 108 1 = nI k ∧ k ≤ k0 + 2 * m) ∧ c ≤ c0 + 4 * m ∧ m ≤ n ∧ frS (fun w => S8 w ∨ w = o1 ∨ w = o2) M0 M) ∧ TB M (T0 ++ toT (fun j => (f + j) % n) (pn (gI M o1)) m) ∧ ((∀ j, j < m → gI M o2 j = nI ((f + j) % n)) ∧ (∀ j, j < m → ∃ v, 1 ≤ v ∧ v ≤ 100 ∧ gI M o1 ((f + j) % n) = nI v) ∧ ∀ y, y < 6 → (∀ j, j < m → (f + j) % n ≠ y) → gI M o1 y = nI 0) ∧ left + sm m (fun j => pn (gI M o1) ((f + j) % n)) = 100 ∧ (m = n → left = 0)
theorem J196.next {M0 M2 M : Mem} {T0 : List Nat} {o1 o2 n f k0 c0 m left c v k : Nat} (hJ : J196 M0 T0 o1 o2 n f k0 c0 m left M c) (hm : m < n) (hn : n ≤ 4) (h12 : o1 ≠ o2) (hv : 1 ≤ v) (hv2 : v ≤ left) (hlast : m + 1 = n → v = left) (hk : gI M2 108 1 = nI k) (hk2 : k ≤ k0 + 2 * m + 2) {c2 : Nat} (hc : c2 ≤ c + 4) (hf : frS (fun w => S8 w ∨ w = o1 ∨ w = o2) M M2) (he : ∀ j, gI M2 o1 j = if j = (f + m) % n then nI v else gI M o1 j) (he2 : ∀ j, gI M2 o2 j = if j = m then nI ((f + m) % n) else gI M o2 j) (hT : TB M2 (T0 ++ toT (fun j => (f + j) % n) (pn (gI M o1)) m ++ (WL.getD 18 [] ++ dgs ((f + m) % n) ++ [32] ++ dgs v))) : J196 M0 T0 o1 o2 n f k0 c0 (m + 1) (left - v) M2 c2 := by
  obtain ⟨⟨h1, h2, h3, h4⟩, h5, ⟨h6, h7, h8⟩, h9, h10⟩ := hJ
  have hne : ∀ j, j < m → (f + j) % n ≠ (f + m) % n := fun j hj z => by
    have := mod_inj (show j < n by omega) hm z
    omega
  have e1 : ∀ j, j < m → pn (gI M2 o1) ((f + j) % n) = pn (gI M o1) ((f + j) % n) := fun j hj => by
    unfold pn
    rw [he, if_neg (hne j hj)]
  have hl : left ≤ 100 := by omega
  have e2 : pn (gI M2 o1) ((f + m) % n) = v := by
    unfold pn
    rw [he, if_pos rfl, nI_clamp (by omega)]
  refine ⟨⟨⟨k, hk, by omega⟩, by omega, by omega, h4.trans hf⟩, ?_, ⟨fun j hj => ?_, fun j hj => ?_, fun y hy h => ?_⟩, ?_, ?_⟩
  · rw [toT, toT_c m e1, e2, ← List.append_assoc]
    exact hT
  · rw [he2]
    by_cases hjm : j = m
    · rw [if_pos hjm, hjm]
    · rw [if_neg hjm]
      exact h6 j (by omega)
  · rw [he]
    by_cases hjm : j = m
    · rw [if_pos (by rw [hjm])]
      exact ⟨v, hv, by omega, rfl⟩
    · rw [if_neg (hne j (by omega))]
      exact h7 j (by omega)
  · rw [he, if_neg (fun z => h m (by omega) z.symm)]
    exact h8 y hy (fun j hj => h j (by omega))
  · rw [sm, sm_c9 m e1, e2]
    omega
  · intro z
    have := hlast z
    omega
