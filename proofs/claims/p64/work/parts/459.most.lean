theorem fill_i_ok {Z : Nat} {M : Mem} {a na : Nat} {v : Int32} (hna : na < 3000) (hZ : na < Z) : OK (f_J7_fill_53178 Z M a na v) (fun _ M' => fr [a] M M' ∧ ∀ j, j < na → gI M' a j = v) := by
  unfold f_J7_fill_53178
  rw [i0]
  refine lpS (fun n i M1 => f_J7_fill_53178_L5 Z a na v n (nI i) M1) (fun x => OK x _) (fun i M1 => fr [a] M M1 ∧ ∀ j, j < i → gI M1 a j = v) 0 na (by omega) hZ ⟨fr.rfl, fun j hj => absurd hj (by omega)⟩ ?_ ?_
  · intro n x M1 _ hi ⟨hf, hv⟩ K
    rw [f_J7_fill_53178_L5]
    simp (disch := omega) only [if_neg (show ¬ na ≤ x by omega), ofN, bd_eq, jn_eq, cl_some, i0, i1, i2, i3, i4, i5, i6, i8, i10, i14, i36, i86, nI_add, nI_mul, rdI_n, rdL_n, wrI_n, wrL_n, nI_ile, nI_ilt]
    refine K _ ⟨fr_sI hf List.mem_cons_self, fun j hj => ?_⟩
    rw [gI_sI]
    by_cases c : j = x
    · rw [if_pos ⟨rfl, c⟩]
    · rw [if_neg (fun z => c z.2)]
      exact hv j (by omega)
  · intro n M1 ⟨hf, hv⟩
    rw [f_J7_fill_53178_L5]
    simp only [ofN, ge_self, if_true]
    exact OK.ret ⟨hf, hv⟩
theorem VP.lead {P : Nat → Int32} {W : Nat → Nat} (hV : VP P) (hK : WOK P W) : ∀ x, x < cN P → ∃ a y, a < cM P x ∧ y < cN P ∧ 0 < W (x * 3 + a) ∧ 0 < cP P (x * 3 + a) y := by
  intro x hx
  obtain ⟨a, ha, hw⟩ := sm_pos (n := cM P x) (f := fun a => W (x * 3 + a)) (by rw [hK.2 x hx]; decide)
  obtain ⟨y, hy, hp⟩ := sm_pos (n := cN P) (f := cP P (x * 3 + a)) (by rw [(hV.2.2.2.2.2.2.2 x hx a ha).1]; decide)
  exact ⟨a, y, ha, hy, hw, hp⟩
