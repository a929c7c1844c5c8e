/-- the greatest of a row, from 0 on -/
def mx : Nat → (Nat → Int64) → Int64
  | 0, _ => 0
  | n + 1, f => if f n < mx n f then mx n f else f n
def CH (N : Nat) (T : Nat → Nat → Nat) : Nat → Nat → Int64
  | 0, _ => 1
  | k + 1, x => mx N (fun y => lN (T x y) * CH N T k y)
theorem chanceOver_eq {Z : Nat} {M : Mem} {PT A : Nat → Nat → Int64} (h17 : MT 17 M PT) (h20 : MT 20 M A) {x y k : Nat} (hx : x < 6) (hy : y < 6) (hk : k < 6) : f_X1_chanceOver Z M (nI x) (nI y) (nI (k + 1)) = some (PT x y * A k y, M) := by
  unfold f_X1_chanceOver
  rw [partsTo_eq h17 hx hy, cl_some, i1, nI_sub (by omega), Nat.add_sub_cancel, i6, nI_mul, nI_add, rdL_n (by omega) (by decide), h20 k hk y hy]
theorem fillChances_ok {Z : Nat} {M : Mem} {N H : Nat} (h3 : gI M 3 0 = nI N) (hN : N ≤ 6) (hZ : 60 < Z) {T : Nat → Nat → Nat} (hT : MT 17 M (fun x y => if x < N ∧ y < N then lN (T x y) else 0)) (h16 : gI M 16 2 = nI H) (h1 : 1 ≤ H) (hH : H ≤ 5) :
    OK (f_X1_fillChances Z M) (fun _ M' => fr [20] M M' ∧ MT 20 M' (fun k x => if k ≤ H ∧ x < N then CH N T k x else 1)) := by
  unfold f_X1_fillChances
  obtain ⟨_, M1, e1, f1, v1⟩ := fill_d_ok (Z := Z) (M := M) (a := 20) (na := 36) (v := 1) (by decide) (by omega)
  rw [e1, cl_some, i1]
  refine lpS (fun n i M2 => f_X1_fillChances_L10 Z n (nI i) M2) (fun r => OK r _) (fun i M2 => fr [20] M M2 ∧ MT 20 M2 (fun k x => if k < i ∧ x < N then CH N T k x else 1)) 1 (H + 1) (by omega) (by omega) ⟨f1, fun k hk x hx => ?_⟩ ?_ ?_
  · rw [v1 _ (by omega)]
    dsimp only
    by_cases c : k < 1 ∧ x < N
    · rw [if_pos c, show k = 0 by omega]
      rfl
    · rw [if_neg c]
  · intro n i M2 hi1 hi ⟨f2, t2⟩ K
    obtain ⟨k, rfl⟩ : ∃ k, i = k + 1 := ⟨i - 1, by omega⟩
    have g16 : gI M2 16 2 = nI H := by rw [f2.I (by decide)]; exact h16
    rw [f_X1_fillChances_L10, bd_eq, g16]
    simp (disch := omega) only [if_neg (show ¬ H < k + 1 by omega), nI_ilt, i0, i1, nI_add]
    refine lpS (fun n2 x M3 => f_X1_fillChances_L20 Z (nI (k + 1)) (fun M20 => f_X1_fillChances_L10 Z n (nI (k + 1 + 1)) M20) n2 (nI x) M3) (fun r => OK r _) (fun x M3 => fr [20] M M3 ∧ MT 20 M3 (fun k' x' => if (k' < k + 1 ∧ x' < N) ∨ (k' = k + 1 ∧ x' < x) then CH N T k' x' else 1)) 0 N (by omega) (by omega) ⟨f2, t2.congr rfl (fun a _ b _ => ?_)⟩ ?_ ?_
    · by_cases c : a < k + 1 ∧ b < N
      · rw [if_pos c, if_pos (Or.inl c)]
      · rw [if_neg c, if_neg (by omega)]
    · intro n2 x M3 _ hx ⟨f3, t3⟩ K3
      have g3 : gI M3 3 0 = nI N := by rw [f3.I (by decide)]; exact h3
      have hT3 := hT.congr (f3.L (show 17 ∉ [20] by decide)) (fun _ _ _ _ => rfl)
      rw [f_X1_fillChances_L20, bd_eq, g3]
      simp (disch := omega) only [if_neg (show ¬ N ≤ x by omega), nI_ile, i0]
      generalize hkk : (fun (y17 : Int64) (M18 : Mem) => wrL M18 20 36 ((nI (k + 1) * (6 : Int32)) + nI x) y17 (fun M19 => f_X1_fillChances_L20 Z (nI (k + 1)) (fun M20 => f_X1_fillChances_L10 Z n (nI (k + 1 + 1)) M20) n2 (nI x + (1 : Int32)) M19)) = kk
      rw [show (0 : Int64) = mx 0 (fun y => lN (T x y) * CH N T k y) from rfl]
      refine lpS (σ := Unit) (fun n3 y _ => f_X1_fillChances_L36 Z (nI (k + 1)) (nI x) kk n3 (mx y (fun y => lN (T x y) * CH N T k y)) (nI y) M3) (fun r => OK r _) (fun _ _ => True) 0 N (s := ()) (by omega) (by omega) trivial ?_ ?_
      · intro n3 y _ _ hy _ K4
        rw [f_X1_fillChances_L36, bd_eq, g3]
        simp (disch := omega) only [if_neg (show ¬ N ≤ y by omega), nI_ile, chanceOver_eq hT3 t3 (show x < 6 by omega) (show y < 6 by omega) (show k < 6 by omega), cl_some, bd_eq, i1, nI_add]
        simp only [hx, hy, Nat.lt_succ_self, true_and, true_or, if_true]
        exact K4 () trivial
      · intro n3 _ _
        rw [f_X1_fillChances_L36, bd_eq, g3]
        simp only [ge_self, if_true]
        rw [← hkk]
        simp (disch := omega) only [i6, i1, nI_mul, nI_add, wrL_n]
        refine K3 _ ⟨fr_sL f3 List.mem_cons_self, (t3.set (x := k + 1) (y := x) (by omega)).congr rfl (fun a _ b _ => ?_)⟩
        dsimp only [mst]
        by_cases c : a = k + 1 ∧ b = x
        · rw [if_pos c, if_pos (Or.inr ⟨c.1, by omega⟩), c.1, c.2]
          rfl
        · rw [if_neg c]
          by_cases d : (a < k + 1 ∧ b < N) ∨ (a = k + 1 ∧ b < x)
          · rw [if_pos d, if_pos (by omega)]
          · rw [if_neg d, if_neg (by omega)]
    · intro n2 M3 ⟨f3, t3⟩
      have g3 : gI M3 3 0 = nI N := by rw [f3.I (by decide)]; exact h3
      rw [f_X1_fillChances_L20, bd_eq, g3]
      simp only [ge_self, if_true]
      refine K M3 ⟨f3, t3.congr rfl (fun a _ b _ => ?_)⟩
      by_cases c : a < k + 1 + 1 ∧ b < N
      · rw [if_pos c, if_pos (by omega)]
      · rw [if_neg c, if_neg (by omega)]
  · intro n M2 ⟨f2, t2⟩
    have g16 : gI M2 16 2 = nI H := by rw [f2.I (by decide)]; exact h16
    rw [f_X1_fillChances_L10, bd_eq, g16]
    simp (disch := omega) only [if_pos (show H < H + 1 by omega), nI_ilt]
    refine OK.ret ⟨f2, t2.congr rfl (fun a _ b _ => ?_)⟩
    by_cases c : a ≤ H ∧ b < N
    · rw [if_pos c, if_pos (by omega)]
    · rw [if_neg c, if_neg (by omega)]

