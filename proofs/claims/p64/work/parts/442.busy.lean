theorem visitsOf_eq {Z : Nat} {M : Mem} {A : Nat → Nat → Int64} (h : MT 18 M A) (hZ : 20 < Z) {x H : Nat} (hx : x < 6) (hH : H ≤ 5) (h16 : gI M 16 2 = nI H) : f_X1_visitsOf Z M (nI x) = some (hor (fun t => A t x) (H + 1), M) := by
  unfold f_X1_visitsOf
  rw [bd_eq, h16, sumOf_eq h hZ hx (by omega), cl_some]
theorem rnk_step {V : Nat → Int64} {x y : Nat} : sm (y + 1) (fun y => if bef V y x then 1 else 0) = sm y (fun y => if bef V y x then 1 else 0) + (if bef V y x then 1 else 0) := rfl
theorem rankOf_eq {Z : Nat} {M : Mem} {A : Nat → Nat → Int64} (h : MT 18 M A) (hZ : 20 < Z) {x N H : Nat} (hx : x < N) (hN : N ≤ 6) (h3 : gI M 3 0 = nI N) (hH : H ≤ 5) (h16 : gI M 16 2 = nI H) : f_X1_rankOf Z M (nI x) = some (nI (rnk (fun y => hor (fun t => A t y) (H + 1)) N x), M) := by
  unfold f_X1_rankOf
  rw [visitsOf_eq h hZ (by omega) hH h16, cl_some, i0]
  generalize hV : (fun y => hor (fun t => A t y) (H + 1)) = V
  have hV' : ∀ y, hor (fun t => A t y) (H + 1) = V y := fun y => by rw [← hV]
  rw [hV' x]
  refine lpS (σ := Unit) (fun n i _ => f_X1_rankOf_L12 Z (nI x) (V x) n (nI (sm i (fun y => if bef V y x then 1 else 0))) (nI i) M) (fun r => r = some (nI (rnk V N x), M)) (fun _ _ => True) 0 N (s := ()) (by omega) (by omega) trivial ?_ ?_
  · intro n y _ _ hy _ K
    have K1 := K () trivial
    rw [rnk_step] at K1
    rw [f_X1_rankOf_L12, bd_eq, h3]
    simp (disch := omega) only [if_neg (show ¬ N ≤ y by omega), nI_ile, visitsOf_eq h hZ (show y < 6 by omega) hH h16, cl_some, hV', i1, nI_add]
    by_cases c : V x < V y
    · have e : bef V y x = true := by simp [bef, c]
      rw [if_pos c]
      rw [if_pos e] at K1
      exact K1
    · rw [if_neg c]
      by_cases d : V y = V x
      · rw [if_pos d]
        by_cases g : x ≤ y
        · have e : ¬ bef V y x = true := by simp [bef, c]; intro _; omega
          rw [if_pos g]
          rw [if_neg e] at K1
          exact K1
        · have e : bef V y x = true := by simp [bef, d]; omega
          rw [if_neg g]
          rw [if_pos e] at K1
          exact K1
      · have e : ¬ bef V y x = true := by simp [bef, c, d]
        rw [if_neg d]
        rw [if_neg e] at K1
        exact K1
  · intro n _ _
    rw [f_X1_rankOf_L12, bd_eq, h3]
    simp only [ge_self, if_true]
    rfl
