/-- the greatest of a row, from 0 on -/
def mx : Nat → (Nat → Int64) → Int64
  | 0, _ => 0
  | n + 1, f => if f n < mx n f then mx n f else f n
def CH (N : Nat) (T : Nat → Nat → Nat) : Nat → Nat → Int64
  | 0, _ => 1
  | k + 1, x => mx N (fun y => lN (T x y) * CH N T k y)
theorem chanceOver_eq {Z : Nat} {M : Mem} {PT A : Nat → Nat → Int64} (h17 : MT 17 M PT) (h20 : MT 20 M A) {x y k : Nat} (hx : x < 6) (hy : y < 6) (hk : k < 6) : f_X1_chanceOver Z M (nI x) (nI y) (nI (k + 1)) = some (PT x y * A k y, M) := by
  unfold f_X1_chanceOver
  rw [partsTo_eq h17 hx hy, cl_some, i1, nI_sub (by omega), Nat.add_sub_cancel, i6, nI_mul, nI_add, rdL_n (by omega) (by decide), h20 k hk y hy]
