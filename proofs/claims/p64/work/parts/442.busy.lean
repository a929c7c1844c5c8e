theorem rnk_step {V : Nat → Int64} {x y : Nat} : sm (y + 1) (fun y => if bef V y x then 1 else 0) = sm y (fun y => if bef V y x then 1 else 0) + (if bef V y x then 1 else 0) := rfl
