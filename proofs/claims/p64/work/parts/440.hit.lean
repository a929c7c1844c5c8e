theorem nI_eqx {a x : Nat} (ha : a < 2 ^ 31) (hx : x < 2 ^ 31) : (nI a = nI x) = (a = x) := propext (nI_eq ha hx)
