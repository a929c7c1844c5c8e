/-! one 'uses' of an act line -/
def kU (Z : Nat) (M25 : Mem) : Option (Int32 × Mem) := cl (f_X4_fail Z M25 (3 : Int32)) (fun v26 M27 => (if v26 &&& 1 = v26 then some (v26, M27) else none))
