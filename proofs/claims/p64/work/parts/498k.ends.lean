/-! the end of a text -/
def kC (Z : Nat) (M21 : Mem) : Option (Int32 × Mem) := bd (gI M21 (1) 3) (fun v22 => (if v22 = 0 then cl (f_X4_checkStates Z M21) (fun v26 M27 => (if v26 &&& 1 = v26 then some (v26, M27) else none)) else cl (f_X4_fail Z M21 (1 : Int32)) (fun v23 M24 => (if v23 &&& 1 = v23 then some (v23, M24) else none))))
