/-! the gain of an act line -/
def gE (b : Nat → Nat) (n e : Nat) : Nat := if tK b n e = 3 then tE b n e else e
def gV (b : Nat → Nat) (n e : Nat) : Int32 := if tK b n e = 3 then -(nI (tV b n (gE b n e))) else nI (tV b n (gE b n e))
def gOK (b : Nat → Nat) (n e : Nat) : Prop := tK b n (gE b n e) = 2 ∧ nOK (tV b n (gE b n e)) 0 999
