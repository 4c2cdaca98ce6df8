/-! the best change: the reference -/
def Cr (f : Nat) : Int32 := if f = 1000 then -1 else nI f