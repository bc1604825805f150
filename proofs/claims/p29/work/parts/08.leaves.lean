/-! the reference: leaves -/
def in_M (v a b : Int32) : Bool := !decide (v < a) && !decide (b < v)
