/-! the reference: counts -/
def kcN (f : Nat → Int32) (k : Nat) : Nat := sm (fun i => one (f (288 + i))) k
def pos1 (x : Int32) : Nat := if x ≤ nI 0 then 0 else 1
def ptN (f : Nat → Int32) (k : Nat) : Nat := sm (fun i => pos1 (f (352 + i))) k
def blN (f : Nat → Int32) (k : Nat) : Nat := sm (fun l => manyN f l) k
def inC (I : fx_MI) (x y : Int32) : Bool := in_M x 0 (I 0 3 - 1) && in_M y 0 (I 0 4 - 1)
