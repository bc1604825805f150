/-! the class: the search (own work) -/
def rmsC (I : fx_MI) : Prop := ∀ l, l < cH I + cW I → I 5 l = nI (roomN (cf I 3) l (manyN (cf I 3) l)) ∧ roomN (cf I 3) l (manyN (cf I 3) l) ≤ cellsN (cW I) (cH I) l
def neC (w h : Nat) (u : Nat → Nat) : Prop := ∀ k, k < w * h → ∃ c, c < 4 ∧ u k / 2 ^ c % 2 = 1
