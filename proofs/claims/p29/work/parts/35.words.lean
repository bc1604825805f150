/-! the reference: reading the text, blanks and words -/
def tlN (I : fx_MI) : Nat := nv (I 0 19)
def okt (I : fx_MI) : Prop := rg (I 0 19) 121 ∧ ∀ k, k < 120 → rg (I 10 k) 128
