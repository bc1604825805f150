/-! the class: hint (own work) -/
/-- what lines tell at a level: nothing -/
def hi0 (I : fx_MI) (J : fx_MJ) (lev : Nat) : Prop := ∀ l, l < cH I + cW I → ¬ cf I 3 l = nI 0 → stU (cW I) (cH I) (cf I 3) lev (cu (cW I) J 8) l
