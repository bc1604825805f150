/-! the reference: counts -/
def okI (I : fx_MI) : Prop := preN I ∧ okU (rW I) (rH I) (rC I) (mkN (I 1))
