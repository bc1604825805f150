/-! the class: narrowing until nothing changes (own work) -/
/-- what holds of the whole puzzle, with the marks at place o -/
def preZ (I : fx_MI) (J : fx_MJ) (o : Nat) : Prop := dimC I ∧ (∀ l, l < 16 → okl 3 (cf I 3) l) ∧ (∀ l, bt (I 3 0) l = true → l < cH I + cW I) ∧ lyO (cW I) (cH I) J o
theorem f_n0 {I : fx_MI} {l : Nat} (hl : l < 16) : (¬ cf I 3 l = nI 0) ↔ bt (I 3 0) l = true := by rw [cf_n0 hl]
