/-! constants and small rules for runs (own work) -/
theorem fx_all4 {x : Option Value} {I0 : fx_MI} {J0 : fx_MJ} {R0 : fx_MR} {Q : Option Value → fx_MI → fx_MJ → fx_MR → Prop} : (∀ r I' J' R', (r = x ∧ I' = I0 ∧ J' = J0 ∧ R' = R0) → Q r I' J' R') ↔ Q x I0 J0 R0 := ⟨fun h => h _ _ _ _ ⟨rfl, rfl, rfl, rfl⟩, fun h r I' J' R' ⟨h1, h2, h3, h4⟩ => by rw [h1, h2, h3, h4]; exact h⟩
theorem fx_narI (x : Int32) : narrow .int (.int x) = .int x := rfl
theorem fx_narZ0 : narrow .boolean (.int 0) = .int 0 := rfl
theorem fx_narZ1 : narrow .boolean (.int 1) = .int 1 := rfl
/-- a truth value as an int -/
def zb (b : Bool) : Int32 := if b then 1 else 0
theorem fx_narZb (b : Bool) : narrow .boolean (.int (zb b)) = .int (zb b) := by cases b <;> rfl
theorem zb_0 : zb false = 0 := rfl
theorem zb_1 : zb true = 1 := rfl
theorem zb_e (b : Bool) : zb b = 0 ↔ b = false := by cases b <;> decide
theorem zb_ne (b : Bool) : ¬ zb b = 0 ↔ b = true := by cases b <;> decide
theorem zb_e1 (b : Bool) : zb b = 1 ↔ b = true := by cases b <;> decide
theorem fx_narZ (b : Bool) : narrow .boolean (.int (if b then 1 else 0)) = .int (if b then 1 else 0) := by cases b <;> rfl
