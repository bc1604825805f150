/-! the class: a line narrowed by fillings, by overlap (own work) -/
/-- least and greatest starts stand in the rows -/
def elS (I : fx_MI) (m n : Nat) (E L ln co : Nat → Nat) : Prop := I 101 3 = nI m ∧ I 101 4 = nI n ∧ m ≤ 8 ∧ n ≤ 8 ∧ ∀ b, b < m → I 103 b = nI (ln b) ∧ I 104 b = nI (co b) ∧ lowI (I 108 b).toInt64 = nI (E b) ∧ higI (I 108 b) = nI (L b) ∧ co b < 4 ∧ E b ≤ L b ∧ 1 ≤ ln b ∧ L b + ln b ≤ n
