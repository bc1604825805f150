/-! the reference: more calls -/
def Q_setMark (I : fx_MI) (J : fx_MJ) (R : fx_MR) (x y v : Int32) (r : Option Value) (I' : fx_MI) (J' : fx_MJ) (R' : fx_MR) : Prop :=
  J' = J ∧ R' = R ∧ (((inC I x y && in_M v 1 (nI (2 ^ (rC I + 1) - 1))) = false ∧ r = some (.int (-nI 2)) ∧ I' = I) ∨ ∃ a b k, a < rW I ∧ b < rH I ∧ 1 ≤ k ∧ k < 2 ^ (rC I + 1) ∧ x = nI a ∧ y = nI b ∧ v = nI k ∧ r = some (.int (I 1 (288 + (rW I * b + a)))) ∧ I' = fx_up (keepsM I) 1 (288 + (rW I * b + a)) (nI k))
def post_M_setMark : fx_Post := fun st I J R r I' J' R' => match st with
  | [_, .int x, .int y, .int v] => Q_setMark I J R x y v r I' J' R'
  | _ => True
def isW (w h : Nat) (f : Nat → Int32) (l : Nat) : Prop := ¬ f l = nI 0 ∧ ¬ ∃ s, PF w h f (mkN f) l s
noncomputable def wrN (w h : Nat) (f : Nat → Int32) (l : Nat) : Nat := @ite Nat (isW w h f l) (Classical.propDecidable _) 1 0
