/-! the reference: its state, one after the other -/
def bitM (x : Int32) (k : Nat) : Int32 := x >>> (nI k &&& 31) &&& 1
def bitsM (x : Int32) : Int32 := bitM x 0 + bitM x 1 + bitM x 2 + bitM x 3
def beginsM (I : fx_MI) (a b c : Int32) : fx_MI := fill (fx_up (fx_up (fx_up (fx_up (fx_up (fill I 1 0 416 (fun _ => 0)) 0 3 a) 0 4 b) 0 5 c) 0 2 0) 0 6 0) 1 288 64 (fun _ => (2 : Int32) <<< (c &&& 31) - 1)
theorem beginsM_3 {I : fx_MI} {a b c : Int32} : beginsM I a b c 0 3 = a := by simp [beginsM, fill_ne, up_ne, up_eq]
theorem beginsM_4 {I : fx_MI} {a b c : Int32} : beginsM I a b c 0 4 = b := by simp [beginsM, fill_ne, up_ne, up_eq]
def post_M_start : fx_Post := fun st I J R r I' J' R' => match st with
  | [_, .int a, .int b, .int c] => (in_M a 1 8 && in_M b 1 8 && in_M c 1 3) = false ∧ r = some (.int (-2)) ∧ I' = I ∧ J' = J ∧ R' = R ∨ (in_M a 1 8 && in_M b 1 8 && in_M c 1 3) = true ∧ r = some (.int (b + a)) ∧ I' = beginsM I a b c ∧ J' = J ∧ R' = R
  | _ => True
def k1M (I : fx_MI) : fx_MI := fx_up (fill I 2 0 2912 (fun i => I 2 (i + 416))) 0 2 (nI 7)
def keepsM (I : fx_MI) : fx_MI := if nv (I 0 2) = 8 then fx_up (fill (k1M I) 2 2912 416 (fun i => I 1 i)) 0 2 (nI 8) else fx_up (fill I 2 (416 * nv (I 0 2)) 416 (fun i => I 1 i)) 0 2 (nI (nv (I 0 2) + 1))
def undoM (I : fx_MI) : fx_MI := fill (fx_up I 0 2 (nI (nv (I 0 2) - 1))) 1 0 416 (fun i => I 2 (416 * (nv (I 0 2) - 1) + i))
def post_M_undo : fx_Post := fun st I J R r I' J' R' => nv (I 0 2) = 0 ∧ r = some (.int (-3)) ∧ I' = I ∧ J' = J ∧ R' = R ∨ 0 < nv (I 0 2) ∧ r = some (.int (nI (nv (I 0 2) - 1))) ∧ I' = undoM I ∧ J' = J ∧ R' = R
