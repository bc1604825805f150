/-! the reference: count; answers as functions -/
noncomputable def b01 (P : Prop) : Nat := @ite Nat P (Classical.propDecidable _) 1 0
theorem b01_1 {P : Prop} (h : P) : b01 P = 1 := by
  unfold b01
  rw [if_pos h]
theorem b01_0 {P : Prop} (h : ¬ P) : b01 P = 0 := by
  unfold b01
  rw [if_neg h]
theorem b01_le {P : Prop} : b01 P ≤ 1 := by
  unfold b01
  split <;> omega
theorem b01_cong {P Q : Prop} (h : P ↔ Q) : b01 P = b01 Q := by rw [propext h]
noncomputable def lwN (w h : Nat) (f : Nat → Int32) (v l : Nat) : Nat := b01 (f l = nI 1 ∧ (v = 0 ∨ fitP w h f l))
/-- pictures too -/
def preC (I : fx_MI) : Prop := preN I ∧ ∀ k, k < 64 → rg (I 1 (352 + k)) 4
/-- the answers of count, line, block: as functions of sizes, the row, and the lengths of history and text -/
noncomputable def cntV (w h c : Nat) (f : Nat → Int32) (u t : Int32) (k : Nat) : Int32 := match k with
  | 0 => nI w
  | 1 => nI h
  | 2 => nI c
  | 3 => nI (sm (fun l => lwN w h f 0 l) (h + w))
  | 4 => nI (kcN f (w * h))
  | 5 => nI (sm (fun l => wrN w h f l) (h + w))
  | 6 => nI (blN f (h + w))
  | 7 => nI (ptN f (w * h))
  | 8 => u
  | 9 => t
  | _ => nI (sm (fun l => lwN w h f 1 l) (h + w))
