/-! the law: what the class turns down (own work) -/
section LBAD
variable {w h c l : Nat} {I I' : fx_MI} {J J' : fx_MJ} {R' : fx_MR} {Ir : fx_MI} {r : Option Value} {b : Bool}
theorem m2_e : (-2 : Int32) = -nI 2 := by decide +kernel
theorem m3_e : (-3 : Int32) = -nI 3 := by decide +kernel
/-- an answer, and nothing changed -/
theorem mP_same {x : Int32} {pm : fx_MI → fx_MJ → fx_MR → Option Value → fx_MI → fx_MJ → fx_MR → Prop} (hr : REL I J Ir) (hm : mP I J r I' J' R' pm) (hp : pm Ir zJ R0_M (some (.int x)) Ir zJ R0_M) : (r = some (.int x) ∧ ∃ b', R' = R0C b') ∧ (REL I' J' Ir ∧ (cW I' = cW I ∧ cH I' = cH I ∧ cC I' = cC I)) ∧ I' 140 = I 140 ∧ I' 141 = I 141 := by
  obtain ⟨⟨hb, hq⟩, hm⟩ := hm
  obtain ⟨h1, h2⟩ := hm Ir hr _ _ hp
  obtain ⟨d1, d2, d3⟩ := REL_dim hr
  obtain ⟨e1, e2, e3⟩ := REL_dim h2
  exact ⟨⟨h1, hb⟩, ⟨h2, e1.trans d1.symm, e2.trans d2.symm, e3.trans d3.symm⟩, hq 140 (by omega), hq 141 (by omega)⟩
theorem LX_same {x : Int32} {pm : fx_MI → fx_MJ → fx_MR → Option Value → fx_MI → fx_MJ → fx_MR → Prop} (hX : LX w h c I J) (hm : mP I J r I' J' R' pm) (hp : ∀ Ir, REL I J Ir → pm Ir zJ R0_M (some (.int x)) Ir zJ R0_M) : (r = some (.int x) ∧ ∃ b', R' = R0C b') ∧ LX w h c I' J' ∧ I' 140 = I 140 ∧ I' 141 = I 141 := by
  obtain ⟨⟨d1, d2, d3⟩, Ir, hr, hR⟩ := hX
  obtain ⟨h1, ⟨h2, e1, e2, e3⟩, h3, h4⟩ := mP_same hr hm (hp Ir hr)
  exact ⟨h1, ⟨⟨e1.trans d1, e2.trans d2, e3.trans d3⟩, Ir, h2, by rw [h3, h4]; exact hR⟩, h3, h4⟩
theorem LX_s (hX : LX w h c I J) : ((1 ≤ w ∧ w ≤ 5) ∧ (1 ≤ h ∧ h ≤ 5) ∧ (1 ≤ c ∧ c ≤ 2)) ∧ (I 140 60 = nI w ∧ I 140 61 = nI h ∧ I 140 62 = nI c) := by
  obtain ⟨-, Ir, hr, hR⟩ := hX
  exact ⟨hR.1.1, hR.1.2.1⟩
theorem LX_rel (hX : LX w h c I J) : relE I J := by
  obtain ⟨-, Ir, hr, -⟩ := hX
  exact ⟨Ir, hr⟩
theorem LX_setClueBad {v : Int32} (hX : LX w h c I J) (hm : mP I J r I' J' R' (post_M_setClue [.ref 0, .int (nI (w + h)), .int v])) : (r = some (.int (-nI 2)) ∧ ∃ b', R' = R0C b') ∧ LX w h c I' J' ∧ I' 140 = I 140 ∧ I' 141 = I 141 := by
  have hs := (LX_s hX).1
  have hd := hX.1
  refine LX_same hX hm fun Ir hr => Or.inl ⟨?_, by rw [m2_e], rfl, rfl, rfl⟩
  rw [inL_e hr, hd.1, hd.2.1]
  exact in_kf (by omega) (by omega) (by omega) (by omega)
theorem LX_setMarkBad {x y : Int32} {k : Nat} (hX : LX w h c I J) (hk : k = 0 ∨ 2 ^ (c + 1) ≤ k) (hk2 : k < 1000) (hm : mP I J r I' J' R' (post_M_setMark [.ref 0, .int x, .int y, .int (nI k)])) : (r = some (.int (-nI 2)) ∧ ∃ b', R' = R0C b') ∧ LX w h c I' J' ∧ I' 140 = I 140 ∧ I' 141 = I 141 := by
  have hs := (LX_s hX).1
  have hd := hX.1
  refine LX_same hX hm fun Ir hr => (show Q_setMark Ir zJ R0_M x y (nI k) _ Ir zJ R0_M from ⟨rfl, rfl, Or.inl ⟨?_, rfl, rfl⟩⟩)
  obtain ⟨-, -, d3⟩ := REL_dim hr
  have hc : rC Ir = c := d3.symm.trans hd.2.2
  have h8 : 2 ^ (c + 1) ≤ 8 := by
    rcases (show c = 1 ∨ c = 2 by omega) with rfl | rfl <;> decide
  have h1 : 1 ≤ 2 ^ (c + 1) := Nat.one_le_two_pow
  rw [hc, lit, in_kf (by omega) (by omega) (by omega) (by omega), Bool.and_false]
theorem LX_addBad {l0 v k : Nat} (hX : LX w h c I J) (hk : v = 9 ∨ k = c + 1) (hv : v < 100) (hm : mP I J r I' J' R' (post_M_addBlock [.ref 0, .int (nI l0), .int (nI v), .int (nI k)])) : (r = some (.int (-nI 2)) ∧ ∃ b', R' = R0C b') ∧ LX w h c I' J' ∧ I' 140 = I 140 ∧ I' 141 = I 141 := by
  have hs := (LX_s hX).1
  have hd := hX.1
  refine LX_same hX hm fun Ir hr => Or.inl ⟨?_, by rw [m2_e], rfl, rfl, rfl⟩
  obtain ⟨-, -, d3⟩ := REL_d hr
  rw [d3, hd.2.2, lit, lit]
  rcases hk with rfl | rfl
  · rw [in_kf (k := 9) (a := 1) (b := 8) (by omega) (by omega) (by omega) (by omega), Bool.and_false, Bool.false_and]
  · rw [in_kf (k := c + 1) (a := 1) (b := c) (by omega) (by omega) (by omega) (by omega), Bool.and_false]
theorem LX_mark {x y : Nat} (hX : LX w h c I J) (hx : x < w) (hy : y < h) (hm : qP I J r I' J' R' (fun w h _ f => mkA w h f (nI x) (nI y))) : (r = some (.int (I 141 (w * y + x))) ∧ ∃ b', R' = R0C b') ∧ LX w h c I' J' ∧ I' 140 = I 140 ∧ I' 141 = I 141 := by
  have hs := (LX_s hX).1
  obtain ⟨⟨d1, d2, d3⟩, Ir, hr, hR⟩ := hX
  obtain ⟨⟨hb, hI⟩, ⟨e1, e2, e3⟩, hq⟩ := hm
  obtain ⟨h1, h2⟩ := hq Ir hr
  have hlt : w * y + x < w * h := by
    have h2 : w * (y + 1) ≤ w * h := Nat.mul_le_mul_left w hy
    rw [Nat.mul_succ] at h2
    omega
  have h3 : hasC w h (nI x) (nI y) = true := by
    unfold hasC
    rw [in_kt (by omega) (by omega) (by omega), in_kt (by omega) (by omega) (by omega)]
    rfl
  refine ⟨⟨?_, hb⟩, ⟨⟨e1.trans d1, e2.trans d2, e3.trans d3⟩, Ir, h2, by rw [hI 140 (by omega), hI 141 (by omega)]; exact hR⟩, hI 140 (by omega), hI 141 (by omega)⟩
  rw [h1, d1, d2]
  show some (Value.int (mkA w h (Ir 1) (nI x) (nI y))) = _
  unfold mkA
  rw [if_pos h3, nv_nI (by omega), nv_nI (by omega), (hR.2.2 _ hlt).1]
/-- at the start: a beginning of 9 by 1 by 1, and an undo -/
theorem st_startBad (hr : REL I J Ir) (hm : mP I J r I' J' R' (post_M_start [.ref 0, .int (nI 9), .int (nI 1), .int (nI 1)])) : (r = some (.int (-nI 2)) ∧ ∃ b', R' = R0C b') ∧ (REL I' J' Ir ∧ (cW I' = cW I ∧ cH I' = cH I ∧ cC I' = cC I)) ∧ I' 140 = I 140 ∧ I' 141 = I 141 := mP_same hr hm (Or.inl ⟨by decide +kernel, by rw [m2_e], rfl, rfl, rfl⟩)
theorem st_undoBad (hr : REL I J Ir) (h0 : nv (Ir 0 2) = 0) (hm : mP I J r I' J' R' (post_M_undo [.ref 0])) : (r = some (.int (-nI 3)) ∧ ∃ b', R' = R0C b') ∧ (REL I' J' Ir ∧ (cW I' = cW I ∧ cH I' = cH I ∧ cC I' = cC I)) ∧ I' 140 = I 140 ∧ I' 141 = I 141 := mP_same hr hm (Or.inl ⟨h0, by rw [m3_e], rfl, rfl, rfl⟩)
theorem st_count {v : Nat} (hr : REL I J Ir) (hd : cW I = 5 ∧ cH I = 5 ∧ cC I = 1) (hv : v < 3) (hm : xPost (post_Out_count 256) [.ref 0, .int (nI v)] I J (R0C b) r I' J' R') : (r = some (.int (if v = 2 then nI 1 else nI 5)) ∧ ∃ b', R' = R0C b') ∧ (REL I' J' Ir ∧ (cW I' = cW I ∧ cH I' = cH I ∧ cC I' = cC I)) ∧ I' 140 = I 140 ∧ I' 141 = I 141 := by
  obtain ⟨⟨hb, hI⟩, he, hq⟩ := xq_count hm
  obtain ⟨h1, h2⟩ := hq Ir hr
  refine ⟨⟨?_, hb⟩, ⟨h2, he⟩, hI 140 (by omega), hI 141 (by omega)⟩
  rw [h1, hd.1, hd.2.1, hd.2.2]
  show some (Value.int (ctA 5 5 1 (Ir 1) (I 12 1) (I 94 1) (nI v))) = _
  congr 2
  unfold ctA
  rw [in_kt (by omega) (by omega) (by omega), if_pos rfl, nv_nI (by omega)]
  rcases (show v = 0 ∨ v = 1 ∨ v = 2 by omega) with rfl | rfl | rfl <;> rfl
end LBAD
