/-! the class's questions about lines, and the digest (own work) -/
section SL_
variable {n : Nat} {b : Bool} {I I' : fx_MI} {J J' : fx_MJ} {R' : fx_MR} {r : Option Value} {v w y : Int32}
theorem si_line (h : post_Out_line n [.ref 0, .int v, .int w] I J (R0C b) r I' J' R') : simP (post_M_line [.ref 0, .int v, .int w]) I J r I' J' R' := by
  obtain ⟨rfl, ⟨b', rfl⟩, hf, h1⟩ := h
  refine ⟨⟨b', rfl⟩, fun Ir hr Jr r2 Ir2 Jr2 Rr2 hq => ?_⟩
  obtain ⟨⟨f1, f2, f3⟩, -⟩ := REL_ref hr
  obtain ⟨hw, hh, hc, -⟩ := dimC_of hr.1.1.1
  have h2 := h1 (Ir 1) hr.2.1
  obtain ⟨rfl, rfl, hl, hq⟩ := Q_line_V hq
  refine ⟨rfl, ?_, REL_q hr (frZ_c hf) (fun _ _ _ => rfl) hr.1.2.2 (frL_eqS hl)⟩
  rw [h2]
  unfold lnA
  rcases hq with ⟨k1, rfl⟩ | ⟨l, k1, rfl, ⟨k2, rfl⟩ | ⟨k, k2, rfl, rfl⟩⟩
  · rw [inL_e hr] at k1
    rw [if_pos (Or.inl k1)]
  · rw [if_pos (Or.inr (show in_M w (nI 0) (nI 4) = false from k2))]
  · rw [f1, f2] at k1
    have e1 : in_M (nI l) (nI 0) (nI (cH I + cW I - 1)) = true := by
      rw [in_k (by omega) (by omega) (by omega), decide_eq_true (by omega), decide_eq_true (by omega)]
      rfl
    have e2 : in_M (nI k) (nI 0) (nI 4) = true := by
      rw [in_k (by omega) (by omega) (by omega), decide_eq_true (by omega), decide_eq_true (by omega)]
      rfl
    rw [if_neg (by rw [e1, e2]; decide), nv_nI (by omega), nv_nI (by omega), f1, f2]
theorem si_block (h : post_Out_block n [.ref 0, .int v, .int w, .int y] I J (R0C b) r I' J' R') : simP (post_M_block [.ref 0, .int v, .int w, .int y]) I J r I' J' R' := by
  obtain ⟨rfl, rfl, hf, h1⟩ := h
  refine ⟨⟨b, rfl⟩, fun Ir hr Jr r2 Ir2 Jr2 Rr2 hq => ?_⟩
  obtain ⟨⟨f1, f2, f3⟩, -⟩ := REL_ref hr
  obtain ⟨hw, hh, hc, -⟩ := dimC_of hr.1.1.1
  have h2 := h1 (Ir 1) hr.2.1
  obtain ⟨rfl, rfl, hl, hq⟩ := Q_block_V hq
  refine ⟨rfl, ?_, REL_q hr (frZ_c hf) (fun _ _ _ => rfl) hr.1.2.2 (frL_eqS hl)⟩
  rw [h2]
  unfold bkA
  rcases hq with ⟨k1, rfl⟩ | ⟨l, k1, rfl, ⟨k2, rfl⟩ | ⟨q, k, k2, k3, rfl, rfl, rfl⟩⟩
  · rw [inL_e hr] at k1
    rw [if_pos (Or.inl k1)]
  · rw [f1, f2] at k1
    rw [nv_nI (by omega), if_pos (Or.inr k2)]
  · rw [f1, f2] at k1
    have h8 := many8 (hr.2.1.1.1 l (by omega)).1
    have e1 : in_M (nI l) (nI 0) (nI (cH I + cW I - 1)) = true := by
      rw [in_k (by omega) (by omega) (by omega), decide_eq_true (by omega), decide_eq_true (by omega)]
      rfl
    have e2 : in_M (nI q) (nI 0) (nI (manyN (Ir 1) l) - nI 1) = true := by
      rw [nI_sub' (by omega), in_k (by omega) (by omega) (by omega), decide_eq_true (by omega), decide_eq_true (by omega)]
      rfl
    have e3 : in_M (nI k) (nI 0) (nI 3) = true := by
      rw [in_k (by omega) (by omega) (by omega), decide_eq_true (by omega), decide_eq_true (by omega)]
      rfl
    rw [nv_nI (by omega), e1, e2, e3, if_neg (by decide), nv_nI (by omega), nv_nI (by omega), f1, f2]
theorem si_digest (h : post_Out_digest n [.ref 0] I J (R0C b) r I' J' R') : simP (post_M_digest [.ref 0]) I J r I' J' R' := by
  obtain ⟨rfl, ⟨b', rfl⟩, hf, x, rfl, h1⟩ := h
  refine ⟨⟨b', rfl⟩, fun Ir hr Jr r2 Ir2 Jr2 Rr2 hq => ?_⟩
  obtain ⟨⟨f1, f2, f3⟩, -⟩ := REL_ref hr
  obtain ⟨hw, hh, hc, -⟩ := dimC_of hr.1.1.1
  obtain ⟨g1, g2, g3⟩ := REL_d hr
  obtain ⟨rfl, hl, -, rfl⟩ := hq
  refine ⟨rfl, ?_, REL_q hr (frZ_c hf) (fun _ _ _ => rfl) hr.1.2.2 (frL_eqS hl)⟩
  have h2 := h1 (Ir 1) hr.2.1
  obtain ⟨nx, u, n1, n2, n3, n4, n5, n6⟩ := hr.2.2.1
  obtain ⟨⟨t0, t1⟩, t2, t3⟩ := hr.2.2.2.1
  obtain ⟨m1, m2, m3, m4⟩ := hr.2.2.2.2
  have hfc : ∀ (g g' : Nat → Int32) (z : Int64) (k : Nat), (∀ i, i < k → g i = g' i) → fold g z k = fold g' z k := by
    intro g g' z k
    induction k with
    | zero => exact fun _ => rfl
    | succ k ih =>
      intro he
      show mixL (fold g z k) (g k) = mixL (fold g' z k) (g' k)
      rw [ih (fun i hi => he i (by omega)), he k (by omega)]
  rw [h2, f1, f2, f3]
  unfold dg5 dg4 dg3 dg2 dg1 digV
  rw [t2, n4, ← n5, m1]
  congr 2
  rw [hfc (I 95) (Ir 10) _ (nv (Ir 0 19)) (fun i hi => t3 i hi)]
  congr 1
  dsimp only
  by_cases h0 : Ir 0 6 = nI 0
  · rw [if_pos h0, if_pos h0]
  · rw [if_neg h0, if_neg h0]
    obtain ⟨⟨k, k1, k2, k3⟩, ⟨k4, -⟩, k5⟩ := m4 h0
    have hdm := idx_dm (k := k) hw
    obtain ⟨hm, hd⟩ := k_dm k1
    have hwh := wh_le hw.2 hh.2
    refine hfc _ _ _ _ fun i hi => ?_
    unfold hnK hintV
    rw [m1, k2, k3, k4, k5, nv_nI (show idxK (cW I) k < 2 ^ 31 by omega), nv_nI (show k < 2 ^ 31 by omega), hdm.1, hdm.2]
end SL_
