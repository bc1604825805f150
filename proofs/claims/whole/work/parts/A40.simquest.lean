/-! the class's questions answer as the reference's (own work) -/
section SQ_
variable {n : Nat} {b : Bool} {I I' : fx_MI} {J J' : fx_MJ} {R' : fx_MR} {r : Option Value} {v w : Int32}
theorem hasC_e {Ir : fx_MI} (hr : REL I J Ir) : (in_M v 0 (Ir 0 3 - 1) && in_M w 0 (Ir 0 4 - 1)) = hasC (cW I) (cH I) v w := by
  obtain ⟨hw, hh, hc, -⟩ := dimC_of hr.1.1.1
  obtain ⟨g1, g2, g3⟩ := REL_d hr
  unfold hasC
  rw [g1, g2, lit, lit, nI_sub' (by omega), nI_sub' (by omega)]
theorem si_picture (h : post_Out_picture n [.ref 0, .int v, .int w] I J (R0C b) r I' J' R') : simP (post_M_picture [.ref 0, .int v, .int w]) I J r I' J' R' := by
  obtain ⟨rfl, rfl, rfl, h1⟩ := h
  refine ⟨⟨b, rfl⟩, fun Ir hr Jr r2 Ir2 Jr2 Rr2 hq => ?_⟩
  have h2 := h1 (Ir 1) hr.2.1
  obtain ⟨hw, hh, hc, -⟩ := dimC_of hr.1.1.1
  obtain ⟨g1, g2, g3⟩ := REL_d hr
  have he := hasC_e (v := v) (w := w) hr
  unfold pcA at h2
  rcases hq with ⟨k1, k2, rfl, rfl, rfl, rfl⟩ | ⟨k1, rfl, rfl, rfl, rfl⟩
  · rw [k1, k2] at he
    rw [if_pos (show hasC (cW I') (cH I') v w = true from he.symm)] at h2
    rw [h2, g1, nv_nI (by omega), Nat.add_assoc]
    exact ⟨rfl, rfl, hr⟩
  · rw [k1] at he
    rw [← he, if_neg (by decide)] at h2
    rw [h2]
    exact ⟨rfl, rfl, hr⟩
theorem si_mark (h : post_Out_mark n [.ref 0, .int v, .int w] I J (R0C b) r I' J' R') : simP (post_M_mark [.ref 0, .int v, .int w]) I J r I' J' R' := by
  obtain ⟨rfl, rfl, rfl, h1⟩ := h
  refine ⟨⟨b, rfl⟩, fun Ir hr Jr r2 Ir2 Jr2 Rr2 hq => ?_⟩
  have h2 := h1 (Ir 1) hr.2.1
  obtain ⟨hw, hh, hc, -⟩ := dimC_of hr.1.1.1
  obtain ⟨⟨f1, f2, f3⟩, -⟩ := REL_ref hr
  have he := inC_e hr v w
  unfold mkA at h2
  rcases hq with ⟨k1, rfl, rfl, rfl, rfl⟩ | ⟨a, d, k1, k2, rfl, rfl, rfl, rfl, rfl, rfl⟩
  · rw [← he, k1, if_neg (by decide)] at h2
    rw [h2]
    exact ⟨rfl, rfl, hr⟩
  · rw [f1] at k1
    rw [f2] at k2
    have hc2 : hasC (cW I') (cH I') (nI a) (nI d) = true := by
      unfold hasC
      rw [in_k (by omega) (by omega) (by omega), in_k (by omega) (by omega) (by omega), decide_eq_true (by omega), decide_eq_true (by omega), decide_eq_true (by omega), decide_eq_true (by omega)]
      rfl
    rw [if_pos hc2, nv_nI (by omega), nv_nI (by omega)] at h2
    rw [h2, f1]
    exact ⟨rfl, rfl, hr⟩
theorem si_mistakes (h : post_Out_mistakes n [.ref 0] I J (R0C b) r I' J' R') : simP (post_M_mistakes [.ref 0]) I J r I' J' R' := by
  obtain ⟨rfl, rfl, rfl, h1⟩ := h
  refine ⟨⟨b, rfl⟩, fun Ir hr Jr r2 Ir2 Jr2 Rr2 hq => ?_⟩
  obtain ⟨⟨f1, f2, f3⟩, -⟩ := REL_ref hr
  obtain ⟨rfl, rfl, rfl, rfl⟩ := hq
  rw [f1, f2, h1, misN_C hr.1.1.1 hr.2.1]
  exact ⟨rfl, rfl, hr⟩
theorem si_hinted (h : post_Out_hinted n [.ref 0, .int v] I J (R0C b) r I' J' R') : simP (post_M_hinted [.ref 0, .int v]) I J r I' J' R' := by
  obtain ⟨rfl, rfl, rfl, h1⟩ := h
  refine ⟨⟨b, rfl⟩, fun Ir hr Jr r2 Ir2 Jr2 Rr2 hq => ?_⟩
  obtain ⟨hw, hh, hc, -⟩ := dimC_of hr.1.1.1
  obtain ⟨g1, g2, g3⟩ := REL_d hr
  obtain ⟨rfl, rfl, rfl, rfl⟩ := hq
  obtain ⟨m1, m2, m3, m4⟩ := hr.2.2.2.2
  refine ⟨rfl, ?_, hr⟩
  rw [h1]
  unfold hnA
  by_cases hin : in_M v (nI 0) (nI 4) = true
  · rw [if_pos hin, if_pos (show in_M v 0 4 = true from hin), m1]
    by_cases h0 : Ir2 0 6 = nI 0
    · rw [if_pos h0, if_pos h0]
    · rw [if_neg h0, if_neg h0]
      obtain ⟨⟨k, k1, k2, k3⟩, ⟨k4, -⟩, k5⟩ := m4 h0
      have hdm := idx_dm (k := k) hw
      obtain ⟨hm, hd⟩ := k_dm k1
      have hwh := wh_le hw.2 hh.2
      rw [k2, k3, k4, k5, g1, nv_nI (show idxK (cW I') k < 2 ^ 31 by omega), nv_nI (show k < 2 ^ 31 by omega), nv_nI (show cW I' < 2 ^ 31 by omega), hdm.1, hdm.2]
  · rw [if_neg hin, if_neg (show ¬ in_M v 0 4 = true from hin)]
theorem si_count (h : post_Out_count n [.ref 0, .int v] I J (R0C b) r I' J' R') : simP (post_M_count [.ref 0, .int v]) I J r I' J' R' := by
  obtain ⟨rfl, rfl, hf, h1⟩ := h
  refine ⟨⟨b, rfl⟩, fun Ir hr Jr r2 Ir2 Jr2 Rr2 hq => ?_⟩
  obtain ⟨⟨f1, f2, f3⟩, -⟩ := REL_ref hr
  obtain ⟨rfl, rfl, hl, rfl⟩ := hq
  rw [f1, f2, f3, h1 (Ir 1) hr.2.1]
  obtain ⟨nx, u, n1, n2, n3, n4, n5, n6⟩ := hr.2.2.1
  refine ⟨rfl, ?_, REL_q hr (frZ_c hf) (fun _ _ _ => rfl) hr.1.2.2 (frL_eqS hl)⟩
  unfold ctA
  rw [n4, ← n5, hr.2.2.2.1.2.1]
  rfl
end SQ_
