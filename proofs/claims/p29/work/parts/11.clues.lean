/-! the reference: clues -/
/-- within bounds, as naturals -/
theorem in_t {x : Int32} {a b : Nat} (hb : b < 2 ^ 31) (ha : a < 2 ^ 31) (h : in_M x (nI a) (nI b) = true) : ∃ n, a ≤ n ∧ n ≤ b ∧ x = nI n := by
  simp only [in_M, Bool.and_eq_true, Bool.not_eq_true', decide_eq_false_iff_not] at h
  have h0 : ¬ x < 0 := fun z => h.1 (by
    rw [Int32.lt_iff_toInt_lt] at z ⊢
    rw [nI_toInt ha]
    rw [Int32.toInt_zero] at z
    omega)
  obtain ⟨n, hn, rfl⟩ := nI_of h0
  rw [nI_lt' hn ha, nI_lt' hb hn] at h
  exact ⟨n, by omega, by omega, rfl⟩
def dimM (I : fx_MI) : Prop := (rg (I 0 3) 9 ∧ rg (I 0 4) 9 ∧ rg (I 0 5) 4) ∧ 1 ≤ nv (I 0 3) ∧ 1 ≤ nv (I 0 4) ∧ 1 ≤ nv (I 0 5)
theorem dimM_eq {I : fx_MI} (h : dimM I) : ∃ w h c : Nat, (1 ≤ w ∧ w ≤ 8) ∧ (1 ≤ h ∧ h ≤ 8) ∧ (1 ≤ c ∧ c ≤ 3) ∧ I 0 3 = nI w ∧ I 0 4 = nI h ∧ I 0 5 = nI c := by
  obtain ⟨⟨⟨w, hw, e1⟩, ⟨h', hh, e2⟩, c, hc, e3⟩, h1, h2, h3⟩ := h
  rw [e1, nv_nI (by omega)] at h1
  rw [e2, nv_nI (by omega)] at h2
  rw [e3, nv_nI (by omega)] at h3
  exact ⟨w, h', c, ⟨h1, by omega⟩, ⟨h2, by omega⟩, ⟨h3, by omega⟩, e1, e2, e3⟩
