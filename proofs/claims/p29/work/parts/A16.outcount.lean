/-! the class: mistakes, count (own work) -/
theorem sm_pop {P : Nat → Bool} {f : Nat → Nat} {n : Nat} (h : ∀ k, k < n → f k = if P k = true then 1 else 0) : sm f n = pop n P := by
  induction n with
  | zero => rfl
  | succ n ih =>
    show sm f n + f n = pop n P + _
    rw [ih (fun k hk => h k (by omega)), h n (by omega)]
section OM_
variable {I : fx_MI} {J : fx_MJ} {f : Nat → Int32}
/-- known cells -/
theorem kc_C (hd : dimC I) (ha : allC I J) (hs : sR (cW I) (cH I) (cC I) I J 2 f) : pop 64 (lb (J 1 3 &&& (dbt (J 9) ^^^ -1))) = kcN f (cW I * cH I) := by
  obtain ⟨hw, hh, hc, -⟩ := dimC_of hd
  have hwh := wh_le hw.2 hh.2
  have e1 : pop 64 (lb (J 1 3 &&& (dbt (J 9) ^^^ -1))) = pop 64 (fun i => lb (J 1 3) i && !lb (dbt (J 9)) i && decide (i < 64)) := pop_c fun i hi => by
    rw [l_and, l_xor, l_m1 i hi, decide_eq_true hi, Bool.and_true, Bool.xor_true]
  rw [e1, pop_idx hw hh.2 (fun i hb => by
    rw [Bool.and_eq_true, Bool.and_eq_true, decide_eq_true_eq] at hb
    exact (ha i hb.2).mp hb.1.1)]
  unfold kcN
  refine sm_cong fun k hk => ?_
  have hdm := idx_dm (k := k) hw
  have hkd := k_dm hk
  have hi64 : idxK (cW I) k < 64 := by omega
  rw [one_u hd hs hk]
  have h1 : lb (J 1 3) (idxK (cW I) k) = true := (ha _ hi64).mpr (by omega)
  have h2 := dbt_iff (J := J) (o := 8) (y := k / cW I) hkd.1
  rw [Nat.div_add_mod, show 8 * (k / cW I) + k % cW I = idxK (cW I) k from rfl] at h2
  rw [h1, decide_eq_true hi64, Bool.and_true, Bool.true_and]
  by_cases h5 : 1 < bc (cu (cW I) J 8 k)
  · rw [if_pos h5, h2.mpr h5]
    rfl
  · rw [if_neg h5, bnt (fun z => h5 (h2.mp z))]
    rfl
/-- filled cells -/
theorem pt_C (hd : dimC I) (ha : allC I J) (hs : sR (cW I) (cH I) (cC I) I J 2 f) : pop 64 (lb (J 1 3 &&& (J 11 0 ^^^ -1))) = ptN f (cW I * cH I) := by
  obtain ⟨hw, hh, hc, -⟩ := dimC_of hd
  have hwh := wh_le hw.2 hh.2
  have e1 : pop 64 (lb (J 1 3 &&& (J 11 0 ^^^ -1))) = pop 64 (fun i => lb (J 1 3) i && !lb (J 11 0) i && decide (i < 64)) := pop_c fun i hi => by
    rw [l_and, l_xor, l_m1 i hi, decide_eq_true hi, Bool.and_true, Bool.xor_true]
  rw [e1, pop_idx hw hh.2 (fun i hb => by
    rw [Bool.and_eq_true, Bool.and_eq_true, decide_eq_true_eq] at hb
    exact (ha i hb.2).mp hb.1.1)]
  unfold ptN
  refine sm_cong fun k hk => ?_
  have hdm := idx_dm (k := k) hw
  have hkd := k_dm hk
  have hi64 : idxK (cW I) k < 64 := by omega
  have h1 : lb (J 1 3) (idxK (cW I) k) = true := (ha _ hi64).mpr (by omega)
  have hv := picv (by omega) hs.2.2.2 (show k < 64 by omega)
  have h2 := pc_at hw hh.2 hs.2.2.1 hk (show 0 < 4 by omega)
  rw [h1, decide_eq_true hi64, Bool.and_true, Bool.true_and, hv.1]
  unfold pos1
  by_cases h5 : picN f k = 0
  · have h6 : nI (picN f k) ≤ nI 0 := by
      rw [nI_le' (by omega) (by omega)]
      omega
    rw [h2.mpr h5]
    exact (if_pos h6).symm
  · have h6 : ¬ nI (picN f k) ≤ nI 0 := by
      rw [nI_le' (by omega) (by omega)]
      omega
    rw [bnt (fun z => h5 (h2.mp z))]
    exact (if_neg h6).symm
theorem cl_C (hd : dimC I) (hs : sR (cW I) (cH I) (cC I) I J 2 f) : pop 32 (bt (I 3 0)) = sm (fun l => lwN (cW I) (cH I) f 0 l) (cH I + cW I) := by
  obtain ⟨hw, hh, hc, -⟩ := dimC_of hd
  have e1 : pop 32 (bt (I 3 0)) = pop 32 (fun i => bt (I 3 0) i && decide (i < cH I + cW I)) := pop_c fun i hi => by
    cases hx : bt (I 3 0) i
    · rfl
    · rw [decide_eq_true (hs.1.2.1 i hx)]
      rfl
  rw [e1, pop_cut (by omega)]
  refine (sm_pop fun l hl => ?_).symm
  have hb := has_b (show l < 16 by omega) hs
  unfold lwN
  have e2 : (f l = nI 1 ∧ (0 = 0 ∨ fitP (cW I) (cH I) f l)) ↔ bt (I 3 0) l = true := by
    rw [hb.1, hb.2]
    simp
  have e3 := b01C_c e2
  cases hx : bt (I 3 0) l
  · rw [hx] at e3
    refine e3.trans ?_
    exact if_neg (by decide)
  · rw [hx] at e3
    refine e3.trans ?_
    exact if_pos rfl
theorem bl_C (hd : dimC I) (hs : sR (cW I) (cH I) (cC I) I J 2 f) : smN 16 (fun i => nv (I 4 i)) = blN f (cH I + cW I) := by
  obtain ⟨hw, hh, hc, -⟩ := dimC_of hd
  have e : ∀ l, l < 16 → nv (I 4 l) = manyN f l := fun l hl => by
    obtain ⟨g1, g2, g3, g4⟩ := hs.1.1 l hl
    rw [cf_sz hl] at g3
    rw [g3]
    rfl
  have hz : ∀ l, l < 16 → cH I + cW I ≤ l → manyN f l = 0 := fun l hl h2 => by
    obtain ⟨g1, g2, g3, g4⟩ := hs.1.1 l hl
    have hb := has_b hl hs
    have h0 : f l = nI 0 := Classical.byContradiction fun z => by
      have := hs.1.2.1 l (hb.1.mpr z)
      omega
    unfold manyN
    rw [g1.2.2.1 h0]
    rfl
  have e2 : ∀ n, n ≤ 16 → smN n (fun i => nv (I 4 i)) = sm (fun l => manyN f l) n := by
    intro n
    induction n with
    | zero => exact fun _ => rfl
    | succ n ih =>
      intro hn
      show smN n _ + nv (I 4 n) = sm _ n + manyN f n
      rw [ih (by omega), e n (by omega)]
  have e3 : ∀ d, cH I + cW I + d ≤ 16 → sm (fun l => manyN f l) (cH I + cW I + d) = sm (fun l => manyN f l) (cH I + cW I) := by
    intro d
    induction d with
    | zero => exact fun _ => rfl
    | succ d ih =>
      intro hd16
      show sm _ (cH I + cW I + d) + manyN f (cH I + cW I + d) = _
      rw [ih (by omega), hz _ (by omega) (by omega)]
      rfl
  rw [e2 16 (Nat.le_refl _)]
  have := e3 (16 - (cH I + cW I)) (by omega)
  rw [show cH I + cW I + (16 - (cH I + cW I)) = 16 by omega] at this
  exact this
end OM_
