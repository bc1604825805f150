/-! lines' answers out of the class's memory (own work) -/
theorem CNT_ex {w h : Nat} {f : Nat → Int32} {l : Nat} (hok : okl 3 f l) (h8 : cellsN w h l ≤ 8) : ∃ N, CNT w h f l N := by
  have key : ∀ c, ∃ N e, EN w h f l N e (fun x => x < c) := by
    intro c
    induction c with
    | zero => exact ⟨0, fun _ _ => 0, EN_0 fun s _ z => absurd z (Nat.not_lt_zero _)⟩
    | succ c ih =>
      obtain ⟨N, e, he⟩ := ih
      by_cases hx : ∃ s, vld f l (cellsN w h l) s ∧ fitN w h f l s ∧ cd s (manyN f l) = c
      · obtain ⟨s, h1, h2, h3⟩ := hx
        subst h3
        exact ⟨N + 1, _, EN_cong (fun t _ => by omega) (EN_fit hok h8 h1 h2 he)⟩
      · refine ⟨N, e, fun k hk => ?_, he.2.1, fun t h1 h2 h3 => he.2.2 t h1 h2 ?_⟩
        · have := he.1 k hk
          exact ⟨this.1, this.2.1, Nat.lt_succ_of_lt this.2.2⟩
        · rcases Nat.lt_or_ge (cd t (manyN f l)) c with h4 | h4
          · exact h4
          · exact absurd ⟨t, h1, h2, by omega⟩ hx
  obtain ⟨N, e, he⟩ := key (16 ^ manyN f l)
  refine ⟨N, e, EN_cong (fun s hs => ⟨fun _ => trivial, fun _ => cd_bound fun i hi => ?_⟩) he⟩
  have := vld_16 hok hs hi
  omega
theorem CNu_uc {w h l N : Nat} {f : Nat → Int32} {u u' : Nat → Nat} (hw : w ≤ 8) (hh : h ≤ 8) (hl : l < h + w) (he : ∀ k, k < w * h → u k = u' k) (h1 : CNu w h f u l N) : CNu w h f u' l N := by
  obtain ⟨e, h2⟩ := h1
  exact ⟨e, ENS_cong (fun s => PF_uc hw hh hl he) (fun _ => Iff.rfl) h2⟩
section LM_
variable {I : fx_MI} {J : fx_MJ} {f : Nat → Int32} {l : Nat}
theorem cnt_C {N : Nat} (hd : dimC I) (hl : l < cH I + cW I) (hs : sR (cW I) (cH I) (cC I) I J 2 f) (hN : CNu (cW I) (cH I) (cf I 3) (cu (cW I) J 8) l N) : cntF (cW I) (cH I) f l = N := by
  obtain ⟨hw, hh, hc, -⟩ := dimC_of hd
  obtain ⟨-, -, -, -, hu, hq⟩ := sR_pre hd hs
  have hok := okl_3c (by omega) (hs.1.1 l (by omega)).1
  have hn := cellsN_le (l := l) hw.2 hh.2
  obtain ⟨M, hM⟩ := CNT_ex hok hn
  rw [cntF_eq hM]
  have h1 := CNu_uc hw.2 hh.2 hl hu (CNT_u hok hn hM)
  exact CNu_one ((cq_CNu (hq l (by omega))).mpr h1) hN
theorem prW_C (hd : dimC I) (hl : l < cH I + cW I) (hs : sR (cW I) (cH I) (cC I) I J 2 f) : ∀ {k : Nat}, k ≤ cellsN (cW I) (cH I) l → prW (cW I) (cH I) (cu (cW I) J 8) l k = prN (cW I) (cH I) f l k
  | 0, _ => rfl
  | k + 1, hk => by
    obtain ⟨hw, hh, hc, -⟩ := dimC_of hd
    obtain ⟨-, -, -, -, hu, hq⟩ := sR_pre hd hs
    show prW _ _ _ l k * bc _ = prN _ _ f l k * bc _
    rw [prW_C hd hl hs (k := k) (by omega), hu _ (atN_lt hw.2 hh.2 hl (by omega))]
theorem dbt_iff {w x y o : Nat} (hx : x < w) : lb (dbt (J (o + 1))) (8 * y + x) = true ↔ 1 < bc (cu w J o (w * y + x)) := by
  have e := dm_ (w := w) (l := y) hx
  have hu : cu w J o (w * y + x) = mskF 4 (fun c => lb (J (o + 1) c) (8 * y + x)) := by
    unfold cu
    rw [e.1, e.2]
  have hbc : ∀ g : Nat → Bool, ((g 0 && g 1 || g 2 && g 3) || (g 0 || g 1) && (g 2 || g 3)) = true ↔ 1 < bc (mskF 4 g) := fun g => by
    simp only [mskF]
    cases g 0 <;> cases g 1 <;> cases g 2 <;> cases g 3 <;> decide
  rw [hu, ← hbc]
  unfold dbt
  simp only [l_or, l_and]
theorem dbt_out {w h o i : Nat} (hz : lyO w h J o) (hi : i < 64) (hb : lb (dbt (J (o + 1))) i = true) : i % 8 < w ∧ i / 8 < h := by
  unfold dbt at hb
  simp only [l_or, l_and, Bool.or_eq_true, Bool.and_eq_true] at hb
  rcases hb with (⟨h1, -⟩ | ⟨h1, -⟩) | ⟨h1 | h1, -⟩
  · exact hz 0 (by omega) i hi h1
  · exact hz 2 (by omega) i hi h1
  · exact hz 0 (by omega) i hi h1
  · exact hz 1 (by omega) i hi h1
theorem one_u (hd : dimC I) (hs : sR (cW I) (cH I) (cC I) I J 2 f) {k : Nat} (hk : k < cW I * cH I) : one (f (288 + k)) = if 1 < bc (cu (cW I) J 8 k) then 0 else 1 := by
  obtain ⟨hw, hh, hc, -⟩ := dimC_of hd
  have hwh := wh_le hw.2 hh.2
  have h1 := (okp_16 (by omega) hs.2.2.2 (show k < 64 by omega)).2.1
  have hm : f (288 + k) = nI (cu (cW I) J 8 k) := hs.2.1.2.2 k hk
  have hu16 := cu_16 (w := cW I) (J := J) (o := 8) (k := k)
  rw [hm, nv_nI (by omega)] at h1
  rw [hm]
  have h2 := one_bc _ hu16
  have h3 := bc_pos _ hu16 h1
  have h4 := one_le (nI (cu (cW I) J 8 k))
  by_cases h5 : 1 < bc (cu (cW I) J 8 k)
  · rw [if_pos h5]
    have : ¬ one (nI (cu (cW I) J 8 k)) = 1 := fun z => by have := h2.mp z; omega
    omega
  · rw [if_neg h5]
    exact h2.mpr (by omega)
theorem pop_8 {g : Nat → Bool} : pop 32 (bt (nI (mskF 8 g))) = pop 8 g := by
  have h8 := mskF_lt 8 g
  have e : ∀ i, i < 32 → bt (nI (mskF 8 g)) i = (g i && decide (i < 8)) := fun i hi => by
    rw [b_nI hi, mskF_bit, Bool.and_comm]
  rw [pop_c e, pop_cut (by omega)]
theorem kn_C (hd : dimC I) (hl : l < cH I + cW I) (hs : sR (cW I) (cH I) (cC I) I J 2 f) : pop 8 (fun i => lb (dbt (J 9)) (if l < cH I then 8 * l + i else 8 * i + (l - cH I))) + knownN (cW I) (cH I) f l (cellsN (cW I) (cH I) l) = cellsN (cW I) (cH I) l := by
  obtain ⟨hw, hh, hc, -⟩ := dimC_of hd
  have hn := cellsN_le (l := l) hw.2 hh.2
  have hz := hs.2.1.1
  have hplc : ∀ i, (if l < cH I then 8 * l + i else 8 * i + (l - cH I)) = plc (cH I) l i := fun i => rfl
  have key : ∀ k, k ≤ cellsN (cW I) (cH I) l → pop k (fun i => lb (dbt (J 9)) (plc (cH I) l i)) + knownN (cW I) (cH I) f l k = k := by
    intro k
    induction k with
    | zero => exact fun _ => rfl
    | succ k ih =>
      intro hk
      have h1 := ih (by omega)
      have hat := atN_lt hw.2 hh.2 hl (show k < cellsN (cW I) (cH I) l by omega)
      have hdm := atN_dm hl (show k < cellsN (cW I) (cH I) l by omega)
      obtain ⟨hm, hdd⟩ := k_dm hat
      have hb := dbt_iff (J := J) (o := 8) (y := atN (cW I) (cH I) l k / cW I) hm
      rw [hdm, Nat.div_add_mod] at hb
      show (pop k _ + (if lb (dbt (J 9)) (plc (cH I) l k) = true then 1 else 0)) + (knownN _ _ f l k + one (f (288 + atN (cW I) (cH I) l k))) = k + 1
      rw [one_u hd hs hat]
      by_cases h5 : 1 < bc (cu (cW I) J 8 (atN (cW I) (cH I) l k))
      · rw [if_pos h5, if_pos (hb.mpr h5)]
        omega
      · rw [if_neg h5, if_neg (fun z => h5 (hb.mp z))]
        omega
  have hz8 : ∀ d, cellsN (cW I) (cH I) l + d ≤ 8 → pop (cellsN (cW I) (cH I) l + d) (fun i => lb (dbt (J 9)) (plc (cH I) l i)) = pop (cellsN (cW I) (cH I) l) (fun i => lb (dbt (J 9)) (plc (cH I) l i)) := by
    intro d
    induction d with
    | zero => exact fun _ => rfl
    | succ d ih =>
      intro hd8
      show pop (cellsN (cW I) (cH I) l + d) _ + (if lb (dbt (J 9)) (plc (cH I) l (cellsN (cW I) (cH I) l + d)) = true then 1 else 0) = _
      rw [ih (by omega), if_neg (fun z => ?_), Nat.add_zero]
      have hlt : plc (cH I) l (cellsN (cW I) (cH I) l + d) < 64 := by
        unfold plc
        split <;> omega
      have := dbt_out (o := 8) hz hlt z
      unfold plc cellsN at this
      by_cases h1 : l < cH I
      · simp only [if_pos h1] at this
        unfold cellsN at hd8
        rw [if_pos h1] at hd8
        omega
      · simp only [if_neg h1] at this
        unfold cellsN at hd8
        rw [if_neg h1] at hd8
        omega
  have h9 := hz8 (8 - cellsN (cW I) (cH I) l) (by omega)
  rw [show cellsN (cW I) (cH I) l + (8 - cellsN (cW I) (cH I) l) = 8 by omega] at h9
  have h10 := key _ (Nat.le_refl _)
  show pop 8 (fun i => lb (dbt (J 9)) (plc (cH I) l i)) + _ = _
  rw [h9]
  exact h10
end LM_
