/-! the class: the tables of a line are an automaton (own work) -/
section AV
variable {w h : Nat} {f : Nat → Int32} {u : Nat → Nat} {l : Nat} {I : fx_MI}
theorem nxF_b (hs : rwS w h f u l I) {i c t t' : Nat} (hc : c < 4) (ht : t < 32) (ht' : t' < 32) : bt (nxF I i c t) t' = true ↔ stp f l c t t' ∧ bt (I 134 (i + 1)) t' = true := by
  unfold nxF
  rw [b_and, Bool.and_eq_true, fl_b hs hc ht']
  refine and_congr_left fun _ => ⟨fun ⟨t0, h1, h2, h3⟩ => ?_, fun h => ⟨t, ht, ?_, h⟩⟩
  · have o1 : bt (nI 1 <<< (nI t &&& nI 31)) t0 = decide (t0 = t) := bt_one ht h1
    rw [o1, decide_eq_true_eq] at h2
    rw [← h2]
    exact h3
  · have o1 : bt (nI 1 <<< (nI t &&& nI 31)) t = decide (t = t) := bt_one ht ht
    rw [o1]
    exact decide_eq_true rfl
theorem tok_iff (hA : okA w h f l) (hs : rwS w h f u l I) {i c t : Nat} (hc : c < 4) (ht : t < 32) : tok I i t c = true ↔ cnB w h u l c i ∧ ∃ t', stp f l c t t' ∧ Pst I (i + 1) t' := by
  unfold tok
  rw [Bool.and_eq_true, cn_b hA.2.1 hs hc, Bool.not_eq_true', decide_eq_false_iff_not]
  refine and_congr_right fun _ => ⟨fun h => ?_, fun ⟨t', h1, h2, h3⟩ z => ?_⟩
  · refine Classical.byContradiction fun hno => h (b_ext fun j hj => ?_)
    rw [b_00]
    refine bnt fun z => hno ?_
    obtain ⟨g1, g2⟩ := (nxF_b hs hc ht hj).mp z
    exact ⟨j, g1, hj, g2⟩
  · have := (nxF_b hs hc ht h2).mpr ⟨h1, h3⟩
    rw [z, b_00] at this
    cases this
theorem nx_pop (hA : okA w h f l) (hs : rwS w h f u l I) {i c t t' : Nat} (hi : i < cellsN w h l) (hc : c < 4) (ht : t < 32) (h1 : stp f l c t t') (h2 : Pst I (i + 1) t') : pop 32 (bt (I 134 (i + 1) &&& (nxF I i c t - nI 1))) = pop t' (bt (I 134 (i + 1))) := by
  have hr := P_rg hA hs (d := cellsN w h l - (i + 1)) (by omega) h2
  have hn8 := hA.2.1
  have e : nxF I i c t = nI 1 <<< (nI t' &&& nI 31) := by
    refine b_ext fun j hj => ?_
    have o1 : bt (nI 1 <<< (nI t' &&& nI 31)) j = decide (j = t') := bt_one h2.1 hj
    rw [o1]
    by_cases hjt : j = t'
    · rw [decide_eq_true hjt, hjt]
      exact (nxF_b hs hc ht h2.1).mpr ⟨h1, h2.2⟩
    · rw [decide_eq_false hjt]
      refine bnt fun z => hjt ?_
      exact stp_det hA.1 ((nxF_b hs hc ht hj).mp z).1 h1
  rw [e, pop_c (g := fun j => bt (I 134 (i + 1)) j && decide (j < t')) (fun j hj => by rw [b_and, b_cells _ (by omega) j hj]), pop_cut (by have := h2.1; omega)]
theorem P_pop {I : fx_MI} {p t : Nat} (hP : Pst I p t) : pop t (bt (I 134 p)) < pop 32 (bt (I 134 p)) := by
  have h1 := pop_m (g := bt (I 134 p)) (show t + 1 ≤ 32 by have := hP.1; omega)
  have e : pop (t + 1) (bt (I 134 p)) = pop t (bt (I 134 p)) + if bt (I 134 p) t = true then 1 else 0 := rfl
  rw [if_pos hP.2] at e
  omega
theorem P_bound (hA : okA w h f l) (hs : rwS w h f u l I) {p : Nat} (hp : p ≤ cellsN w h l) : pop 32 (bt (I 134 p)) ≤ p + 1 ∧ pop 32 (bt (I 134 p)) ≤ cellsN w h l - p + 1 := by
  have h1 : ∀ t, t < 32 → bt (I 134 p) t = true → t ≤ p ∧ t ≤ roomN f l (manyN f l) ∧ roomN f l (manyN f l) ≤ t + (cellsN w h l - p) := fun t ht hb => P_rg hA hs (d := cellsN w h l - p) (by omega) ⟨ht, hb⟩
  have h2 := pop_range (g := bt (I 134 p)) (a := 0) (c := p + 1) (n := 32) (fun t ht hb => by have := h1 t ht hb; omega)
  have h3 := pop_range (g := bt (I 134 p)) (a := roomN f l (manyN f l) - (cellsN w h l - p)) (c := roomN f l (manyN f l) + 1) (n := 32) (fun t ht hb => by have := h1 t ht hb; omega)
  omega
theorem way_P (hA : okA w h f l) (hs : rwS w h f u l I) {p t : Nat → Nat} (hp : ∀ i, i < cellsN w h l → p (atN w h l i) < 4) (hc : ∀ i, i < cellsN w h l → cnB w h u l (p (atN w h l i)) i) (hw : wayS w h f l p t) : ∀ i, i ≤ cellsN w h l → Pst I i (t i) := by
  obtain ⟨t0, ts, tn⟩ := hw
  have hn8 := hA.2.1
  have hle : ∀ i, i ≤ cellsN w h l → t i ≤ i := by
    intro i
    induction i with
    | zero =>
      intro _
      rw [t0]
      exact Nat.le_refl _
    | succ i ih =>
      intro hi
      have h1 := stp_le hA.1 hA.2.2.1 (ts i (by omega))
      have := ih (by omega)
      omega
  have hF : ∀ i, i ≤ cellsN w h l → bt (FWI (I 133) (I 131) (I 132) i) (t i) = true := by
    intro i
    induction i with
    | zero =>
      intro _
      rw [t0]
      show bt (nI 1) 0 = true
      decide
    | succ i ih =>
      intro hi
      have h1 := hle (i + 1) hi
      have h2 := hle i (by omega)
      exact (bh_b hn8 hs (by omega)).mpr ⟨_, t i, hp i (by omega), by omega, hc i (by omega), ih (by omega), ts i (by omega)⟩
  have hB : ∀ d i, i + d = cellsN w h l → Pst I i (t i) := by
    intro d
    induction d with
    | zero =>
      intro i hi
      rw [Nat.add_zero] at hi
      rw [hi]
      exact (P_n hA hs).mpr ⟨tn, hF _ (Nat.le_refl _)⟩
    | succ d ih =>
      intro i hi
      have h2 := hle i (by omega)
      exact (P_s hA hs (by omega)).mpr ⟨by omega, hF i (by omega), _, t (i + 1), hp i (by omega), hc i (by omega), ts i (by omega), ih (i + 1) (by omega)⟩
  exact fun i hi => hB (cellsN w h l - i) i (by omega)
theorem autT_of (hA : okA w h f l) (hs : rwS w h f u l I) (hnum : ∀ p, p < 9 → I 135 (9 * l + p) = nI (pop 32 (bt (I 134 p)))) (htab : ∀ i, i < cellsN w h l → tbR I l i 5 I) : autT w h f u l I := by
  have hn8 := hA.2.1
  have hnm : ∀ p, p < 9 → nmT I l p = pop 32 (bt (I 134 p)) := fun p hp => by
    unfold nmT
    rw [hnum p hp, nv_nI (by have := pop_le 32 (bt (I 134 p)); omega)]
  have h5 : ∀ p, p < 9 → pop 32 (bt (I 134 p)) ≤ 5 := fun p hp => by
    by_cases h1 : p ≤ cellsN w h l
    · have := P_bound hA hs h1
      omega
    · have e := hs.2.2.2 p hp
      rw [if_neg h1] at e
      have : pop 32 (bt (I 134 p)) ≤ 0 - 0 := pop_range (fun t ht hb => by
        rw [e, b_00] at hb
        cases hb)
      omega
  -- the entries of a stage
  have hent : ∀ i t, i < cellsN w h l → Pst I i t → I 136 (tbA l i (pop t (bt (I 134 i)))) = nI (mskF 4 (tok I i t)) ∧ (∀ c, c < 4 → okT I l i (pop t (bt (I 134 i))) c = tok I i t c) ∧ ∀ c t', c < 4 → tok I i t c = true → stp f l c t t' → Pst I (i + 1) t' → I 137 (4 * tbA l i (pop t (bt (I 134 i))) + c) = nI (pop t' (bt (I 134 (i + 1)))) ∧ nxT I l i (pop t (bt (I 134 i))) c = pop t' (bt (I 134 (i + 1))) := fun i t hi hP => by
    have hk5 : pop t (bt (I 134 i)) < 5 := by
      have := P_pop hP
      have := h5 i (by omega)
      omega
    obtain ⟨r1, r2⟩ := htab i hi t hP.1 hP.2 hk5
    refine ⟨r1, fun c hc => ?_, fun c t' hc hcc h1 h2 => ?_⟩
    · unfold okT
      rw [r1, b_nI (by omega), mskF_bit]
      simp [hc]
    · have e := r2 c hc hcc
      rw [nx_pop hA hs hi hc hP.1 h1 h2] at e
      refine ⟨e, ?_⟩
      unfold nxT
      rw [e, nv_nI]
      have := P_pop h2
      have := h5 (i + 1) (by omega)
      omega
  refine ⟨fun p hp => ⟨by rw [hnum p hp, hnm p hp], by rw [hnm p hp]; exact h5 p hp⟩, fun p hp => by rw [hnm p (by omega)]; exact P_bound hA hs hp, fun i hi k hk => ?_, fun p hp => ?_⟩
  · rw [hnm i (by omega)] at hk
    obtain ⟨t, h1, h2, h3⟩ := pop_nth hk
    have hP : Pst I i t := ⟨h1, h2⟩
    obtain ⟨e1, e2, e3⟩ := hent i t hi hP
    rw [h3] at e1 e2 e3
    refine ⟨⟨_, mskF_lt 4 _, e1⟩, fun c hc hok => ?_⟩
    rw [e2 c hc] at hok
    obtain ⟨-, t', g1, g2⟩ := (tok_iff hA hs hc h1).mp hok
    obtain ⟨q1, q2⟩ := e3 c t' hc hok g1 g2
    rw [q2, q1, hnm (i + 1) (by omega)]
    exact ⟨rfl, P_pop g2⟩
  · rw [hnm 0 (by omega)]
    constructor
    · rintro ⟨hcn, hfit⟩
      obtain ⟨t, hw⟩ := (way_fit hA.1 hp hA.2.2.1).mpr hfit
      have hP := way_P hA hs hp hcn hw
      have h0 := hP 0 (Nat.zero_le _)
      refine ⟨by have := P_pop h0; omega, fun i => pop (t i) (bt (I 134 i)), ?_, fun i hi => ?_⟩
      · show pop (t 0) _ = 0
        rw [hw.1]
        rfl
      · obtain ⟨e1, e2, e3⟩ := hent i (t i) hi (hP i (by omega))
        have hst := hw.2.1 i hi
        have hP1 := hP (i + 1) (by omega)
        have htk := (tok_iff hA hs (i := i) (hp i hi) (hP i (by omega)).1).mpr ⟨hcn i hi, _, hst, hP1⟩
        refine ⟨by rw [e2 _ (hp i hi)]; exact htk, ?_⟩
        exact (e3 _ _ (hp i hi) htk hst hP1).2.symm
    · rintro ⟨h0, k, hk0, hk⟩
      obtain ⟨t0, a1, a2, a3⟩ := pop_nth h0
      have hP0 : Pst I 0 t0 := ⟨a1, a2⟩
      have ht00 : t0 = 0 := by
        have := P_rg hA hs (d := cellsN w h l) (by omega) hP0
        omega
      subst ht00
      have hex : ∀ i t, ∃ t', i < cellsN w h l → Pst I i t → pop t (bt (I 134 i)) = k i → (stp f l (p (atN w h l i)) t t' ∧ Pst I (i + 1) t') ∧ cnB w h u l (p (atN w h l i)) i ∧ pop t' (bt (I 134 (i + 1))) = k (i + 1) := fun i t => by
        by_cases hcond : i < cellsN w h l ∧ Pst I i t ∧ pop t (bt (I 134 i)) = k i
        · obtain ⟨hi, hP, hkt⟩ := hcond
          obtain ⟨e1, e2, e3⟩ := hent i t hi hP
          obtain ⟨s1, s2⟩ := hk i hi
          rw [← hkt, e2 _ (hp i hi)] at s1
          obtain ⟨g0, t', g1, g2⟩ := (tok_iff hA hs (hp i hi) hP.1).mp s1
          refine ⟨t', fun _ _ _ => ⟨⟨g1, g2⟩, g0, ?_⟩⟩
          rw [s2, ← hkt]
          exact (e3 _ t' (hp i hi) s1 g1 g2).2.symm
        · exact ⟨0, fun z1 z2 z3 => absurd ⟨z1, z2, z3⟩ hcond⟩
      obtain ⟨F, hF⟩ := Classical.skolem.mp (fun i => Classical.skolem.mp (hex i))
      have hT : ∀ i, i ≤ cellsN w h l → Pst I i (Nat.rec (motive := fun _ => Nat) 0 (fun i t => F i t) i) ∧ pop (Nat.rec (motive := fun _ => Nat) 0 (fun i t => F i t) i) (bt (I 134 i)) = k i := by
        intro i
        induction i with
        | zero => exact fun _ => ⟨hP0, by rw [hk0]; exact a3⟩
        | succ i ih =>
          intro hi
          obtain ⟨q1, q2⟩ := ih (by omega)
          have := hF i _ (by omega) q1 q2
          exact ⟨this.1.2, this.2.2⟩
      refine ⟨fun i hi => ?_, (way_fit hA.1 hp hA.2.2.1).mp ⟨fun i => Nat.rec (motive := fun _ => Nat) 0 (fun i t => F i t) i, rfl, fun i hi => ?_, ?_⟩⟩
      · obtain ⟨q1, q2⟩ := hT i (by omega)
        exact (hF i _ hi q1 q2).2.1
      · obtain ⟨q1, q2⟩ := hT i (by omega)
        exact (hF i _ hi q1 q2).1.1
      · exact ((P_n hA hs).mp (hT _ (Nat.le_refl _)).1).1
end AV
