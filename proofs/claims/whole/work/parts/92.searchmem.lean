/-! the class: the search's memory holds its state (own work) -/
section SM_
variable {w h : Nat} {f : Nat → Int32} {u : Nat → Nat} {I0 I : fx_MI}
def enK (w h : Nat) (I0 I : fx_MI) (g : Nat → Nat) (cl : Nat → Nat → Bool) (fb : Nat → Nat) (j : Nat) : Prop := (I 124 (idxK w j) = nI (stR w I0 g j) ∧ I 125 (idxK w j) = nI (stC w h I0 g j (j % w)) ∧ I 126 (idxK w j) = nI (CSK w h I0 j (stC w h I0 g j))) ∧ I 127 (idxK w j) = nI (mskF 4 (cl j)) ∧ I 129 (idxK w j) = nI (fb j)
def frSe (I0 I : fx_MI) : Prop := ∀ q j, (q < 123 ∨ 129 < q) → (q ≠ 117 ∨ j ≠ 15) → I q j = I0 q j
def stM (w h : Nat) (I0 I : fx_MI) (k : Nat) (g : Nat → Nat) (cl : Nat → Nat → Bool) (fb : Nat → Nat) (n : Nat) : Prop :=
  frSe I0 I ∧ I 117 15 = nI n ∧ (∀ j, j ≤ k → enK w h I0 I g cl fb j) ∧ (∀ j, j < k → I 128 (idxK w j) = nI (g j)) ∧ ∀ x, x < w → x ≠ k % w → I 123 x = nI (stC w h I0 g k x)
def loK (w h : Nat) (I0 : fx_MI) : Prop := I0 1 0 = nI w ∧ I0 1 1 = nI h ∧ ∀ i, i < w * h → I0 121 (idxK w i) = nI (OFK w h I0 i) ∧ I0 122 (idxK w i) = nI (wtK w h I0 i)
theorem and_msk {A B : Int32} {m : Nat} (hm : m < 16) (hA : A = nI m) : A &&& B = nI (mskF 4 (fun d => bt A d && bt B d)) := by
  refine b_ext fun i hi => ?_
  rw [b_and, b_nI hi, mskF_bit]
  by_cases h1 : i < 4
  · rw [decide_eq_true h1, Bool.true_and]
  · rw [decide_eq_false h1, Bool.false_and, hA, b_nI hi, Nat.testBit_lt_two_pow (Nat.lt_of_lt_of_le hm (Nat.pow_le_pow_right (n := 2) (by omega) (show 4 ≤ i by omega))), Bool.false_and]
def okB (w h : Nat) (I : fx_MI) (k : Nat) (C : Nat → Nat) (r d : Nat) : Bool := (okT I (h + k % w) (k / w) (C (k % w)) d && okT I (k / w) (k % w) r d) && decide (d < 4)
theorem okB_K {k r d : Nat} {C : Nat → Nat} : okB w h I k C r d = true ↔ okK w h I k C r d := by
  unfold okB okK
  rw [Bool.and_eq_true, Bool.and_eq_true, decide_eq_true_eq]
theorem en_r {x y k : Nat} {s r c : Int32} : (∀ j, enI I x y k s r c 124 j = if j = k then r else I 124 j) ∧ (∀ j, enI I x y k s r c 125 j = if j = k then c else I 125 j) ∧ (∀ j, enI I x y k s r c 126 j = if j = k then s else I 126 j) ∧ (∀ j, enI I x y k s r c 127 j = if j = k then (I 136 (tbA (cH I + x) y (nv c)) &&& I 136 (tbA y x (nv r))) else I 127 j) ∧ (∀ j, enI I x y k s r c 129 j = if j = k then I 117 15 else I 129 j) ∧ ∀ q j, (q < 124 ∨ q = 128 ∨ 129 < q) → enI I x y k s r c q j = I q j := by
  unfold enI fx_up
  refine ⟨fun j => ?_, fun j => ?_, fun j => ?_, fun j => ?_, fun j => ?_, fun q j hq => ?_⟩
  · simp
  · simp
  · simp
  · simp
  · simp
  · rw [if_neg (by omega), if_neg (by omega), if_neg (by omega), if_neg (by omega), if_neg (by omega)]
theorem stM_en {k n : Nat} {g fb : Nat → Nat} {cl : Nat → Nat → Bool} (hA : autA w h f u I0) (hk : k < w * h) (hrk : rkOK w h I0 k (stC w h I0 g k) (stR w I0 g k)) (hcH : cH I = h) (hfr : frSe I0 I) (hn : I 117 15 = nI n) (hent : ∀ j, j < k → enK w h I0 I g cl fb j) (hcol : ∀ j, j < k → I 128 (idxK w j) = nI (g j)) (hC : ∀ x, x < w → I 123 x = nI (stC w h I0 g k x)) (hcl : ∀ d, cl k d = okB w h I0 k (stC w h I0 g k) (stR w I0 g k) d) (hfb : fb k = n) : stM w h I0 (enI I (k % w) (k / w) (idxK w k) (nI (CSK w h I0 k (stC w h I0 g k))) (nI (stR w I0 g k)) (I 123 (k % w))) k g cl fb n := by
  obtain ⟨hw, hh, hA⟩ := hA
  obtain ⟨hm, hd⟩ := k_dm hk
  obtain ⟨r1, r2, r3, r4, r5, r6⟩ := en_r (I := I) (x := k % w) (y := k / w) (k := idxK w k) (s := nI (CSK w h I0 k (stC w h I0 g k))) (r := nI (stR w I0 g k)) (c := I 123 (k % w))
  refine ⟨fun q j h1 h2 => by rw [r6 q j (by omega)]; exact hfr q j h1 h2, by rw [r6 _ _ (by omega)]; exact hn, fun j hj => ?_, fun j hj => by rw [r6 _ _ (by omega)]; exact hcol j hj, fun x hx _ => by rw [r6 _ _ (by omega)]; exact hC x hx⟩
  unfold enK
  rw [r1, r2, r3, r4, r5]
  by_cases hjk : j = k
  · subst hjk
    rw [if_pos rfl, if_pos rfl, if_pos rfl, if_pos rfl, if_pos rfl, hC _ hm, hn, hfb]
    refine ⟨⟨rfl, rfl, rfl⟩, ?_, rfl⟩
    have hr := hrk.1
    have hc := hrk.2 _ hm
    rw [if_neg (Nat.lt_irrefl _), Nat.add_zero] at hc
    have b1 := ((hA (h + j % w) (by omega)).1.1 (j / w) (by omega)).2
    have b2 := ((hA (j / w) (by omega)).1.1 (j % w) (by omega)).2
    obtain ⟨⟨m, hm16, hme⟩, -⟩ := (hA (h + j % w) (by omega)).1.2.2.1 (j / w) (by unfold cellsN; rw [if_neg (by omega)]; exact hd) _ hc
    rw [nv_nI (by omega), nv_nI (by omega), hcH, hfr 136 _ (by omega) (by omega), hfr 136 _ (by omega) (by omega), and_msk hm16 hme]
    congr 1
    refine mskF_c fun d hd4 => ?_
    rw [hcl d]
    unfold okB
    rw [decide_eq_true hd4, Bool.and_true]
    rfl
  · have hne : idxK w j ≠ idxK w k := fun z => hjk (idx_inj hw z)
    rw [if_neg hne, if_neg hne, if_neg hne, if_neg hne, if_neg hne]
    exact hent j (by omega)
theorem st_1 {k c : Nat} {g : Nat → Nat} : stC w h I (g1K k c g) (k + 1) = nxC w h I k (stC w h I g k) c ∧ stR w I (g1K k c g) (k + 1) = nxR w I k (stR w I g k) c := by
  have e := g1_st (w := w) (h := h) (I := I) (k := k) (c := c) (g := g) (Nat.le_refl k)
  have e2 : g1K k c g k = c := if_pos rfl
  show nxC w h I k (stC w h I (g1K k c g) k) (g1K k c g k) = _ ∧ nxR w I k (stR w I (g1K k c g) k) (g1K k c g k) = _
  rw [e.1, e.2, e2]
  exact ⟨rfl, rfl⟩
theorem msk_lt4 {g : Nat → Bool} : mskF 4 g < 16 := mskF_lt 4 g
/-- what the next color's method reads -/
theorem tn_data {k n c : Nat} {g fb : Nat → Nat} {cl : Nat → Nat → Bool} (hA : autA w h f u I0) (hlo : loK w h I0) (hS : stM w h I0 I k g cl fb n) (hk : k < w * h) (hrk : rkOK w h I0 k (stC w h I0 g k) (stR w I0 g k)) (hok : okK w h I0 k (stC w h I0 g k) (stR w I0 g k) c) :
    tnC I (idxK w k) c (stC w h I0 g k (k % w)) = nI (stC w h I0 (g1K k c g) (k + 1) (k % w)) ∧
    tnR I (idxK w k) c (stR w I0 g k) = nI (nxT I0 (k / w) (k % w) (stR w I0 g k) c) ∧ nxT I0 (k / w) (k % w) (stR w I0 g k) c = stR w I0 (g1K k c g) (k + 1) ∧
    tnS I (idxK w k) c (stC w h I0 g k (k % w)) = nI (CSK w h I0 (k + 1) (stC w h I0 (g1K k c g) (k + 1))) := by
  obtain ⟨hw, hh, hA⟩ := hA
  obtain ⟨hfr, hn, hent, hcol, hC⟩ := hS
  obtain ⟨l0, l1, l2⟩ := hlo
  obtain ⟨hm, hd⟩ := k_dm hk
  have hdm := idx_dm (k := k) hw
  have hcW : cH I = h := by
    unfold cH
    rw [hfr 1 1 (by omega) (by omega), l1, nv_nI (by omega)]
  obtain ⟨⟨o1, o2⟩, hc4⟩ := hok
  have hc := hrk.2 _ hm
  rw [if_neg (Nat.lt_irrefl _), Nat.add_zero] at hc
  have e1 := ((hA (h + k % w) (by omega)).1.2.2.1 (k / w) (by unfold cellsN; rw [if_neg (by omega)]; exact hd) _ hc).2 c hc4 o1
  have e2 := ((hA (k / w) (by omega)).1.2.2.1 (k % w) (by unfold cellsN; rw [if_pos hd]; exact hm) _ hrk.1).2 c hc4 o2
  have t1 : tnC I (idxK w k) c (stC w h I0 g k (k % w)) = nI (stC w h I0 (g1K k c g) (k + 1) (k % w)) := by
    unfold tnC
    rw [hdm.1, hdm.2, hcW, hfr 137 _ (by omega) (by omega), Nat.mul_comm, e1.1, st_1.1]
    unfold nxC
    rw [if_pos rfl]
  refine ⟨t1, ?_, ?_, ?_⟩
  · unfold tnR
    rw [hdm.1, hdm.2, hfr 137 _ (by omega) (by omega), Nat.mul_comm, e2.1]
  · rw [(st_1 (h := h)).2]
    unfold nxR
    by_cases h1 : k % w + 1 < w
    · rw [if_pos h1]
    · rw [if_neg h1]
      have hb := ((hA (k / w) (by omega)).1.2.1 (k % w + 1) (by unfold cellsN; rw [if_pos hd]; omega)).2
      have hb2 := e2.2
      have hcn : cellsN w h (k / w) = w := if_pos hd
      rw [hcn] at hb
      omega
  · have hs := (hent k (Nat.le_refl _)).1.2.2
    have b1 := (hA (h + k % w) (by omega)).1.1 (k / w + 1) (by omega)
    unfold tnS
    rw [t1, hdm.1, hdm.2, hcW, hs, hfr 122 _ (by omega) (by omega), (l2 k hk).2, hfr 135 _ (by omega) (by omega), b1.1, CS_head (by omega), nI_mul', nI_sub' (by omega), nI_mul', nI_add, st_1.1, CS_s hk, Nat.add_sub_cancel_left]
    unfold nxC
    rw [if_pos rfl]
end SM_
