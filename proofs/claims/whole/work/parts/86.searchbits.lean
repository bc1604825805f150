/-! the search: a bit for each state, as mathematics (own work) -/
def VV (d r : Nat → Nat) : Nat → Nat
  | 0 => 0
  | n + 1 => VV d r n * r n + d n
def PP (r : Nat → Nat) (a : Nat) : Nat → Nat
  | 0 => 1
  | n + 1 => PP r a n * r (a + n)
theorem VV_cong {d d' r r' : Nat → Nat} : ∀ {n : Nat}, (∀ j, j < n → d j = d' j ∧ r j = r' j) → VV d r n = VV d' r' n
  | 0, _ => rfl
  | n + 1, he => by
    have h1 := he n (by omega)
    show VV d r n * r n + d n = VV d' r' n * r' n + d' n
    rw [VV_cong (n := n) (fun j hj => he j (by omega)), h1.1, h1.2]
theorem PP_cong {r r' : Nat → Nat} {a b : Nat} : ∀ {n : Nat}, (∀ j, j < n → r (a + j) = r' (b + j)) → PP r a n = PP r' b n
  | 0, _ => rfl
  | n + 1, he => by
    show PP r a n * r (a + n) = PP r' b n * r' (b + n)
    rw [PP_cong (n := n) (fun j hj => he j (by omega)), he n (by omega)]
theorem PP_add {r : Nat → Nat} {a m : Nat} : ∀ {n : Nat}, PP r a (m + n) = PP r a m * PP r (a + m) n
  | 0 => (Nat.mul_one _).symm
  | n + 1 => by
    show PP r a (m + n) * r (a + (m + n)) = PP r a m * (PP r (a + m) n * r (a + m + n))
    rw [PP_add (n := n), Nat.mul_assoc, Nat.add_assoc]
theorem PP_le {r : Nat → Nat} {a c : Nat} : ∀ {n : Nat}, (∀ j, j < n → r (a + j) ≤ c) → PP r a n ≤ c ^ n
  | 0, _ => Nat.le_refl _
  | n + 1, he => by
    show PP r a n * r (a + n) ≤ c ^ (n + 1)
    rw [Nat.pow_succ]
    exact Nat.mul_le_mul (PP_le (n := n) (fun j hj => he j (by omega))) (he n (by omega))
theorem VV_head {d r : Nat → Nat} : ∀ {n : Nat}, VV d r (n + 1) = d 0 * PP r 1 n + VV (fun j => d (j + 1)) (fun j => r (j + 1)) n
  | 0 => by
    show 0 * r 0 + d 0 = d 0 * 1 + 0
    omega
  | n + 1 => by
    show VV d r (n + 1) * r (n + 1) + d (n + 1) = d 0 * (PP r 1 n * r (1 + n)) + (VV _ _ n * r (n + 1) + d (n + 1))
    rw [VV_head (n := n), Nat.add_mul, Nat.mul_assoc, Nat.add_comm 1 n, Nat.add_assoc]
theorem VV_lt {d r : Nat → Nat} : ∀ {n : Nat}, (∀ j, j < n → d j < r j) → VV d r n < PP r 0 n
  | 0, _ => Nat.one_pos
  | n + 1, he => by
    have h1 := VV_lt (n := n) (fun j hj => he j (by omega))
    have h2 := he n (by omega)
    show VV d r n * r n + d n < PP r 0 n * r (0 + n)
    rw [Nat.zero_add]
    have h3 := Nat.mul_le_mul_right (r n) (show VV d r n + 1 ≤ PP r 0 n by omega)
    rw [Nat.add_mul, Nat.one_mul] at h3
    omega
theorem dv_inj {a b c d m : Nat} (hb : b < m) (hd : d < m) (he : a * m + b = c * m + d) : a = c ∧ b = d := by
  have h1 : (a * m + b) % m = b := by rw [Nat.mul_comm, Nat.mul_add_mod, Nat.mod_eq_of_lt hb]
  have h2 : (c * m + d) % m = d := by rw [Nat.mul_comm, Nat.mul_add_mod, Nat.mod_eq_of_lt hd]
  have h3 : (a * m + b) / m = a := by rw [Nat.mul_comm, Nat.mul_add_div (by omega), Nat.div_eq_of_lt hb, Nat.add_zero]
  have h4 : (c * m + d) / m = c := by rw [Nat.mul_comm, Nat.mul_add_div (by omega), Nat.div_eq_of_lt hd, Nat.add_zero]
  rw [he] at h1 h3
  omega
theorem VV_inj {d d' r : Nat → Nat} : ∀ {n : Nat}, (∀ j, j < n → d j < r j) → (∀ j, j < n → d' j < r j) → VV d r n = VV d' r n → ∀ j, j < n → d j = d' j
  | 0, _, _, _, j, hj => absurd hj (Nat.not_lt_zero j)
  | n + 1, h1, h2, he, j, hj => by
    obtain ⟨e1, e2⟩ := dv_inj (h1 n (by omega)) (h2 n (by omega)) he
    by_cases hjn : j = n
    · rw [hjn]
      exact e2
    · exact VV_inj (n := n) (fun j hj => h1 j (by omega)) (fun j hj => h2 j (by omega)) e1 j (by omega)
section SB_
variable {w h : Nat} {I : fx_MI}
/-- the columns in the order from a cell's own on, and their numbers of ranks -/
def colK (w k j : Nat) : Nat := (k % w + j) % w
def colR (w h : Nat) (I : fx_MI) (k c : Nat) : Nat := nmT I (h + c) (k / w + if c < k % w then 1 else 0)
def CSK (w h : Nat) (I : fx_MI) (k : Nat) (C : Nat → Nat) : Nat := VV (fun j => C (colK w k j)) (fun j => colR w h I k (colK w k j)) w
def wtK (w h : Nat) (I : fx_MI) (k : Nat) : Nat := PP (fun j => colR w h I k (colK w k j)) 1 (w - 1)
def szK (w h : Nat) (I : fx_MI) (k : Nat) : Nat := wtK w h I k * nmT I (h + k % w) (k / w) * nmT I (k / w) (k % w)
def OFK (w h : Nat) (I : fx_MI) : Nat → Nat
  | 0 => 0
  | k + 1 => OFK w h I k + szK w h I k
def bitK (w h : Nat) (I : fx_MI) (k : Nat) (C : Nat → Nat) (r : Nat) : Nat := OFK w h I k + CSK w h I k C * nmT I (k / w) (k % w) + r
theorem colK_lt {k j : Nat} (hw : 0 < w) : colK w k j < w := Nat.mod_lt _ hw
theorem colK_0 {k : Nat} (hw : 0 < w) : colK w k 0 = k % w := by
  unfold colK
  rw [Nat.add_zero, Nat.mod_eq_of_lt (Nat.mod_lt _ hw)]
theorem colK_s {k j : Nat} (_hw : 0 < w) : colK w (k + 1) j = colK w k (j + 1) := by
  unfold colK
  rw [Nat.mod_add_mod, Nat.mod_add_mod, show k + 1 + j = k + (j + 1) by omega]
theorem colK_e {k j : Nat} (hm : k % w < w) (hj : j < w) : colK w k j = if k % w + j < w then k % w + j else k % w + j - w := by
  unfold colK
  split
  · rename_i h1
    exact Nat.mod_eq_of_lt h1
  · rename_i h1
    rw [Nat.mod_eq_sub_mod (by omega), Nat.mod_eq_of_lt (by omega)]
theorem colR_s {k c : Nat} (hk : k < w * h) (hc : c < w) (hne : c ≠ k % w) : colR w h I (k + 1) c = colR w h I k c := by
  obtain ⟨hm, hd⟩ := k_dm hk
  obtain ⟨n1, n2⟩ := k_next (w := w) (h := h) hk
  unfold colR
  by_cases h1 : k % w + 1 < w
  · rw [(n1 h1).1, (n1 h1).2]
    by_cases h2 : c < k % w
    · rw [if_pos h2, if_pos (by omega)]
    · rw [if_neg h2, if_neg (by omega)]
  · rw [(n2 h1).1, (n2 h1).2, if_neg (by omega), if_pos (by omega)]
theorem colR_x {k : Nat} (hk : k < w * h) : colR w h I (k + 1) (k % w) = nmT I (h + k % w) (k / w + 1) := by
  obtain ⟨hm, hd⟩ := k_dm hk
  obtain ⟨n1, n2⟩ := k_next (w := w) (h := h) hk
  unfold colR
  by_cases h1 : k % w + 1 < w
  · rw [(n1 h1).1, (n1 h1).2, if_pos (by omega)]
  · rw [(n2 h1).1, (n2 h1).2, if_neg (by omega)]
/-- the columns but the cell's own -/
def othK (w h : Nat) (I : fx_MI) (k : Nat) (C : Nat → Nat) : Nat := VV (fun j => C (colK w k (j + 1))) (fun j => colR w h I k (colK w k (j + 1))) (w - 1)
theorem CS_head {k : Nat} {C : Nat → Nat} (hw : 0 < w) : CSK w h I k C = C (k % w) * wtK w h I k + othK w h I k C := by
  obtain ⟨m, hm⟩ : ∃ m, w = m + 1 := ⟨w - 1, by omega⟩
  unfold CSK wtK othK
  have e := VV_head (d := fun j => C (colK w k j)) (r := fun j => colR w h I k (colK w k j)) (n := w - 1)
  rw [show w - 1 + 1 = w by omega] at e
  rw [e, colK_0 hw]
theorem CS_s {k c : Nat} {C : Nat → Nat} (hk : k < w * h) : CSK w h I (k + 1) (nxC w h I k C c) = othK w h I k C * nmT I (h + k % w) (k / w + 1) + nxT I (h + k % w) (k / w) (C (k % w)) c := by
  obtain ⟨hm, hd⟩ := k_dm hk
  obtain ⟨m, hmw⟩ : ∃ m, w = m + 1 := ⟨w - 1, by omega⟩
  have hlast : colK w (k + 1) (w - 1) = k % w := by
    rw [colK_s (by omega), show w - 1 + 1 = w by omega]
    unfold colK
    rw [Nat.add_mod_right, Nat.mod_eq_of_lt hm]
  have hother : ∀ j, j < w - 1 → colK w k (j + 1) ≠ k % w := fun j hj => by
    rw [colK_e hm (by omega)]
    split <;> omega
  have e : CSK w h I (k + 1) (nxC w h I k C c) = VV (fun j => nxC w h I k C c (colK w (k + 1) j)) (fun j => colR w h I (k + 1) (colK w (k + 1) j)) (w - 1 + 1) := by
    rw [show w - 1 + 1 = w by omega]
    rfl
  rw [e]
  show VV _ _ (w - 1) * colR w h I (k + 1) (colK w (k + 1) (w - 1)) + nxC w h I k C c (colK w (k + 1) (w - 1)) = _
  rw [hlast, colR_x hk]
  have e2 : nxC w h I k C c (k % w) = nxT I (h + k % w) (k / w) (C (k % w)) c := if_pos rfl
  rw [e2]
  congr 2
  unfold othK
  refine VV_cong fun j hj => ?_
  rw [colK_s (by omega)]
  refine ⟨?_, colR_s hk (colK_lt (by omega)) (hother j hj)⟩
  unfold nxC
  rw [if_neg (hother j hj)]
/-- the weight as it is computed: over the columns in their order -/
def WLK (w h : Nat) (I : fx_MI) (k : Nat) : Nat → Nat
  | 0 => 1
  | c + 1 => WLK w h I k c * if c = k % w then 1 else colR w h I k c
theorem WL_e {k : Nat} (hm : k % w < w) : WLK w h I k w = wtK w h I k := by
  have h1 : ∀ c, c ≤ k % w → WLK w h I k c = PP (colR w h I k) 0 c := by
    intro c
    induction c with
    | zero => exact fun _ => rfl
    | succ c ih =>
      intro hc
      show WLK w h I k c * (if c = k % w then 1 else colR w h I k c) = PP (colR w h I k) 0 c * colR w h I k (0 + c)
      rw [ih (by omega), if_neg (by omega), Nat.zero_add]
  have h2 : ∀ d, WLK w h I k (k % w + 1 + d) = PP (colR w h I k) 0 (k % w) * PP (colR w h I k) (k % w + 1) d := by
    intro d
    induction d with
    | zero =>
      show WLK w h I k (k % w) * (if k % w = k % w then 1 else colR w h I k (k % w)) = _ * 1
      rw [h1 _ (Nat.le_refl _), if_pos rfl]
    | succ d ih =>
      show WLK w h I k (k % w + 1 + d) * (if k % w + 1 + d = k % w then 1 else colR w h I k (k % w + 1 + d)) = _ * (PP (colR w h I k) (k % w + 1) d * colR w h I k (k % w + 1 + d))
      rw [ih, if_neg (by omega), Nat.mul_assoc]
  have e := h2 (w - 1 - k % w)
  rw [show k % w + 1 + (w - 1 - k % w) = w by omega] at e
  rw [e]
  unfold wtK
  have e2 := PP_add (r := fun j => colR w h I k (colK w k j)) (a := 1) (m := w - 1 - k % w) (n := k % w)
  rw [show w - 1 - k % w + k % w = w - 1 by omega] at e2
  rw [e2, Nat.mul_comm]
  congr 1
  · refine PP_cong fun j hj => ?_
    show colR w h I k (k % w + 1 + j) = colR w h I k (colK w k (1 + j))
    rw [colK_e hm (by omega), if_pos (by omega), Nat.add_assoc]
  · refine PP_cong fun j hj => ?_
    show colR w h I k (0 + j) = colR w h I k (colK w k (1 + (w - 1 - k % w) + j))
    rw [colK_e hm (by omega), if_neg (by omega)]
    congr 1
    omega
theorem CS_lt {k r : Nat} {C : Nat → Nat} (hk : k < w * h) (hr : rkOK w h I k C r) : CSK w h I k C < wtK w h I k * nmT I (h + k % w) (k / w) := by
  obtain ⟨hm, hd⟩ := k_dm hk
  have h1 : CSK w h I k C < PP (fun j => colR w h I k (colK w k j)) 0 w := VV_lt fun j hj => hr.2 _ (colK_lt (by omega))
  have e := PP_add (r := fun j => colR w h I k (colK w k j)) (a := 0) (m := 1) (n := w - 1)
  rw [show 1 + (w - 1) = w by omega] at e
  rw [e] at h1
  have e2 : PP (fun j => colR w h I k (colK w k j)) 0 1 = nmT I (h + k % w) (k / w) := by
    show 1 * colR w h I k (colK w k (0 + 0)) = _
    rw [Nat.one_mul, Nat.add_zero, colK_0 (by omega)]
    unfold colR
    rw [if_neg (Nat.lt_irrefl _), Nat.add_zero]
  rw [e2, Nat.zero_add, Nat.mul_comm] at h1
  exact h1
theorem OF_m {k d : Nat} : OFK w h I k ≤ OFK w h I (k + d) := by
  induction d with
  | zero => exact Nat.le_refl _
  | succ d ih =>
    show _ ≤ OFK w h I (k + d) + szK w h I (k + d)
    omega
theorem bit_rg {k r : Nat} {C : Nat → Nat} (hk : k < w * h) (hr : rkOK w h I k C r) : OFK w h I k ≤ bitK w h I k C r ∧ bitK w h I k C r < OFK w h I (k + 1) := by
  have h1 := CS_lt hk hr
  have h2 := hr.1
  have h3 := Nat.mul_le_mul_right (nmT I (k / w) (k % w)) (show CSK w h I k C + 1 ≤ wtK w h I k * nmT I (h + k % w) (k / w) by omega)
  rw [Nat.add_mul, Nat.one_mul] at h3
  refine ⟨by unfold bitK; omega, ?_⟩
  show bitK w h I k C r < OFK w h I k + szK w h I k
  unfold bitK szK
  omega
theorem bit_inj {k k' r r' : Nat} {C C' : Nat → Nat} (hk : k < w * h) (hk' : k' < w * h) (hr : rkOK w h I k C r) (hr' : rkOK w h I k' C' r') (he : bitK w h I k C r = bitK w h I k' C' r') : k = k' ∧ r = r' ∧ ∀ x, x < w → C x = C' x := by
  have h1 := bit_rg hk hr
  have h2 := bit_rg hk' hr'
  have hkk : k = k' := by
    rcases Nat.lt_trichotomy k k' with z | z | z
    · have := OF_m (w := w) (h := h) (I := I) (k := k + 1) (d := k' - (k + 1))
      rw [show k + 1 + (k' - (k + 1)) = k' by omega] at this
      omega
    · exact z
    · have := OF_m (w := w) (h := h) (I := I) (k := k' + 1) (d := k - (k' + 1))
      rw [show k' + 1 + (k - (k' + 1)) = k by omega] at this
      omega
  subst hkk
  unfold bitK at he
  obtain ⟨e1, e2⟩ := dv_inj hr.1 hr'.1 (show CSK w h I k C * nmT I (k / w) (k % w) + r = CSK w h I k C' * nmT I (k / w) (k % w) + r' by omega)
  refine ⟨rfl, e2, fun x hx => ?_⟩
  obtain ⟨hm, hd⟩ := k_dm hk
  have h3 := VV_inj (fun j hj => hr.2 _ (colK_lt (by omega))) (fun j hj => hr'.2 _ (colK_lt (by omega))) e1
  by_cases h4 : k % w ≤ x
  · have := h3 (x - k % w) (by omega)
    rw [colK_e hm (by omega), if_pos (by omega), show k % w + (x - k % w) = x by omega] at this
    exact this
  · have := h3 (x + w - k % w) (by omega)
    rw [colK_e hm (by omega), if_neg (by omega), show k % w + (x + w - k % w) - w = x by omega] at this
    exact this
/-- not too many bits -/
def SXK (w : Nat) : Nat → Nat
  | 0 => 0
  | x + 1 => SXK w x + min (x + 1) (w - x + 1)
theorem SX_w : ∀ w, w < 9 → SXK w w ≤ 24 := by decide +kernel
theorem sz_le {f : Nat → Int32} {u : Nat → Nat} {k : Nat} (hA : autA w h f u I) (hk : k < w * h) : szK w h I k ≤ 390625 * min (k % w + 1) (w - k % w + 1) ∧ wtK w h I k ≤ 78125 ∧ wtK w h I k * nmT I (h + k % w) (k / w) ≤ 390625 := by
  obtain ⟨hw, hh, hA⟩ := hA
  obtain ⟨hm, hd⟩ := k_dm hk
  have h5 : ∀ l p, l < h + w → p < 9 → nmT I l p ≤ 5 := fun l p hl hp => ((hA l hl).1.1 p hp).2
  have h1 : wtK w h I k ≤ 5 ^ (w - 1) := PP_le fun j hj => by
    have hc := colK_lt (w := w) (k := k) (j := 1 + j) (by omega)
    show nmT I (h + colK w k (1 + j)) (k / w + if colK w k (1 + j) < k % w then 1 else 0) ≤ 5
    exact h5 _ _ (by omega) (by split <;> omega)
  have h2 : 5 ^ (w - 1) ≤ 5 ^ 7 := Nat.pow_le_pow_right (by omega) (by omega)
  have h3 := h5 (h + k % w) (k / w) (by omega) (by omega)
  have e7 : 5 ^ 7 = 78125 := by decide
  have h4 : wtK w h I k * nmT I (h + k % w) (k / w) ≤ 78125 * 5 := Nat.mul_le_mul (by omega) h3
  have h6 := (hA (k / w) (by omega)).1.2.1 (k % w) (by unfold cellsN; rw [if_pos hd]; omega)
  have h7 : cellsN w h (k / w) = w := if_pos hd
  rw [h7] at h6
  refine ⟨?_, by omega, by omega⟩
  unfold szK
  exact Nat.mul_le_mul (by omega) (by omega)
theorem OF_le {f : Nat → Int32} {u : Nat → Nat} (hA : autA w h f u I) : ∀ {k : Nat}, k ≤ w * h → OFK w h I k ≤ 390625 * (24 * (k / w) + SXK w (k % w))
  | 0, _ => Nat.zero_le _
  | k + 1, hk => by
    have ih := OF_le hA (k := k) (by omega)
    have h1 := (sz_le hA (k := k) (by omega)).1
    obtain ⟨n1, n2⟩ := k_next (w := w) (h := h) (k := k) (by omega)
    obtain ⟨hm, hd⟩ := k_dm (w := w) (h := h) (k := k) (by omega)
    have hs : SXK w (k % w + 1) = SXK w (k % w) + min (k % w + 1) (w - k % w + 1) := rfl
    show OFK w h I k + szK w h I k ≤ _
    by_cases h2 : k % w + 1 < w
    · rw [(n1 h2).1, (n1 h2).2, hs]
      omega
    · have h3 := SX_w w (by have := hA.1; omega)
      have e : k % w + 1 = w := by omega
      rw [e] at hs
      rw [(n2 h2).1, (n2 h2).2]
      have : SXK w 0 = 0 := rfl
      omega
theorem OF_all {f : Nat → Int32} {u : Nat → Nat} (hA : autA w h f u I) {k : Nat} (hk : k ≤ w * h) : OFK w h I k ≤ 75000000 := by
  have h1 := OF_le hA (k := w * h) (Nat.le_refl _)
  have hw := hA.1
  have hh := hA.2.1
  rw [Nat.mul_mod_right, Nat.mul_div_cancel_left _ (by omega)] at h1
  have h2 := OF_m (w := w) (h := h) (I := I) (k := k) (d := w * h - k)
  rw [show k + (w * h - k) = w * h by omega] at h2
  have : SXK w 0 = 0 := rfl
  omega
end SB_
