/-! the class: the search's way back, its beginning (own work) -/
section SQ_
variable {w h : Nat} {f : Nat → Int32} {u : Nat → Nat} {I0 I : fx_MI}
theorem bf_idx {k : Nat} (hw : 1 ≤ w ∧ w ≤ 8) (hk : k + 1 < w * h) : bfI (idxK w (k + 1)) w = nI (idxK w k) := by
  have e := idx_s (w := w) (h := h) (k := k) (by omega)
  have d0 := idx_dm (k := k) hw
  have d1 := idx_dm (k := k + 1) hw
  have hm := Nat.mod_lt k (show 0 < w by omega)
  obtain ⟨n1, n2⟩ := k_next (w := w) (h := h) (k := k) (by omega)
  unfold bfI
  rw [d1.1, d1.2]
  by_cases h1 : k % w + 1 < w
  · rw [if_pos h1] at e
    rw [(n1 h1).1, if_pos (by omega), e, Nat.add_sub_cancel]
  · rw [(n2 h1).1, (n2 h1).2, if_neg (by omega), if_pos (by omega)]
    congr 1
    unfold idxK
    omega
/-- the search's end -/
def fiK (w h : Nat) (f : Nat → Int32) (u : Nat → Nat) (I0 : fx_MI) (J0 : fx_MJ) (most : Nat) (I : fx_MI) (J : fx_MJ) : Prop := ∃ n, I 117 15 = nI n ∧ frSe I0 I ∧ CAP (sol w h f u) (fun c => c < w * h) most n ∧ (∀ q, q ≠ 119 → q ≠ 120 → J q = J0 q) ∧ (0 < n → ∃ p, lexF (w * h) (sol w h f u) p ∧ picM w h J p)
theorem rs_end {J J0 : fx_MJ} {k n most : Nat} {g fb : Nat → Nat} {cl : Nat → Nat → Bool} {dead : Nat → Bool} (hR : rsK w h f u I0 J0 most I J k g cl fb n dead) (hn : n = most) : fiK w h f u I0 J0 most I J := ⟨n, hR.1.1.2.1, hR.1.1.1, SV_cap hR.1.2 hR.2.1 (Or.inl hn), hR.2.2.2.1, hR.2.2.2.2⟩
theorem rs_leave {J J0 : fx_MJ} {k n most nn : Nat} {g fb : Nat → Nat} {cl : Nat → Nat → Bool} {dead : Nat → Bool} (hA : autA w h f u I0) (hlo : loK w h I0) (hnn : OFK w h I0 (w * h) < 64 * nn) (hmost : most < 2147483648) (hR : rsK w h f u I0 J0 most I J k g cl fb n dead) (hno : ∀ d, cl k d = false) :
    ∃ B, I 121 (idxK w k) + I 126 (idxK w k) * I 135 (9 * (k / w) + k % w) + I 124 (idxK w k) = nI B ∧ B < 2147483648 ∧ B / 64 < nn ∧
      ∀ I' J', I' = fx_up I 123 (k % w) (I 125 (idxK w k)) → J' = (if I 129 (idxK w k) = I 117 15 then orD J B else J) →
        (0 < k → bfI (idxK w k) w = nI (idxK w (k - 1)) ∧ ∃ dead', rsK w h f u I0 J0 most I' J' (k - 1) g cl fb n dead' ∧ MSK (k - 1) cl fb n dead' (OFK w h I0 (w * h)) most < MSK k cl fb n dead (OFK w h I0 (w * h)) most) ∧
        (k = 0 → bfI (idxK w k) w = -1 ∧ fiK w h f u I0 J0 most I' J') := by
  obtain ⟨⟨⟨hfr, hnI, hent, hcol, hC⟩, hV⟩, hnm, hdd, hJ0, hpic⟩ := hR
  have hV' := hV
  obtain ⟨⟨v1, v2⟩, v3, v4, -⟩ := hV'
  have hrk := st_rk hA v1 v2
  have hw := hA.1
  have hh := hA.2.1
  have hwh : w * h ≤ 64 := Nat.mul_le_mul hw.2 hh.2
  obtain ⟨hm, hd0⟩ := k_dm v1
  obtain ⟨l0, l1, l2⟩ := hlo
  obtain ⟨⟨a1, a2, a3⟩, a4, a5⟩ := hent k (Nat.le_refl k)
  have b2 := (hA.2.2 (k / w) (by omega)).1.1 (k % w) (by omega)
  have hbr := bit_rg v1 hrk
  have hOFm := OF_m (w := w) (h := h) (I := I0) (k := k + 1) (d := w * h - (k + 1))
  rw [show k + 1 + (w * h - (k + 1)) = w * h by omega] at hOFm
  have hOF := OF_all hA (k := w * h) (Nat.le_refl _)
  obtain ⟨L1, L2⟩ := SV_leave (most := most) hA hV (by omega) hno
  refine ⟨bitK w h I0 k (stC w h I0 g k) (stR w I0 g k), ?_, by omega, by omega, fun I' J' eI eJ => ?_⟩
  · rw [a1, a3, hfr 121 _ (by omega) (by omega), (l2 k v1).1, hfr 135 _ (by omega) (by omega), b2.1, nI_mul', nI_add, nI_add]
    rfl
  have hfbn := v4 k (Nat.le_refl k)
  have hdec : (I 129 (idxK w k) = I 117 15) ↔ fb k = n := by
    rw [a5, hnI]
    constructor
    · intro z
      have := congrArg nv z
      rw [nv_nI (by omega), nv_nI (by omega)] at this
      exact this
    · intro z
      rw [z]
  have hfr' : frSe I0 I' := fun q j h1 h2 => by
    rw [eI, fx_up_ne (by omega)]
    exact hfr q j h1 h2
  have hn' : I' 117 15 = nI n := by
    rw [eI, fx_up_ne (by omega)]
    exact hnI
  have hJr : ∀ q, q ≠ 120 → J' q = J q := fun q hq => by
    rw [eJ]
    split
    · unfold orD
      rw [fx_up_ne hq]
    · rfl
  have hdd' : ∀ b, b < OFK w h I0 (w * h) → ddM J' b = ddL (bitK w h I0 k (stC w h I0 g k) (stR w I0 g k)) (decide (fb k = n)) dead b := fun b hb => by
    unfold ddL
    rw [eJ]
    by_cases h1 : fb k = n
    · rw [if_pos (hdec.mpr h1), dd_orD (by omega), hdd b hb, decide_eq_true h1, Bool.true_and]
    · rw [if_neg (fun z => h1 (hdec.mp z)), hdd b hb, decide_eq_false h1, Bool.false_and, Bool.or_false]
  have hpic' : 0 < n → ∃ p, lexF (w * h) (sol w h f u) p ∧ picM w h J' p := fun z => by
    obtain ⟨p, g1, g2⟩ := hpic z
    refine ⟨p, g1, ?_⟩
    unfold picM
    rw [hJr 119 (by omega)]
    exact g2
  have hJ0' : ∀ q, q ≠ 119 → q ≠ 120 → J' q = J0 q := fun q g1 g2 => by
    rw [hJr q g2]
    exact hJ0 q g1 g2
  refine ⟨fun hk0 => ?_, fun hk0 => ?_⟩
  · obtain ⟨k', rfl⟩ : ∃ k', k = k' + 1 := ⟨k - 1, by omega⟩
    obtain ⟨w1, w2⟩ := L1 hk0
    rw [Nat.add_sub_cancel] at w1 w2 ⊢
    refine ⟨bf_idx hw v1, _, ⟨⟨⟨hfr', hn', fun j hj => ?_, fun j hj => ?_, fun x hx hne => ?_⟩, w1⟩, hnm, hdd', hJ0', hpic'⟩, w2⟩
    · have := hent j (by omega)
      unfold enK at this ⊢
      rw [eI, fx_up_ne (by omega), fx_up_ne (by omega), fx_up_ne (by omega), fx_up_ne (by omega), fx_up_ne (by omega)]
      exact this
    · rw [eI, fx_up_ne (by omega)]
      exact hcol j (by omega)
    · have hst : stC w h I0 g (k' + 1) x = stC w h I0 g k' x := if_neg hne
      rw [eI]
      unfold fx_up
      by_cases hxk : x = (k' + 1) % w
      · rw [if_pos ⟨rfl, hxk⟩, a2, ← hxk, hst]
      · rw [if_neg (fun z => hxk z.2), hC x hx hxk, hst]
  · subst hk0
    refine ⟨?_, n, hn', hfr', SV_cap hV hnm (Or.inr (L2 rfl)), hJ0', hpic'⟩
    unfold bfI idxK
    rw [Nat.zero_div, Nat.zero_mod]
    rfl
theorem VV_00 {r : Nat → Nat} : ∀ {n : Nat}, VV (fun _ => 0) r n = 0
  | 0 => rfl
  | n + 1 => by
    show VV (fun _ => 0) r n * r n + 0 = 0
    rw [VV_00 (n := n), Nat.zero_mul]
theorem rs_0 {J : fx_MJ} {most nn : Nat} (hu : ∀ k, k < w * h → u k < 16) (hA : autA w h f u I0) (hlo : loK w h I0) (hnn : OFK w h I0 (w * h) < 64 * nn) (hdd : ∀ b, b < OFK w h I0 (w * h) → ddM J b = false) (hfr : frSe I0 I) (hn : I 117 15 = nI 0) (hC : ∀ x, x < w → I 123 x = nI 0) :
    (I 121 (8 * 0 + 0) + nI 0 * I 135 (9 * 0 + 0) + nI 0 = nI 0 ∧ 0 / 64 < nn ∧ ddM J 0 = false) ∧ ∃ cl, rsK w h f u I0 J most (enI I 0 0 (8 * 0 + 0) (nI 0) (nI 0) (I 123 0)) J 0 (fun _ => 0) cl (fun _ => 0) 0 (fun _ => false) ∧ MSK 0 cl (fun _ => 0) 0 (fun _ => false) (OFK w h I0 (w * h)) most ≤ 375001000 + 320 * most := by
  have hw := hA.1
  have hh := hA.2.1
  have hwh : 0 < w * h := Nat.mul_pos (by omega) (by omega)
  obtain ⟨l0, l1, l2⟩ := hlo
  have hrk := rk_0 hA
  have hOF := OF_all hA (k := w * h) (Nat.le_refl _)
  have hbr := bit_rg hwh hrk
  have hOFm := OF_m (w := w) (h := h) (I := I0) (k := 0 + 1) (d := w * h - (0 + 1))
  rw [show 0 + 1 + (w * h - (0 + 1)) = w * h by omega] at hOFm
  have hi0 : idxK w 0 = 0 := by
    unfold idxK
    rw [Nat.zero_div, Nat.zero_mod]
  have hCS : CSK w h I0 0 (fun _ => 0) = 0 := VV_00
  have hcH : cH I = h := by
    unfold cH
    rw [hfr 1 1 (by omega) (by omega), l1, nv_nI (by omega)]
  refine ⟨⟨?_, by omega, hdd 0 (by omega)⟩, fun _ => okB w h I0 0 (fun _ => 0) 0, ⟨⟨?_, ?_⟩, Nat.zero_le _, hdd, fun _ _ _ => rfl, fun z => absurd z (by omega)⟩, ?_⟩
  · have e := (l2 0 hwh).1
    rw [hi0] at e
    rw [hfr 121 _ (by omega) (by omega), show 8 * 0 + 0 = 0 from rfl, e, show nI 0 * I 135 (9 * 0 + 0) = nI 0 from Int32.zero_mul]
    rfl
  · have := stM_en (I := I) (k := 0) (n := 0) (g := fun _ => 0) (fb := fun _ => 0) (cl := fun _ => okB w h I0 0 (fun _ => 0) 0) hA hwh hrk hcH hfr hn (fun j hj => absurd hj (Nat.not_lt_zero j)) (fun j hj => absurd hj (Nat.not_lt_zero j)) hC (fun _ => rfl) rfl
    rw [Nat.zero_mod, Nat.zero_div, hi0] at this
    have e : CSK w h I0 0 (stC w h I0 (fun _ => 0) 0) = 0 := hCS
    rw [e] at this
    exact this
  · exact SV_0 hu hA hwh (fun d => okB_K) rfl
  · unfold MSK
    have h1 := pop_le (OFK w h I0 (w * h)) (fun i => !(fun _ => false : Nat → Bool) i)
    have h2 := pop_le 4 (okB w h I0 0 (fun _ => 0) 0)
    have e1 : sm (fun j => pop 4 ((fun _ => okB w h I0 0 (fun _ => 0) 0 : Nat → Nat → Bool) j) + 1) (0 + 1) = 0 + (pop 4 (okB w h I0 0 (fun _ => 0) 0) + 1) := rfl
    have e2 : sm (fun j => if (fun _ => 0 : Nat → Nat) j = 0 then 0 else 1) (0 + 1) = 0 + 0 := rfl
    rw [e1, e2]
    omega
end SQ_
