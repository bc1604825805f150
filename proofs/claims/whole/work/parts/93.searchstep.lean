/-! the class: the search's steps in its memory (own work) -/
section SP_
variable {w h : Nat} {f : Nat → Int32} {u : Nat → Nat} {I0 I : fx_MI}
theorem least4 {G : Nat → Bool} : ∀ {m d : Nat}, d < m → G d = true → ∃ c, G c = true ∧ ∀ e, G e = true → c ≤ e
  | 0, d, hd, _ => absurd hd (Nat.not_lt_zero d)
  | m + 1, d, hd, hG => by
    by_cases h1 : ∃ e, e < m ∧ G e = true
    · obtain ⟨e, he, hGe⟩ := h1
      exact least4 he hGe
    · refine ⟨d, hG, fun e he => ?_⟩
      rcases Nat.lt_or_ge e d with h2 | h2
      · exact absurd ⟨e, by omega, he⟩ h1
      · exact h2
theorem clr_msk {G : Nat → Bool} {c : Nat} (hc4 : c < 4) (hc : G c = true) (hlow : ∀ d, G d = true → c ≤ d) : nI (mskF 4 G) &&& (nI (mskF 4 G) - nI 1) = nI (mskF 4 (fun d => G d && !decide (d = c))) := by
  have hb : ∀ i, i < 32 → bt (nI (mskF 4 G)) i = (decide (i < 4) && G i) := fun i hi => by rw [b_nI hi, mskF_bit]
  refine b_ext fun i hi => ?_
  rw [clr_low (k := c) (by omega) (by rw [hb c (by omega), decide_eq_true hc4, hc]; rfl) (fun i hi => by
    rw [hb i (by omega)]
    cases hG : G i
    · rw [Bool.and_false]
    · have := hlow i hG
      omega) hi, hb i hi, b_nI hi, mskF_bit, Bool.and_assoc]
theorem low_msk {G : Nat → Bool} {c : Nat} (hc4 : c < 4) (hc : G c = true) (hlow : ∀ d, G d = true → c ≤ d) : lowI (nI (mskF 4 G)).toInt64 = nI c := by
  have h16 : mskF 4 G < 16 := mskF_lt 4 G
  refine lowI_at (by omega) ?_ fun i hi => ?_
  · rw [l_i2lN (by omega) (by omega), mskF_bit, decide_eq_true hc4, hc]
    rfl
  · rw [l_i2lN (by omega) (by omega), mskF_bit]
    cases hG : G i
    · rw [Bool.and_false]
    · have := hlow i hG
      omega
theorem stM_1 {I1 : fx_MI} {k n n' c : Nat} {g fb : Nat → Nat} {cl : Nat → Nat → Bool} (hw : 1 ≤ w ∧ w ≤ 8) (hS : stM w h I0 I k g cl fb n) (hc4 : c < 4) (hc : cl k c = true) (hlow : ∀ d, cl k d = true → c ≤ d)
    (e1 : ∀ q j, q ≠ 123 → q ≠ 127 → q ≠ 128 → (q ≠ 117 ∨ j ≠ 15) → I1 q j = I q j) (e117 : I1 117 15 = nI n') (e127 : ∀ j, I1 127 j = if j = idxK w k then I 127 (idxK w k) &&& (I 127 (idxK w k) - nI 1) else I 127 j) (e128 : ∀ j, I1 128 j = if j = idxK w k then nI c else I 128 j) (e123 : ∀ x, x ≠ k % w → I1 123 x = I 123 x) :
    stM w h I0 I1 k (g1K k c g) (cl1K k c cl) fb n' ∧ I1 128 (idxK w k) = nI c := by
  obtain ⟨hfr, hn, hent, hcol, hC⟩ := hS
  refine ⟨⟨fun q j h1 h2 => by rw [e1 q j (by omega) (by omega) (by omega) h2]; exact hfr q j h1 h2, e117, fun j hj => ?_, fun j hj => ?_, fun x hx hne => ?_⟩, by rw [e128, if_pos rfl]⟩
  · obtain ⟨⟨a1, a2, a3⟩, a4, a5⟩ := hent j hj
    have hst := g1_st (w := w) (h := h) (I := I0) (c := c) (g := g) hj
    unfold enK
    rw [e1 124 _ (by omega) (by omega) (by omega) (by omega), e1 125 _ (by omega) (by omega) (by omega) (by omega), e1 126 _ (by omega) (by omega) (by omega) (by omega), e1 129 _ (by omega) (by omega) (by omega) (by omega), hst.1, hst.2, a1, a2, a3, a5, e127]
    refine ⟨⟨rfl, rfl, rfl⟩, ?_, rfl⟩
    unfold cl1K
    by_cases hjk : j = k
    · subst hjk
      rw [if_pos rfl, a4, clr_msk hc4 hc hlow]
      congr 2
      funext d
      rw [if_pos rfl]
    · rw [if_neg (fun z => hjk (idx_inj hw z)), a4]
      congr 2
      funext d
      rw [if_neg hjk]
  · rw [e128, if_neg (fun z => by have := idx_inj hw z; omega), hcol j hj, ← g1_lt j hj]
  · rw [e123 x hne, hC x hx hne, (g1_st (Nat.le_refl k)).1]
/-- the solution kept is the picture -/
theorem fs_pic {J : fx_MJ} {p : Nat → Nat} (hw : 1 ≤ w ∧ w ≤ 8) (hh : h ≤ 8) : ∀ {N : Nat}, N ≤ w * h → (∀ k, k < N → I 128 (idxK w k) = nI (p k) ∧ p k < 4) → (∀ q, q ≠ 119 → fsK I J w N q = J q) ∧ ∀ c i, c < 4 → i < 64 → (lb (fsK I J w N 119 c) i = true ↔ ∃ k, k < N ∧ idxK w k = i ∧ p k = c)
  | 0, _, _ => by
    have e0 : fsK I J w 0 = putF J 119 (-1) 0 := rfl
    refine ⟨fun q hq => by rw [e0]; unfold putF; exact fillL_row hq, fun c i hc hi => ?_⟩
    have e : fsK I J w 0 119 c = J 119 c &&& ((-1 : Int64) ^^^ -1) := by
      rw [e0]
      unfold putF
      rw [fillL_in (Nat.zero_le _) (by omega)]
      exact if_neg (by rw [show (0 : Int32) = nI 0 from rfl, b_00]; exact Bool.false_ne_true)
    rw [e, l_and, l_xor, l_m1 i hi]
    constructor
    · intro z
      simp at z
    · rintro ⟨k, hk, -⟩
      exact absurd hk (Nat.not_lt_zero k)
  | N + 1, hN, hp => by
    obtain ⟨h1, h2⟩ := fs_pic (J := J) (p := p) hw hh (N := N) (by omega) (fun k hk => hp k (by omega))
    obtain ⟨hN1, hN4⟩ := hp N (by omega)
    have hi64 : idxK w N < 64 := by
      have := idx_dm (k := N) hw
      have := (k_dm (w := w) (h := h) (k := N) (by omega)).2
      omega
    have e0 : fsK I J w (N + 1) = putF (fsK I J w N) 119 ((1 : Int64) <<< ((nI (idxK w N)).toInt64 &&& 63)) ((1 : Int32) <<< (I 128 (idxK w N) &&& nI 31)) := rfl
    refine ⟨fun q hq => by rw [← h1 q hq, e0]; unfold putF; exact fillL_row hq, fun c i hc hi => ?_⟩
    have e : fsK I J w (N + 1) 119 c = if bt ((1 : Int32) <<< (nI (p N) &&& nI 31)) c = true then fsK I J w N 119 c ||| (1 : Int64) <<< ((nI (idxK w N)).toInt64 &&& 63) else fsK I J w N 119 c &&& ((1 : Int64) <<< ((nI (idxK w N)).toInt64 &&& 63) ^^^ -1) := by
      rw [← hN1, e0]
      unfold putF
      rw [fillL_in (Nat.zero_le _) (by omega)]
      rfl
    rw [e, bt_one (by omega) (by omega)]
    by_cases hcp : c = p N
    · rw [if_pos (decide_eq_true hcp), l_or, lb_one hi64 hi, Bool.or_eq_true, h2 c i hc hi, decide_eq_true_eq]
      constructor
      · rintro (⟨k, g1, g2, g3⟩ | g1)
        · exact ⟨k, by omega, g2, g3⟩
        · exact ⟨N, by omega, g1.symm, hcp.symm⟩
      · rintro ⟨k, g1, g2, g3⟩
        by_cases hkN : k = N
        · exact Or.inr (by rw [← g2, hkN])
        · exact Or.inl ⟨k, by omega, g2, g3⟩
    · rw [if_neg (by rw [decide_eq_true_eq]; exact hcp), l_and, l_xor, lb_one hi64 hi, l_m1 i hi, Bool.and_eq_true, h2 c i hc hi]
      constructor
      · rintro ⟨⟨k, g1, g2, g3⟩, -⟩
        exact ⟨k, by omega, g2, g3⟩
      · rintro ⟨k, g1, g2, g3⟩
        have hkN : k ≠ N := fun z => hcp (by rw [← g3, z])
        refine ⟨⟨k, by omega, g2, g3⟩, ?_⟩
        rw [decide_eq_false (fun z => hkN (idx_inj hw (g2.trans z)))]
        rfl
def picM (w h : Nat) (J : fx_MJ) (p : Nat → Nat) : Prop := ∀ c i, c < 4 → i < 64 → (lb (J 119 c) i = true ↔ ∃ k, k < w * h ∧ idxK w k = i ∧ p k = c)
def rsK (w h : Nat) (f : Nat → Int32) (u : Nat → Nat) (I0 : fx_MI) (J0 : fx_MJ) (most : Nat) (I : fx_MI) (J : fx_MJ) (k : Nat) (g : Nat → Nat) (cl : Nat → Nat → Bool) (fb : Nat → Nat) (n : Nat) (dead : Nat → Bool) : Prop :=
  (stM w h I0 I k g cl fb n ∧ SVK w h f u I0 k g cl fb n dead) ∧ n ≤ most ∧ (∀ b, b < OFK w h I0 (w * h) → ddM J b = dead b) ∧ (∀ q, q ≠ 119 → q ≠ 120 → J q = J0 q) ∧ (0 < n → ∃ p, lexF (w * h) (sol w h f u) p ∧ picM w h J p)
theorem en_cong {g : Nat → Nat} {cl cl' : Nat → Nat → Bool} {fb fb' : Nat → Nat} {j : Nat} (h1 : cl' j = cl j) (h2 : fb' j = fb j) (he : enK w h I0 I g cl fb j) : enK w h I0 I g cl' fb' j := by
  unfold enK at he ⊢
  rw [h1, h2]
  exact he
theorem rs_next {J J0 : fx_MJ} {k n most nn : Nat} {g fb : Nat → Nat} {cl : Nat → Nat → Bool} {dead : Nat → Bool} (hu : ∀ k, k < w * h → u k < 16) (hA : autA w h f u I0) (hlo : loK w h I0) (hnn : OFK w h I0 (w * h) < 64 * nn) (hmost : most < 2147483648) (hR : rsK w h f u I0 J0 most I J k g cl fb n dead) (hn : n < most) (hcl : ∃ d, cl k d = true) :
    ∃ c, tnQ nn I (idxK w k) c (stC w h I0 g k (k % w)) (stR w I0 g k) ∧ ∀ r I' J', tnP nn I J (idxK w k) c (stC w h I0 g k (k % w)) (stR w I0 g k) r I' J' → ∃ k' g' cl' fb' n' dead', rsK w h f u I0 J0 most I' J' k' g' cl' fb' n' dead' ∧ r = some (.int (nI (idxK w k'))) ∧ MSK k' cl' fb' n' dead' (OFK w h I0 (w * h)) most < MSK k cl fb n dead (OFK w h I0 (w * h)) most := by
  obtain ⟨⟨hS, hV⟩, hnm, hdd, hJ0, hpic⟩ := hR
  obtain ⟨d, hd⟩ := hcl
  have hV' := hV
  obtain ⟨⟨v1, v2⟩, v3, -⟩ := hV'
  obtain ⟨c, hcc, hlow⟩ := least4 (m := 4) ((v3 k (Nat.le_refl _) d hd).1.2) hd
  have hok := (v3 k (Nat.le_refl _) c hcc).1
  have hc4 := hok.2
  have hrk := st_rk hA v1 v2
  have hw := hA.1
  have hh := hA.2.1
  have hwh : w * h ≤ 64 := Nat.mul_le_mul hw.2 hh.2
  obtain ⟨hm, hd0⟩ := k_dm v1
  have hdm := idx_dm (k := k) hw
  have hdm1 := idx_dm (k := k + 1) hw
  obtain ⟨hfr, hnI, hent, hcol, hC⟩ := hS
  have hS : stM w h I0 I k g cl fb n := ⟨hfr, hnI, hent, hcol, hC⟩
  obtain ⟨l0, l1, l2⟩ := hlo
  have hcW : cW I = w := by
    unfold cW
    rw [hfr 1 0 (by omega) (by omega), l0, nv_nI (by omega)]
  have hcH : cH I = h := by
    unfold cH
    rw [hfr 1 1 (by omega) (by omega), l1, nv_nI (by omega)]
  obtain ⟨t1, t2, t3, t4⟩ := tn_data hA ⟨l0, l1, l2⟩ hS v1 hrk hok
  rw [t3] at t2
  have hX : tnX I (idxK w k) = idxK w (k + 1) := by
    unfold tnX
    rw [hcW]
    exact idx_after hw v1
  have hb5 : stC w h I0 g k (k % w) < 5 ∧ stR w I0 g k < 5 := by
    have h1 := hrk.1
    have h2 := hrk.2 _ hm
    rw [if_neg (Nat.lt_irrefl _), Nat.add_zero] at h2
    have b1 := ((hA.2.2 (h + k % w) (by omega)).1.1 (k / w) (by omega)).2
    have b2 := ((hA.2.2 (k / w) (by omega)).1.1 (k % w) (by omega)).2
    omega
  have hk1 : (k + 1) / w < h → k + 1 < w * h := fun z => by
    have e : k + 1 = w * ((k + 1) / w) + (k + 1) % w := (Nat.div_add_mod _ w).symm
    rw [e]
    exact cell_in (Nat.mod_lt _ (by omega)) z
  have hC2 : ∀ x, x < w → tn2 I (idxK w k) c (stC w h I0 g k (k % w)) 123 x = nI (stC w h I0 (g1K k c g) (k + 1) x) := fun x hx => by
    unfold tn2 fx_up
    rw [hdm.2]
    by_cases hxk : x = k % w
    · rw [if_pos ⟨rfl, hxk⟩, t1, hxk]
    · rw [if_neg (fun z => hxk z.2)]
      have e : tn1 I (idxK w k) c 123 x = I 123 x := by
        unfold tn1
        rw [fx_up_ne (by omega), fx_up_ne (by omega)]
      rw [e, hC x hx hxk, st_1.1]
      unfold nxC
      rw [if_neg hxk]
  have hB : (k + 1) / w < h → tnB I (idxK w k) c (stC w h I0 g k (k % w)) (stR w I0 g k) = nI (bitK w h I0 (k + 1) (stC w h I0 (g1K k c g) (k + 1)) (stR w I0 (g1K k c g) (k + 1))) ∧ rkOK w h I0 (k + 1) (stC w h I0 (g1K k c g) (k + 1)) (stR w I0 (g1K k c g) (k + 1)) ∧ bitK w h I0 (k + 1) (stC w h I0 (g1K k c g) (k + 1)) (stR w I0 (g1K k c g) (k + 1)) < OFK w h I0 (w * h) := fun z => by
    have hk2 := hk1 z
    have hm2 := (k_dm hk2).1
    have b2 := (hA.2.2 ((k + 1) / w) (by omega)).1.1 ((k + 1) % w) (by omega)
    have hrk2 : rkOK w h I0 (k + 1) (stC w h I0 (g1K k c g) (k + 1)) (stR w I0 (g1K k c g) (k + 1)) := by
      rw [st_1.1, (st_1 (h := h)).2]
      exact rk_s hA hk2 hrk hok
    refine ⟨?_, hrk2, ?_⟩
    · unfold tnB
      rw [hX, hdm1.1, hdm1.2, t4, t2, hfr 121 _ (by omega) (by omega), (l2 (k + 1) hk2).1, hfr 135 _ (by omega) (by omega), b2.1, nI_mul', nI_add, nI_add]
      rfl
    · have h1 := bit_rg hk2 hrk2
      have h2 := OF_m (w := w) (h := h) (I := I0) (k := k + 1 + 1) (d := w * h - (k + 1 + 1))
      rw [show k + 1 + 1 + (w * h - (k + 1 + 1)) = w * h by omega] at h2
      omega
  have hOF := OF_all hA (k := w * h) (Nat.le_refl _)
  have hen := hent k (Nat.le_refl k)
  have hlowI : lowI (I 127 (idxK w k)).toInt64 = nI c := by
    rw [hen.2.1]
    exact low_msk hc4 hcc hlow
  refine ⟨c, ⟨⟨by rw [hdm.2, hcW]; exact hm, by rw [hdm.1, hcH]; exact hd0⟩, ⟨hc4, hb5.1, hb5.2⟩, hlowI, hen.1.2.1, hen.1.1, fun z => ?_⟩, fun r I' J' hP => ?_⟩
  · rw [hX, hdm1.1, hcH] at z
    obtain ⟨q1, q2, q3⟩ := hB z
    have hk2 := hk1 z
    have hm2 := (k_dm hk2).1
    have b1 := q2.1
    have b2 : stC w h I0 (g1K k c g) (k + 1) ((k + 1) % w) < nmT I0 (h + (k + 1) % w) ((k + 1) / w) := by
      have b0 := q2.2 _ hm2
      rw [if_neg (Nat.lt_irrefl _)] at b0
      exact b0
    have b3 := ((hA.2.2 (h + (k + 1) % w) (by omega)).1.1 ((k + 1) / w) (by omega)).2
    have b4 := ((hA.2.2 ((k + 1) / w) (by omega)).1.1 ((k + 1) % w) (by omega)).2
    refine ⟨_, _, _, q1, by omega, by omega, by rw [hX, hdm1.2]; exact hC2 _ hm2, by omega, t2, by omega⟩
  · have hid : I' = I' := rfl
    have e0 : ∀ q, q ≠ 127 → q ≠ 128 → tn1 I (idxK w k) c q = I q := fun q h1 h2 => by
      unfold tn1
      rw [fx_up_ne h2, fx_up_ne h1]
    have e127 : ∀ j, tn1 I (idxK w k) c 127 j = if j = idxK w k then I 127 (idxK w k) &&& (I 127 (idxK w k) - nI 1) else I 127 j := fun j => by
      unfold tn1
      rw [fx_up_ne (by omega)]
      unfold fx_up
      simp
    have e128 : ∀ j, tn1 I (idxK w k) c 128 j = if j = idxK w k then nI c else I 128 j := fun j => by
      unfold tn1 fx_up
      simp
    rcases Nat.lt_or_ge ((k + 1) / w) h with hlt | hge
    · obtain ⟨rfl, hcase⟩ := hP.2 (by rw [hX, hdm1.1, hcH]; exact hlt)
      obtain ⟨q1, q2, q3⟩ := hB hlt
      have hk2 := hk1 hlt
      have hm2 := (k_dm hk2).1
      have hS2 := stM_1 (I1 := tn2 I (idxK w k) c (stC w h I0 g k (k % w))) (n' := n) hw hS hc4 hcc hlow (fun q j g1 g2 g3 g4 => by
        unfold tn2
        rw [fx_up_ne g1, e0 q g2 g3]) (by
        unfold tn2
        rw [fx_up_ne (by omega), e0 _ (by omega) (by omega)]
        exact hnI) (fun j => by
        unfold tn2
        rw [fx_up_ne (by omega), e127]) (fun j => by
        unfold tn2
        rw [fx_up_ne (by omega), e128]) (fun x hx => by
        unfold tn2 fx_up
        rw [if_neg (fun z => hx (z.2.trans hdm.2))]
        exact congrFun (e0 123 (by omega) (by omega)) x)
      rw [q1, nv_nI (by omega), hdd _ q3, hX, hdm1.1, hdm1.2, t4, t2] at hcase
      rcases hcase with ⟨hdead, rfl, rfl⟩ | ⟨hdead, rfl, rfl⟩
      · obtain ⟨w1, w2⟩ := SV_refuse (most := most) (B := OFK w h I0 (w * h)) hu hA hV hk2 hcc hdead
        exact ⟨k, _, _, fb, n, dead, ⟨⟨hS2.1, w1⟩, hnm, hdd, hJ0, hpic⟩, rfl, w2⟩
      · obtain ⟨w1, w2⟩ := SV_enter (most := most) (B := OFK w h I0 (w * h)) (ok := okB w h I0 (k + 1) (stC w h I0 (g1K k c g) (k + 1)) (stR w I0 (g1K k c g) (k + 1))) hu hA hV hk2 (by omega) hcc hlow hdead (fun d => okB_K)
        refine ⟨k + 1, _, _, _, n, dead, ⟨⟨?_, w1⟩, hnm, hdd, hJ0, hpic⟩, rfl, w2⟩
        obtain ⟨⟨s1, s2, s3, s4, s5⟩, s6⟩ := hS2
        have ecH : cH (tn2 I (idxK w k) c (stC w h I0 g k (k % w))) = h := by
          unfold cH
          rw [s1 1 1 (by omega) (by omega), l1, nv_nI (by omega)]
        exact stM_en hA hk2 q2 ecH s1 s2 (fun j hj => en_cong (cl := cl1K k c cl) (fb := fb) (by unfold cl2K; funext d; exact if_neg (by omega)) (if_neg (by omega)) (s3 j (by omega))) (fun j hj => by
          by_cases hjk : j = k
          · rw [hjk, s6]
            exact congrArg nI (if_pos rfl).symm
          · exact s4 j (by omega)) hC2 (fun d => if_pos rfl) (if_pos rfl)
    · obtain ⟨rfl, rfl, rfl⟩ := hP.1 (by rw [hX, hdm1.1, hcH]; exact hge)
      have hkN : k + 1 = w * h := by
        rcases Nat.lt_or_ge (k + 1) (w * h) with h1 | h1
        · have := (k_dm h1).2
          omega
        · omega
      obtain ⟨w1, w2, w3, w4⟩ := SV_found (most := most) (B := OFK w h I0 (w * h)) hu hA hV hkN (by omega) hn hcc hlow
      have hS2 := stM_1 (I1 := fx_up (tn1 I (idxK w k) c) 117 15 (I 117 15 + 1)) (n' := n + 1) hw hS hc4 hcc hlow (fun q j g1 g2 g3 g4 => by
        unfold fx_up
        rw [if_neg (by omega), e0 q g2 g3]) (by
        unfold fx_up
        rw [if_pos ⟨rfl, rfl⟩, hnI]
        exact nI_add n 1) (fun j => by
        rw [fx_up_ne (by omega), e127]) (fun j => by
        rw [fx_up_ne (by omega), e128]) (fun x hx => by
        rw [fx_up_ne (by omega)]
        exact congrFun (e0 123 (by omega) (by omega)) x)
      have e120 : ∀ J1 : fx_MJ, (∀ q, q ≠ 119 → J1 q = J q) → ∀ b, ddM J1 b = ddM J b := fun J1 h1 b => by
        unfold ddM
        rw [h1 120 (by omega)]
      by_cases hn0 : n = 0
      · have hpi := fs_pic (I := tn1 I (idxK w k) c) (J := J) (p := g1K k c g) (N := w * h) hw hh.2 (Nat.le_refl _) (fun j hj => by
          obtain ⟨⟨s1, s2, s3, s4, s5⟩, s6⟩ := hS2
          rw [fx_up_ne (by omega)] at s6
          refine ⟨?_, bit_lt (hu j hj) (w4.1 j hj)⟩
          by_cases hjk : j = k
          · rw [hjk, s6]
            exact congrArg nI (if_pos rfl).symm
          · have := s4 j (by omega)
            rw [fx_up_ne (by omega)] at this
            exact this)
        have h0 : I 117 15 = 0 := by
          rw [hnI, hn0]
          rfl
        rw [if_pos h0, hcW, hcH]
        refine ⟨k, _, _, fb, n + 1, dead, ⟨⟨hS2.1, w1⟩, hn, fun b hb => by rw [e120 _ hpi.1]; exact hdd b hb, fun q g1 g2 => by rw [hpi.1 q g1]; exact hJ0 q g1 g2, fun _ => ⟨_, w3 hn0, hpi.2⟩⟩, rfl, w2⟩
      · have h0 : ¬ I 117 15 = 0 := by
          rw [hnI]
          intro z
          have := congrArg nv z
          rw [nv_nI (by omega)] at this
          exact hn0 this
        rw [if_neg h0]
        exact ⟨k, _, _, fb, n + 1, dead, ⟨⟨hS2.1, w1⟩, hn, hdd, hJ0, fun _ => hpic (by omega)⟩, rfl, w2⟩
end SP_
