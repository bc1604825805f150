/-! the class's memory as clues and marks; the possible fillings of a line as bits (own work) -/
def cW (I : fx_MI) : Nat := nv (I 1 0)
def cH (I : fx_MI) : Nat := nv (I 1 1)
def cC (I : fx_MI) : Nat := nv (I 1 2)
def dimC (I : fx_MI) : Prop := ∃ w h c, (1 ≤ w ∧ w ≤ 8) ∧ (1 ≤ h ∧ h ≤ 8) ∧ (1 ≤ c ∧ c ≤ 3) ∧ I 1 0 = nI w ∧ I 1 1 = nI h ∧ I 1 2 = nI c
theorem dimC_of {I : fx_MI} (hd : dimC I) : (1 ≤ cW I ∧ cW I ≤ 8) ∧ (1 ≤ cH I ∧ cH I ≤ 8) ∧ (1 ≤ cC I ∧ cC I ≤ 3) ∧ I 1 0 = nI (cW I) ∧ I 1 1 = nI (cH I) ∧ I 1 2 = nI (cC I) := by
  obtain ⟨w, h, c, h1, h2, h3, e1, e2, e3⟩ := hd
  unfold cW cH cC
  rw [e1, e2, e3, nv_nI (by omega), nv_nI (by omega), nv_nI (by omega)]
  exact ⟨h1, h2, h3, rfl, rfl, rfl⟩
/-- the clues at place q as a row -/
def cf (I : fx_MI) (q k : Nat) : Int32 := if k < 16 then zb (bt (I q 0) k) else if k < 32 then I (q + 1) (k - 16) else if k < 160 then I (q + 3) (k - 32) else I (q + 4) (k - 160)
/-- the layer at place o as marks -/
def cu (w : Nat) (J : fx_MJ) (o k : Nat) : Nat := mskF 4 (fun c => lb (J (o + 1) c) (8 * (k / w) + k % w))
def lyO (w h : Nat) (J : fx_MJ) (o : Nat) : Prop := ∀ c, c < 4 → ∀ i, i < 64 → lb (J (o + 1) c) i = true → i % 8 < w ∧ i / 8 < h
theorem cf_has {I : fx_MI} {q l : Nat} (hl : l < 16) : cf I q l = zb (bt (I q 0) l) := if_pos hl
theorem cf_n0 {I : fx_MI} {q l : Nat} (hl : l < 16) : (¬ cf I q l = nI 0) = (bt (I q 0) l = true) := by
  rw [cf_has hl]
  cases bt (I q 0) l <;> simp [zb, lit, nI_eq']
theorem cf_sz {I : fx_MI} {q l : Nat} (hl : l < 16) : cf I q (16 + l) = I (q + 1) l := by
  unfold cf
  rw [if_neg (by omega), if_pos (by omega), Nat.add_sub_cancel_left]
theorem cf_ln {I : fx_MI} {q l b : Nat} (hl : l < 16) (hb : b < 8) : cf I q (32 + (8 * l + b)) = I (q + 3) (8 * l + b) := by
  unfold cf
  rw [if_neg (by omega), if_neg (by omega), if_pos (by omega), Nat.add_sub_cancel_left]
theorem cf_co {I : fx_MI} {q l b : Nat} : cf I q (160 + (8 * l + b)) = I (q + 4) (8 * l + b) := by
  unfold cf
  rw [if_neg (by omega), if_neg (by omega), if_neg (by omega), Nat.add_sub_cancel_left]
theorem cf_fr {I I' : fx_MI} {q : Nat} (h0 : I' q 0 = I q 0) (h1 : ∀ j, I' (q + 1) j = I (q + 1) j) (h3 : ∀ j, I' (q + 3) j = I (q + 3) j) (h4 : ∀ j, I' (q + 4) j = I (q + 4) j) : cf I' q = cf I q := by
  funext k
  unfold cf
  rw [h0, h1, h3, h4]
theorem cu_fr {w : Nat} {J J' : fx_MJ} {o : Nat} (h : ∀ c, J' (o + 1) c = J (o + 1) c) : cu w J' o = cu w J o := by
  funext k
  unfold cu
  simp only [h]
theorem tb_iff (x c : Nat) : (x.testBit c = true) ↔ x / 2 ^ c % 2 = 1 := by
  rw [Nat.testBit_eq_decide_div_mod_eq, decide_eq_true_eq]
theorem cu_16 {w : Nat} {J : fx_MJ} {o k : Nat} : cu w J o k < 16 := mskF_lt 4 _
theorem cu_bit {w : Nat} {J : fx_MJ} {o k c : Nat} (hc : c < 4) : cu w J o k / 2 ^ c % 2 = 1 ↔ lb (J (o + 1) c) (8 * (k / w) + k % w) = true := by
  rw [← tb_iff]
  unfold cu
  rw [mskF_bit]
  simp [hc]
/-- where cell i of line l stands -/
def plc (h l i : Nat) : Nat := if l < h then 8 * l + i else 8 * i + (l - h)
theorem dm_ {w l i : Nat} (hi : i < w) : (w * l + i) / w = l ∧ (w * l + i) % w = i := ⟨by rw [Nat.mul_add_div (by omega), Nat.div_eq_of_lt hi, Nat.add_zero], by rw [Nat.mul_add_mod, Nat.mod_eq_of_lt hi]⟩
theorem atN_dm {w h l i : Nat} (hl : l < h + w) (hi : i < cellsN w h l) : 8 * (atN w h l i / w) + atN w h l i % w = plc h l i := by
  unfold cellsN at hi
  unfold atN plc
  by_cases h1 : l < h
  · rw [if_pos h1] at hi ⊢
    have e := dm_ (l := l) hi
    rw [if_pos h1, e.1, e.2]
  · rw [if_neg h1] at hi ⊢
    have e := dm_ (l := i) (show l - h < w by omega)
    rw [if_neg h1, show w * i + l - h = w * i + (l - h) by omega, e.1, e.2]
/-- the cells of a line that can have a color, as bits -/
def cnM (w h : Nat) (u : Nat → Nat) (l c : Nat) : Nat := mskF 8 (fun i => decide (i < cellsN w h l) && (u (atN w h l i)).testBit c)
theorem cnM_bt {w h : Nat} {u : Nat → Nat} {l c i : Nat} (hn : cellsN w h l ≤ 8) : bt (nI (cnM w h u l c)) i = true ↔ cnB w h u l c i := by
  unfold cnB
  by_cases hi : i < 32
  · rw [b_nI hi, cnM, mskF_bit, ← tb_iff]
    by_cases h1 : i < cellsN w h l
    · simp [h1, show i < 8 by omega]
    · simp [h1]
  · rw [b_big (by omega)]
    simp [show ¬ i < cellsN w h l by omega]
/-! shifts; cells reached across cells of a set -/
def uS_ (x : Int32) (k : Nat) : Int32 := (x.toUInt32 >>> ((nI k).toUInt32 &&& Int32.toUInt32 (nI 31))).toInt32
def lS_ (x : Int32) (k : Nat) : Int32 := x <<< (nI k &&& nI 31)
theorem uS_b {k : Nat} (hk : k < 32) (x : Int32) (i : Nat) : bt (uS_ x k) i = bt x (k + i) := b_ushr hk x i
theorem lS_b {k : Nat} (hk : k < 32) (x : Int32) {i : Nat} (hi : i < 32) : bt (lS_ x k) i = (decide (k ≤ i) && bt x (i - k)) := b_shl hk x hi
def tw_ (one : Int32) : Int32 := one &&& uS_ one 1
def fo_ (one : Int32) : Int32 := tw_ one &&& uS_ (tw_ one) 2
def rA_ (k : Nat) (x g : Int32) : Int32 := x ||| lS_ (x &&& g) k
def rB_ (k : Nat) (x g : Int32) : Int32 := x ||| (uS_ x k &&& g)
def acI (one pl : Int32) : Int32 := rA_ 1 (rA_ 4 (rA_ 2 (rA_ 1 pl one) (tw_ one)) (fo_ one)) one
def baI (one pl : Int32) : Int32 := rB_ 1 (rB_ 4 (rB_ 2 (rB_ 1 pl one) (tw_ one)) (fo_ one)) one
def RcA (one pl : Int32) (k p : Nat) : Prop := ∃ q, q ≤ p ∧ p ≤ q + k ∧ bt pl q = true ∧ ∀ i, q ≤ i → i < p → bt one i = true
def RcB (one pl : Int32) (k p : Nat) : Prop := ∃ q, p ≤ q ∧ q ≤ p + k ∧ bt pl q = true ∧ ∀ i, p ≤ i → i < q → bt one i = true
def gj_ (one g : Int32) (j : Nat) : Prop := ∀ i, bt g i = true ↔ ∀ t, i ≤ t → t < i + j → bt one t = true
theorem gj_1 (one : Int32) : gj_ one one 1 := fun i => ⟨fun h t h1 h2 => by rw [show t = i by omega]; exact h, fun h => h i (Nat.le_refl _) (by omega)⟩
theorem gj_d {one g : Int32} {j : Nat} (hj : j < 16) (h : gj_ one g j) : gj_ one (g &&& uS_ g j) (j + j) := fun i => by
  rw [b_and, uS_b (by omega), Bool.and_eq_true, h i, h (j + i)]
  constructor
  · rintro ⟨h1, h2⟩ t h3 h4
    by_cases h5 : t < i + j
    · exact h1 t h3 h5
    · exact h2 t (by omega) (by omega)
  · intro h1
    exact ⟨fun t h2 h3 => h1 t h2 (by omega), fun t h2 h3 => h1 t (by omega) (by omega)⟩
theorem rA_s {one pl x g : Int32} {k j : Nat} (hj : j < 32) (hk : j ≤ k + 1) (hg : gj_ one g j) (hx : ∀ p, p < 32 → (bt x p = true ↔ RcA one pl k p)) : ∀ p, p < 32 → (bt (rA_ j x g) p = true ↔ RcA one pl (k + j) p) := by
  intro p hp
  unfold rA_
  rw [b_or, lS_b hj _ hp, b_and, Bool.or_eq_true, hx p hp, Bool.and_eq_true, Bool.and_eq_true, decide_eq_true_eq, hx _ (by omega), hg]
  constructor
  · rintro (⟨q, h1, h2, h3, h4⟩ | ⟨h0, ⟨q, h1, h2, h3, h4⟩, h5⟩)
    · exact ⟨q, h1, by omega, h3, h4⟩
    · refine ⟨q, by omega, by omega, h3, fun i h6 h7 => ?_⟩
      by_cases h8 : i < p - j
      · exact h4 i h6 h8
      · exact h5 i (by omega) (by omega)
  · rintro ⟨q, h1, h2, h3, h4⟩
    by_cases h5 : p ≤ q + k
    · exact Or.inl ⟨q, h1, h5, h3, h4⟩
    · exact Or.inr ⟨by omega, ⟨q, by omega, by omega, h3, fun i h6 h7 => h4 i h6 (by omega)⟩, fun t h6 h7 => h4 t (by omega) (by omega)⟩
theorem rB_s {one pl x g : Int32} {k j : Nat} (hj : j < 32) (hk : j ≤ k + 1) (hg : gj_ one g j) (hx : ∀ p, bt x p = true ↔ RcB one pl k p) : ∀ p, bt (rB_ j x g) p = true ↔ RcB one pl (k + j) p := by
  intro p
  unfold rB_
  rw [b_or, b_and, uS_b hj, Bool.or_eq_true, hx p, Bool.and_eq_true, hx, hg]
  constructor
  · rintro (⟨q, h1, h2, h3, h4⟩ | ⟨⟨q, h1, h2, h3, h4⟩, h5⟩)
    · exact ⟨q, h1, by omega, h3, h4⟩
    · refine ⟨q, by omega, by omega, h3, fun i h6 h7 => ?_⟩
      by_cases h8 : i < p + j
      · exact h5 i h6 h8
      · exact h4 i (by omega) h7
  · rintro ⟨q, h1, h2, h3, h4⟩
    by_cases h5 : q ≤ p + k
    · exact Or.inl ⟨q, h1, h5, h3, h4⟩
    · exact Or.inr ⟨⟨q, by omega, by omega, h3, fun i h6 h7 => h4 i (by omega) h7⟩, fun t h6 h7 => h4 t h6 (by omega)⟩
theorem acI_b {one pl : Int32} (h8 : ∀ i, bt one i = true → i < 8) {p : Nat} (hp : p < 32) : bt (acI one pl) p = true ↔ ∃ q, q ≤ p ∧ bt pl q = true ∧ ∀ i, q ≤ i → i < p → bt one i = true := by
  have g1 := gj_1 one
  have g2 := gj_d (by omega) g1
  have g4 := gj_d (by omega) g2
  have s0 : ∀ p, p < 32 → (bt pl p = true ↔ RcA one pl 0 p) := fun p hp => ⟨fun h => ⟨p, Nat.le_refl _, Nat.le_refl _, h, fun i h1 h2 => by omega⟩, fun ⟨q, h1, h2, h3, h4⟩ => by rw [show p = q by omega]; exact h3⟩
  have s4 := rA_s (by omega) (by omega) g1 (rA_s (by omega) (by omega) g4 (rA_s (by omega) (by omega) g2 (rA_s (by omega) (by omega) g1 s0)))
  refine Iff.trans (s4 p hp) ⟨fun ⟨q, h1, h2, h3, h4⟩ => ⟨q, h1, h3, h4⟩, fun ⟨q, h1, h3, h4⟩ => ⟨q, h1, ?_, h3, h4⟩⟩
  rcases Nat.eq_or_lt_of_le h1 with h5 | h5
  · omega
  · have := h8 _ (h4 (p - 1) (by omega) (by omega))
    omega
theorem baI_b {one pl : Int32} (h8 : ∀ i, bt one i = true → i < 8) {p : Nat} : bt (baI one pl) p = true ↔ ∃ q, p ≤ q ∧ bt pl q = true ∧ ∀ i, p ≤ i → i < q → bt one i = true := by
  have g1 := gj_1 one
  have g2 := gj_d (by omega) g1
  have g4 := gj_d (by omega) g2
  have s0 : ∀ p, bt pl p = true ↔ RcB one pl 0 p := fun p => ⟨fun h => ⟨p, Nat.le_refl _, Nat.le_refl _, h, fun i h1 h2 => by omega⟩, fun ⟨q, h1, h2, h3, h4⟩ => by rw [show p = q by omega]; exact h3⟩
  have s4 := rB_s (by omega) (by omega) g1 (rB_s (by omega) (by omega) g4 (rB_s (by omega) (by omega) g2 (rB_s (by omega) (by omega) g1 s0)))
  refine Iff.trans (s4 p) ⟨fun ⟨q, h1, h2, h3, h4⟩ => ⟨q, h1, h3, h4⟩, fun ⟨q, h1, h3, h4⟩ => ⟨q, h1, ?_, h3, h4⟩⟩
  rcases Nat.eq_or_lt_of_le h1 with h5 | h5
  · omega
  · have := h8 _ (h4 (q - 1) (by omega) (by omega))
    omega
/-! the bits of front, starts, back -/
def ruI (x : Int32) : Nat → Int32
  | 0 => x
  | k + 1 => ruI x k &&& uS_ x (k + 1)
def stF (cn : Nat → Int32) (f : Nat → Int32) (l b : Nat) (x : Int32) : Int32 := (if gapN f l b = 0 then x else lS_ (x &&& cn 0) 1) &&& ruI (cn (colN f l b)) (lenN f l b - 1)
def frI (cn : Nat → Int32) (f : Nat → Int32) (l : Nat) : Nat → Int32
  | 0 => acI (cn 0) (nI 1)
  | b + 1 => acI (cn 0) (lS_ (stF cn f l b (frI cn f l b)) (lenN f l b))
def stI (cn : Nat → Int32) (f : Nat → Int32) (l b : Nat) : Int32 := stF cn f l b (frI cn f l b)
def plB (cn : Nat → Int32) (f : Nat → Int32) (l b : Nat) (x : Int32) : Int32 := if b + 1 < manyN f l ∧ gapN f l (b + 1) = 1 then uS_ x 1 &&& cn 0 else x
def s2F (cn : Nat → Int32) (f : Nat → Int32) (l b : Nat) (x st : Int32) : Int32 := st &&& uS_ (plB cn f l b x) (lenN f l b)
def bkD (cn : Nat → Int32) (f : Nat → Int32) (l n : Nat) : Nat → Int32
  | 0 => baI (cn 0) (lS_ (nI 1) n)
  | d + 1 => baI (cn 0) (s2F cn f l (manyN f l - (d + 1)) (bkD cn f l n d) (stI cn f l (manyN f l - (d + 1))))
def bkI (cn : Nat → Int32) (f : Nat → Int32) (l n b : Nat) : Int32 := bkD cn f l n (manyN f l - b)
def s2I (cn : Nat → Int32) (f : Nat → Int32) (l n b : Nat) : Int32 := s2F cn f l b (bkI cn f l n (b + 1)) (stI cn f l b)
theorem bkI_s {cn f : Nat → Int32} {l n b : Nat} (hb : b < manyN f l) : bkI cn f l n b = baI (cn 0) (s2I cn f l n b) := by
  unfold bkI s2I bkI
  rw [show manyN f l - b = (manyN f l - (b + 1)) + 1 by omega]
  show baI (cn 0) (s2F cn f l (manyN f l - (manyN f l - (b + 1) + 1)) _ (stI cn f l (manyN f l - (manyN f l - (b + 1) + 1)))) = _
  rw [show manyN f l - (manyN f l - (b + 1) + 1) = b by omega]
section LB_
variable {w h : Nat} {f : Nat → Int32} {u : Nat → Nat} {l : Nat} {cn : Nat → Int32}
def cnOK (w h : Nat) (u : Nat → Nat) (l : Nat) (cn : Nat → Int32) : Prop := ∀ c, c < 4 → ∀ i, bt (cn c) i = true ↔ cnB w h u l c i
theorem ruI_b {x : Int32} : ∀ {k : Nat}, k < 31 → ∀ i, bt (ruI x k) i = true ↔ ∀ t, t ≤ k → bt x (i + t) = true
  | 0, _, i => ⟨fun h t ht => by rw [show t = 0 by omega]; exact h, fun h => h 0 (Nat.le_refl _)⟩
  | k + 1, hk, i => by
    show bt (ruI x k &&& uS_ x (k + 1)) i = true ↔ _
    rw [b_and, uS_b (by omega), Bool.and_eq_true, ruI_b (by omega) i]
    constructor
    · rintro ⟨h1, h2⟩ t ht
      by_cases h3 : t ≤ k
      · exact h1 t h3
      · rw [show i + t = k + 1 + i by omega]
        exact h2
    · intro h1
      refine ⟨fun t ht => h1 t (by omega), ?_⟩
      rw [show k + 1 + i = i + (k + 1) by omega]
      exact h1 _ (Nat.le_refl _)
theorem run_b {b : Nat} (hok : okl 3 f l) (hb : b < manyN f l) (hc : cnOK w h u l cn) (a : Nat) : bt (ruI (cn (colN f l b)) (lenN f l b - 1)) a = true ↔ runB w h f u l b a := by
  have h1 := len_eq hok hb
  have h2 := col_eq (by omega) hok hb
  rw [ruI_b (by omega)]
  unfold runB
  constructor
  · intro g i hi
    exact (hc _ (by omega) _).mp (g i (by omega))
  · intro g t ht
    exact (hc _ (by omega) _).mpr (g t (by omega))
theorem stF_b {b : Nat} {x : Int32} (hok : okl 3 f l) (hb : b < manyN f l) (hc : cnOK w h u l cn) (hx : ∀ p, p < 32 → (bt x p = true ↔ FR w h f u l b p)) {a : Nat} (ha : a < 32) : bt (stF cn f l b x) a = true ↔ SFr w h f u l b a := by
  unfold stF
  rw [b_and, Bool.and_eq_true, run_b hok hb hc]
  rcases gapN_01 (f := f) (l := l) b with hg | ⟨hg, hb0⟩
  · rw [if_pos hg, SFr_g0 hg, hx a ha]
  · rw [if_neg (by omega), SFr_g1 hg hb0, lS_b (by omega) _ ha, Bool.and_eq_true, decide_eq_true_eq, b_and, Bool.and_eq_true, hx _ (by omega), hc 0 (by omega)]
theorem emp_b (hc : cnOK w h u l cn) {a e : Nat} : (∀ i, a ≤ i → i < e → bt (cn 0) i = true) ↔ emp w h u l a e := ⟨fun g i h1 h2 => (hc 0 (by omega) i).mp (g i h1 h2), fun g i h1 h2 => (hc 0 (by omega) i).mpr (g i h1 h2)⟩
theorem cn_8 (hn : cellsN w h l ≤ 8) (hc : cnOK w h u l cn) : ∀ i, bt (cn 0) i = true → i < 8 := fun i hi => by
  have := ((hc 0 (by omega) i).mp hi).1
  omega
theorem frI_b (hok : okl 3 f l) (hn : cellsN w h l ≤ 8) (hc : cnOK w h u l cn) : ∀ {b : Nat}, b ≤ manyN f l → ∀ p, p < 32 → (bt (frI cn f l b) p = true ↔ FR w h f u l b p)
  | 0, _, p, hp => by
    have e1 : ∀ j, j < 32 → bt (nI 1) j = decide (j = 0) := by decide +kernel
    show bt (acI (cn 0) (nI 1)) p = true ↔ _
    rw [acI_b (cn_8 hn hc) hp, FR_0]
    constructor
    · rintro ⟨q, h1, h2, h3⟩
      rw [e1 q (by omega), decide_eq_true_eq] at h2
      subst h2
      have h4 := (emp_b hc).mp h3
      refine ⟨?_, h4⟩
      rcases Nat.eq_zero_or_pos p with h5 | h5
      · omega
      · have := (h4 (p - 1) (by omega) (by omega)).1
        omega
    · rintro ⟨h1, h2⟩
      exact ⟨0, Nat.zero_le _, by rw [e1 0 (by omega)]; rfl, (emp_b hc).mpr h2⟩
  | b + 1, hb, p, hp => by
    have h1 := len_eq hok (show b < manyN f l by omega)
    show bt (acI (cn 0) (lS_ (stF cn f l b (frI cn f l b)) (lenN f l b))) p = true ↔ _
    rw [acI_b (cn_8 hn hc) hp, FR_s hok (by omega)]
    constructor
    · rintro ⟨q, h2, h3, h4⟩
      rw [lS_b (by omega) _ (by omega), Bool.and_eq_true, decide_eq_true_eq, stF_b hok (by omega) hc (frI_b hok hn hc (by omega)) (by omega)] at h3
      refine ⟨q - lenN f l b, h3.2, by omega, ?_⟩
      rw [show q - lenN f l b + lenN f l b = q by omega]
      exact (emp_b hc).mp h4
    · rintro ⟨a, h2, h3, h4⟩
      refine ⟨a + lenN f l b, h3, ?_, (emp_b hc).mpr h4⟩
      rw [lS_b (by omega) _ (by omega), Bool.and_eq_true, decide_eq_true_eq, stF_b hok (by omega) hc (frI_b hok hn hc (by omega)) (by omega), Nat.add_sub_cancel]
      exact ⟨by omega, h2⟩
theorem stI_b {b : Nat} (hok : okl 3 f l) (hn : cellsN w h l ≤ 8) (hc : cnOK w h u l cn) (hb : b < manyN f l) {a : Nat} (ha : a < 32) : bt (stI cn f l b) a = true ↔ SFr w h f u l b a := stF_b hok hb hc (frI_b hok hn hc (by omega)) ha
theorem s2F_b {b : Nat} {x : Int32} (hok : okl 3 f l) (hn : cellsN w h l ≤ 8) (hc : cnOK w h u l cn) (hb : b < manyN f l) (hx : ∀ q, bt x q = true ↔ BK w h f u l (b + 1) q) (a : Nat) : bt (s2F cn f l b x (stI cn f l b)) a = true ↔ SB w h f u l b a := by
  have h1 := len_eq hok hb
  unfold s2F
  by_cases ha : a < 32
  · rw [b_and, Bool.and_eq_true, stI_b hok hn hc hb ha, SB_i hok hb, uS_b (by omega), Nat.add_comm (lenN f l b) a]
    refine and_congr_right fun _ => ?_
    unfold plB AF
    split
    · rw [b_and, uS_b (by omega), Bool.and_eq_true, hx, hc 0 (by omega), Nat.add_comm 1, and_comm]
    · rw [hx]
  · rw [b_big (by omega)]
    constructor
    · intro z
      cases z
    · intro z
      have := SB_lt hok hb z
      omega
theorem bkD_b (hok : okl 3 f l) (hn : cellsN w h l ≤ 8) (hc : cnOK w h u l cn) : ∀ {d : Nat}, d ≤ manyN f l → ∀ q, bt (bkD cn f l (cellsN w h l) d) q = true ↔ BK w h f u l (manyN f l - d) q
  | 0, _, q => by
    have e1 : ∀ j, j < 32 → bt (nI 1) j = decide (j = 0) := by decide +kernel
    show bt (baI (cn 0) (lS_ (nI 1) (cellsN w h l))) q = true ↔ _
    rw [baI_b (cn_8 hn hc), Nat.sub_zero, BK_m]
    constructor
    · rintro ⟨p, h1, h2, h3⟩
      have hp : p < 32 := by
        rcases Nat.lt_or_ge p 32 with h4 | h4
        · exact h4
        · rw [b_big h4] at h2
          cases h2
      rw [lS_b (by omega) _ hp, Bool.and_eq_true, decide_eq_true_eq, e1 _ (by omega), decide_eq_true_eq] at h2
      have e : p = cellsN w h l := by omega
      subst e
      exact ⟨h1, (emp_b hc).mp h3⟩
    · rintro ⟨h1, h2⟩
      refine ⟨cellsN w h l, h1, ?_, (emp_b hc).mpr h2⟩
      rw [lS_b (by omega) _ (by omega), e1 _ (by omega)]
      simp
  | d + 1, hd, q => by
    have ih := bkD_b hok hn hc (d := d) (by omega)
    have e : manyN f l - (d + 1) + 1 = manyN f l - d := by omega
    show bt (baI (cn 0) (s2F cn f l (manyN f l - (d + 1)) (bkD cn f l (cellsN w h l) d) (stI cn f l (manyN f l - (d + 1))))) q = true ↔ _
    rw [baI_b (cn_8 hn hc), BK_s hok (by omega)]
    have key := s2F_b (x := bkD cn f l (cellsN w h l) d) hok hn hc (show manyN f l - (d + 1) < manyN f l by omega) (by rw [e]; exact ih)
    constructor
    · rintro ⟨p, h1, h2, h3⟩
      exact ⟨p, (key p).mp h2, h1, (emp_b hc).mp h3⟩
    · rintro ⟨p, h1, h2, h3⟩
      exact ⟨p, h2, (key p).mpr h1, (emp_b hc).mpr h3⟩
theorem bkI_b {b : Nat} (hok : okl 3 f l) (hn : cellsN w h l ≤ 8) (hc : cnOK w h u l cn) (hb : b ≤ manyN f l) (q : Nat) : bt (bkI cn f l (cellsN w h l) b) q = true ↔ BK w h f u l b q := by
  have := bkD_b hok hn hc (d := manyN f l - b) (by omega) q
  rw [show manyN f l - (manyN f l - b) = b by omega] at this
  exact this
theorem s2I_b {b : Nat} (hok : okl 3 f l) (hn : cellsN w h l ≤ 8) (hc : cnOK w h u l cn) (hb : b < manyN f l) (a : Nat) : bt (s2I cn f l (cellsN w h l) b) a = true ↔ SB w h f u l b a := s2F_b hok hn hc hb (bkI_b hok hn hc (by omega)) a
end LB_
