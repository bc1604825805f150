/-! the class's memory against the reference's: what is the same (own work) -/
def clR (w h c : Nat) (I : fx_MI) (q : Nat) (f : Nat → Int32) : Prop :=
  (∀ l, l < 16 → okl c f l ∧ cf I q l = f l ∧ cf I q (16 + l) = f (16 + l) ∧ ∀ b, b < manyN f l → cf I q (32 + (8 * l + b)) = f (32 + (8 * l + b)) ∧ cf I q (160 + (8 * l + b)) = f (160 + (8 * l + b))) ∧
  (∀ l, bt (I q 0) l = true → l < h + w) ∧ ∀ l, l < h + w → I (q + 2) l = nI (roomN f l (manyN f l)) ∧ roomN f l (manyN f l) ≤ cellsN w h l
def mkR (w h c : Nat) (J : fx_MJ) (o : Nat) (f : Nat → Int32) : Prop := lyO w h J o ∧ ckO c J o ∧ ∀ k, k < w * h → f (288 + k) = nI (cu w J o k)
def pcR (w h : Nat) (J : fx_MJ) (o : Nat) (f : Nat → Int32) : Prop := ∀ c i, c < 4 → i < 64 → (lb (J (o + 1) c) i = true ↔ ∃ k, k < w * h ∧ idxK w k = i ∧ picN f k = c)
def sR (w h c : Nat) (I : fx_MI) (J : fx_MJ) (a : Nat) (f : Nat → Int32) : Prop := clR w h c I (a + 1) f ∧ mkR w h c J (a + 6) f ∧ pcR w h J (a + 8) f ∧ okp c f
def allC (I : fx_MI) (J : fx_MJ) : Prop := ∀ i, i < 64 → (lb (J 1 3) i = true ↔ i % 8 < cW I ∧ i / 8 < cH I)
def relD (I Ir : fx_MI) : Prop := dimC I ∧ I 1 0 = Ir 0 3 ∧ I 1 1 = Ir 0 4 ∧ I 1 2 = Ir 0 5
def relH (I : fx_MI) (J : fx_MJ) (Ir : fx_MI) : Prop := ∃ nx u, nx < 8 ∧ u ≤ 8 ∧ I 12 2 = nI nx ∧ I 12 1 = nI u ∧ Ir 0 2 = nI u ∧ ∀ t, t < u → sR (cW I) (cH I) (cC I) I J (rgP ((nx + 8 - u + t) % 8)) (fun k => Ir 2 (416 * t + k))
def relT (I Ir : fx_MI) : Prop := okt Ir ∧ I 94 1 = Ir 0 19 ∧ ∀ k, k < tlN Ir → I 95 k = Ir 10 k
def relN (I Ir : fx_MI) : Prop := I 138 5 = Ir 0 6 ∧ rg (Ir 0 6) 4 ∧ rg (Ir 0 7) 64 ∧ (¬ Ir 0 6 = nI 0 → (∃ k, k < cW I * cH I ∧ Ir 0 7 = nI k ∧ I 138 6 = nI (idxK (cW I) k)) ∧ (I 138 7 = Ir 0 8 ∧ rg (Ir 0 8) 16) ∧ I 138 8 = Ir 0 9)
def REL (I : fx_MI) (J : fx_MJ) (Ir : fx_MI) : Prop := (relD I Ir ∧ allC I J ∧ lyO (cW I) (cH I) J 113) ∧ sR (cW I) (cH I) (cC I) I J 2 (Ir 1) ∧ relH I J Ir ∧ relT I Ir ∧ relN I Ir
/-! parts that stay -/
section RL_
variable {w h c : Nat} {I I' : fx_MI} {J J' : fx_MJ} {f g : Nat → Int32}
theorem clR_fr {q : Nat} (hI : ∀ p j, q ≤ p → p ≤ q + 4 → I' p j = I p j) (h1 : clR w h c I q f) : clR w h c I' q f := by
  have e : cf I' q = cf I q := cf_fr (hI _ _ (by omega) (by omega)) (fun j => hI _ _ (by omega) (by omega)) (fun j => hI _ _ (by omega) (by omega)) (fun j => hI _ _ (by omega) (by omega))
  unfold clR
  rw [e, hI q 0 (by omega) (by omega)]
  exact ⟨h1.1, h1.2.1, fun l hl => by rw [hI (q + 2) l (by omega) (by omega)]; exact h1.2.2 l hl⟩
theorem mkR_fr {o : Nat} (hJ : ∀ d, J' (o + 1) d = J (o + 1) d) (h1 : mkR w h c J o f) : mkR w h c J' o f := by
  refine ⟨fun d hd i hi hb => h1.1 d hd i hi (by rw [← hJ d]; exact hb), fun d h2 h3 i hi => by rw [hJ d]; exact h1.2.1 d h2 h3 i hi, fun k hk => ?_⟩
  rw [cu_fr hJ]
  exact h1.2.2 k hk
theorem pcR_fr {o : Nat} (hJ : ∀ d, J' (o + 1) d = J (o + 1) d) (h1 : pcR w h J o f) : pcR w h J' o f := fun d i hd hi => by
  rw [hJ d]
  exact h1 d i hd hi
theorem sR_fr {a : Nat} (hI : ∀ p j, a ≤ p → p ≤ a + 9 → I' p j = I p j) (hJ : ∀ p j, a ≤ p → p ≤ a + 9 → J' p j = J p j) (h1 : sR w h c I J a f) : sR w h c I' J' a f :=
  ⟨clR_fr (fun p j h2 h3 => hI p j (by omega) (by omega)) h1.1, mkR_fr (fun d => hJ _ _ (by omega) (by omega)) h1.2.1, pcR_fr (fun d => hJ _ _ (by omega) (by omega)) h1.2.2.1, h1.2.2.2⟩
/-- only the first 416 entries count -/
theorem okl_cong {l : Nat} (he : ∀ k, k < 416 → g k = f k) (hl : l < 16) (h1 : okl c f l) : okl c g l := by
  have hm : manyN g l = manyN f l := by unfold manyN; rw [he _ (by omega)]
  have h8 : manyN f l ≤ 8 := by
    have := (rg_eq h1.2.1 (by omega)).2
    unfold manyN
    omega
  refine ⟨by rw [he _ (by omega)]; exact h1.1, by rw [he _ (by omega)]; exact h1.2.1, by rw [he _ (by omega), he _ (by omega)]; exact h1.2.2.1, fun b hb => ?_⟩
  rw [hm] at hb
  have := h1.2.2.2 b hb
  unfold lenN colN at this ⊢
  rw [he _ (by omega), he _ (by omega)]
  exact this
theorem many8 {l : Nat} (h1 : okl c f l) : manyN f l ≤ 8 := by
  have := (rg_eq h1.2.1 (by omega)).2
  unfold manyN
  omega
theorem okl_3c {l : Nat} (hc : c ≤ 3) (h1 : okl c f l) : okl 3 f l := ⟨h1.1, h1.2.1, h1.2.2.1, fun b hb => by
  obtain ⟨g1, ⟨n, g2, g3⟩, g4⟩ := h1.2.2.2 b hb
  exact ⟨g1, ⟨n, by omega, g3⟩, g4⟩⟩
theorem room_cong {l k : Nat} (he : ∀ k, k < 416 → g k = f k) (hl : l < 16) (hk : k ≤ 8) : roomN g l k = roomN f l k := by
  unfold roomN
  exact sm_cong fun b hb => by
    unfold lenN gapN
    rw [he _ (by omega), he _ (by omega), he _ (by omega)]
theorem clR_cong {q : Nat} (hwh : h + w ≤ 16) (he : ∀ k, k < 416 → g k = f k) (h1 : clR w h c I q f) : clR w h c I q g := by
  have hm : ∀ l, l < 16 → manyN g l = manyN f l := fun l hl => by unfold manyN; rw [he _ (by omega)]
  refine ⟨fun l hl => ?_, h1.2.1, fun l hl => ?_⟩
  · obtain ⟨g1, g2, g3, g4⟩ := h1.1 l hl
    have h8 := many8 g1
    refine ⟨okl_cong he hl g1, by rw [he _ (by omega)]; exact g2, by rw [he _ (by omega)]; exact g3, fun b hb => ?_⟩
    rw [hm l hl] at hb
    rw [he _ (by omega), he _ (by omega)]
    exact g4 b hb
  · have h8 := many8 (h1.1 l (by omega)).1
    rw [hm l (by omega), room_cong he (by omega) h8]
    exact h1.2.2 l hl
theorem sR_cong {a : Nat} (hwh : h + w ≤ 16) (hn : w * h ≤ 64) (he : ∀ k, k < 416 → g k = f k) (h1 : sR w h c I J a f) : sR w h c I J a g := by
  refine ⟨clR_cong hwh he h1.1, ⟨h1.2.1.1, h1.2.1.2.1, fun k hk => by rw [he _ (by omega)]; exact h1.2.1.2.2 k hk⟩, fun d i hd hi => ?_, fun k hk => by rw [he _ (by omega), he _ (by omega)]; exact h1.2.2.2 k hk⟩
  rw [h1.2.2.1 d i hd hi]
  have hp : ∀ k, k < w * h → picN g k = picN f k := fun k hk => by
    unfold picN
    rw [he _ (by omega)]
  constructor
  · rintro ⟨k, g1, g2, g3⟩
    exact ⟨k, g1, g2, by rw [hp k g1]; exact g3⟩
  · rintro ⟨k, g1, g2, g3⟩
    exact ⟨k, g1, g2, by rw [← hp k g1]; exact g3⟩
/-- the clues are the same -/
theorem clR_cq {q : Nat} (h1 : clR w h c I q f) : cq f (cf I q) := fun l hl => by
  obtain ⟨g1, g2, g3, g4⟩ := h1.1 l hl
  have hm : manyN (cf I q) l = manyN f l := by unfold manyN; rw [g3]
  refine ⟨⟨by rw [g2], hm⟩, fun b hb => ?_⟩
  obtain ⟨k1, k2⟩ := g4 b hb
  refine ⟨by unfold lenN; rw [k1], by unfold colN; rw [k2], ?_⟩
  unfold gapN
  rw [k2]
  by_cases h0 : 0 < b
  · have e : 160 + (8 * l + b) - 1 = 160 + (8 * l + (b - 1)) := by omega
    rw [e, (g4 (b - 1) (by omega)).2]
  · simp only [h0, false_and, if_false]
theorem clR_okl {q l : Nat} (hc : c ≤ 3) (h1 : clR w h c I q f) (hl : l < 16) : okl 3 (cf I q) l := by
  obtain ⟨g1, g2, g3, g4⟩ := h1.1 l hl
  have g1' := okl_3c hc g1
  have hm : manyN (cf I q) l = manyN f l := by unfold manyN; rw [g3]
  refine ⟨by rw [g2]; exact g1'.1, by rw [g3]; exact g1'.2.1, by rw [g2, g3]; exact g1'.2.2.1, fun b hb => ?_⟩
  rw [hm] at hb
  obtain ⟨k1, k2⟩ := g4 b hb
  have := g1'.2.2.2 b hb
  unfold lenN colN at this ⊢
  rw [k1, k2]
  exact this
theorem okp_16 (hc : c ≤ 3) (h1 : okp c f) {k : Nat} (hk : k < 64) : rg (f (288 + k)) 16 ∧ 1 ≤ nv (f (288 + k)) ∧ rg (f (352 + k)) 4 := by
  obtain ⟨⟨⟨n, g1, g2⟩, g3⟩, ⟨m, g4, g5⟩⟩ := h1 k hk
  have hle : 2 ^ (c + 1) ≤ 2 ^ 4 := Nat.pow_le_pow_right (by omega) (by omega)
  have e4 : (2 : Nat) ^ 4 = 16 := rfl
  exact ⟨⟨n, by omega, g2⟩, g3, ⟨m, by omega, g5⟩⟩
theorem mkR_u {o k : Nat} (h1 : mkR w h c J o f) (hk : k < w * h) : mkN f k = cu w J o k := by
  unfold mkN
  rw [h1.2.2 k hk, nv_nI (by have := cu_16 (w := w) (J := J) (o := o) (k := k); omega)]
theorem ne_bit : ∀ x, x < 16 → 1 ≤ x → ∃ c, c < 4 ∧ x / 2 ^ c % 2 = 1 := by decide +kernel
end RL_
/-! what the class's methods ask -/
theorem sR_pre {I : fx_MI} {J : fx_MJ} {f : Nat → Int32} (hd : dimC I) (h1 : sR (cW I) (cH I) (cC I) I J 2 f) : preZ I J 8 ∧ rmsC I ∧ neC (cW I) (cH I) (cu (cW I) J 8) ∧ ckO (cC I) J 8 ∧ (∀ k, k < cW I * cH I → mkN f k = cu (cW I) J 8 k) ∧ cq f (cf I 3) := by
  obtain ⟨hw, hh, hc, -⟩ := dimC_of hd
  have hwh := wh_le hw.2 hh.2
  have hq := clR_cq h1.1
  refine ⟨⟨hd, fun l hl => clR_okl (by omega) h1.1 hl, h1.1.2.1, h1.2.1.1⟩, fun l hl => ?_, fun k hk => ?_, h1.2.1.2.1, fun k hk => mkR_u h1.2.1 hk, hq⟩
  · rw [cq_room (hq l (by omega))]
    exact h1.1.2.2 l hl
  · refine ne_bit _ cu_16 ?_
    rw [← mkR_u h1.2.1 hk]
    exact (okp_16 (by omega) h1.2.2.2 (show k < 64 by omega)).2.1
/-! the relation is kept -/
theorem REL_up {I I' : fx_MI} {J J' : fx_MJ} {Ir Ir' : fx_MI} (h1 : REL I J Ir) (hI : ∀ q j, (q < 2 ∨ (11 < q ∧ q < 101) ∨ q = 138) → I' q j = I q j) (hJ : ∀ q j, (q < 2 ∨ (11 < q ∧ q < 101)) → J' q j = J q j) (hly : lyO (cW I) (cH I) J' 113) (hr2 : ∀ j, Ir' 2 j = Ir 2 j) (hr10 : ∀ j, Ir' 10 j = Ir 10 j) (hr0 : ∀ j, j ≠ 13 → j ≠ 20 → j ≠ 21 → Ir' 0 j = Ir 0 j) (hs : sR (cW I) (cH I) (cC I) I' J' 2 (Ir' 1)) : REL I' J' Ir' := by
  obtain ⟨⟨⟨d1, d2, d3, d4⟩, hall, hl0⟩, h2, ⟨nx, u, n1, n2, n3, n4, n5, n6⟩, ⟨t1, t2, t3⟩, m1, m2, m3, m4⟩ := h1
  have eW : cW I' = cW I := by unfold cW; rw [hI 1 0 (by omega)]
  have eH : cH I' = cH I := by unfold cH; rw [hI 1 1 (by omega)]
  have eC : cC I' = cC I := by unfold cC; rw [hI 1 2 (by omega)]
  unfold REL relD relH relT relN allC
  rw [eW, eH, eC, hI 1 0 (by omega), hI 1 1 (by omega), hI 1 2 (by omega), hr0 3 (by omega) (by omega) (by omega), hr0 4 (by omega) (by omega) (by omega), hr0 5 (by omega) (by omega) (by omega), hr0 6 (by omega) (by omega) (by omega), hr0 7 (by omega) (by omega) (by omega), hr0 8 (by omega) (by omega) (by omega), hr0 9 (by omega) (by omega) (by omega), hI 138 5 (by omega), hI 138 6 (by omega), hI 138 7 (by omega), hI 138 8 (by omega), hI 94 1 (by omega), hr0 19 (by omega) (by omega) (by omega), hI 12 1 (by omega), hI 12 2 (by omega), hr0 2 (by omega) (by omega) (by omega)]
  refine ⟨⟨⟨?_, d2, d3, d4⟩, fun i hi => by rw [hJ 1 3 (by omega)]; exact hall i hi, hly⟩, hs, ⟨nx, u, n1, n2, n3, n4, n5, fun t ht => ?_⟩, ⟨⟨?_, fun k hk => by rw [hr10]; exact t1.2 k hk⟩, t2, fun k hk => ?_⟩, m1, m2, m3, m4⟩
  · unfold dimC at d1 ⊢
    rw [hI 1 0 (by omega), hI 1 1 (by omega), hI 1 2 (by omega)]
    exact d1
  · have hrow : (fun k => Ir' 2 (416 * t + k)) = fun k => Ir 2 (416 * t + k) := funext fun k => hr2 _
    rw [hrow]
    have hp : (nx + 8 - u + t) % 8 < 8 := by omega
    refine sR_fr (fun p j g1 g2 => hI p j ?_) (fun p j g1 g2 => hJ p j ?_) (n6 t ht)
    · unfold rgP at g1 g2
      omega
    · unfold rgP at g1 g2
      omega
  · rw [hr0 19 (by omega) (by omega) (by omega)]
    exact t1.1
  · rw [hI 95 k (by omega), hr10]
    refine t3 k ?_
    unfold tlN at hk ⊢
    rw [hr0 19 (by omega) (by omega) (by omega)] at hk
    exact hk
def cfr (I I' : fx_MI) : Prop := ∀ q j, (q < 101 ∨ q = 138) → I' q j = I q j
def jfr (J J' : fx_MJ) : Prop := ∀ q j, q < 101 → J' q j = J q j
theorem REL_q {I I' : fx_MI} {J J' : fx_MJ} {Ir Ir' : fx_MI} (h1 : REL I J Ir) (hI : cfr I I') (hJ : jfr J J') (hly : lyO (cW I) (cH I) J' 113) (hr : eqS Ir Ir') : REL I' J' Ir' := by
  have e1 : Ir' 1 = Ir 1 := funext hr.1
  refine REL_up h1 (fun q j hq => hI q j (by omega)) (fun q j hq => hJ q j (by omega)) hly hr.2.1 hr.2.2.1 hr.2.2.2 ?_
  rw [e1]
  exact sR_fr (fun p j g1 g2 => hI p j (by omega)) (fun p j g1 g2 => hJ p j (by omega)) h1.2.1
theorem frZ_c {I I' : fx_MI} (h : frZ I I') : cfr I I' := fun q j hq => h q j (by omega)
theorem cfr_d {I I' : fx_MI} (h : cfr I I') : cW I' = cW I ∧ cH I' = cH I ∧ cC I' = cC I ∧ cf I' 3 = cf I 3 ∧ (dimC I → dimC I') := by
  refine ⟨by unfold cW; rw [h 1 0 (by omega)], by unfold cH; rw [h 1 1 (by omega)], by unfold cC; rw [h 1 2 (by omega)], cf_fr (h _ _ (by omega)) (fun j => h _ _ (by omega)) (fun j => h _ _ (by omega)) (fun j => h _ _ (by omega)), fun hd => ?_⟩
  unfold dimC at hd ⊢
  rw [h 1 0 (by omega), h 1 1 (by omega), h 1 2 (by omega)]
  exact hd
