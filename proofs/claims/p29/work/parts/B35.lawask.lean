/-! the class's calls, as the law sees them (own work) -/
theorem mrg_s {α : Type} {X : Nat → α} : mrg X X = X := by
  funext q
  unfold mrg
  split <;> rfl
section RM_
variable {I I0 : fx_MI} {J J0 : fx_MJ} {Ir : fx_MI}
theorem mrg_d : cW (mrg I0 I) = cW I0 ∧ cH (mrg I0 I) = cH I0 ∧ cC (mrg I0 I) = cC I0 := by
  unfold cW cH cC
  rw [mrg_lo (show 1 < 140 by omega)]
  exact ⟨rfl, rfl, rfl⟩
theorem REL_mrg (h : REL I0 J0 Ir) : REL (mrg I0 I) (mrg J0 J) Ir := by
  refine REL_up h (fun q j hq => by rw [mrg_lo (show q < 140 by omega)]) (fun q j hq => by rw [mrg_lo (show q < 140 by omega)]) (fun d hd i hi hb => h.1.2.2 d hd i hi (by rw [mrg_lo (show 113 + 1 < 140 by omega)] at hb; exact hb)) (fun _ => rfl) (fun _ => rfl) (fun _ _ _ _ => rfl) ?_
  exact sR_fr (fun p j _ h2 => by rw [mrg_lo (show p < 140 by omega)]) (fun p j _ h2 => by rw [mrg_lo (show p < 140 by omega)]) h.2.1
theorem REL_frZ (h : REL I J Ir) (hf : frZ I I0) : REL (mrg I0 I) J Ir := by
  have hc : cfr I (mrg I0 I) := fun q j hq => by
    by_cases h1 : q < 140
    · rw [mrg_lo h1]
      exact hf q j (by omega)
    · rw [mrg_hi (by omega)]
  exact REL_q h hc (fun _ _ _ => rfl) h.1.2.2 ⟨fun _ => rfl, fun _ => rfl, fun _ => rfl, fun _ _ _ _ => rfl⟩
theorem frZ_X (hf : frZ I I0) : cW (mrg I0 I) = cW I ∧ cH (mrg I0 I) = cH I ∧ cC (mrg I0 I) = cC I := by
  obtain ⟨h1, h2, h3⟩ := mrg_d (I := I) (I0 := I0)
  have h4 := cfr_d (frZ_c hf)
  exact ⟨h1.trans h4.1, h2.trans h4.2.1, h3.trans h4.2.2.1⟩
end RM_
/-- a question: the class answers, nothing changes -/
def qP (I : fx_MI) (J : fx_MJ) (r : Option Value) (I' : fx_MI) (J' : fx_MJ) (R' : fx_MR) (ans : Nat → Nat → Nat → (Nat → Int32) → Int32) : Prop :=
  ((∃ b', R' = R0C b') ∧ ∀ q, 140 ≤ q → I' q = I q) ∧ (cW I' = cW I ∧ cH I' = cH I ∧ cC I' = cC I) ∧ ∀ Ir, REL I J Ir → r = some (.int (ans (cW I) (cH I) (cC I) (Ir 1))) ∧ REL I' J' Ir
/-- a change: as the reference's -/
def mP (I : fx_MI) (J : fx_MJ) (r : Option Value) (I' : fx_MI) (J' : fx_MJ) (R' : fx_MR) (pm : fx_MI → fx_MJ → fx_MR → Option Value → fx_MI → fx_MJ → fx_MR → Prop) : Prop :=
  ((∃ b', R' = R0C b') ∧ ∀ q, 140 ≤ q → I' q = I q) ∧ ∀ Ir, REL I J Ir → ∀ r2 Ir2, pm Ir zJ R0_M r2 Ir2 zJ R0_M → r = r2 ∧ REL I' J' Ir2
section XQ_
variable {I I' : fx_MI} {J J' : fx_MJ} {R' : fx_MR} {r : Option Value} {b : Bool} {v y z : Int32}
theorem xq_of {I0 : fx_MI} {J0 : fx_MJ} {R0 : fx_MR} {ans : Nat → Nat → Nat → (Nat → Int32) → Int32} (hJ : J0 = J) (hR : ∃ b', R0 = R0C b') (hf : frZ I I0) (ha : ∀ f, sR (cW I) (cH I) (cC I) I J 2 f → r = some (.int (ans (cW I) (cH I) (cC I) f))) (eI : I' = mrg I0 I) (eJ : J' = mrg J0 J) (eR : R' = mrg R0 (R0C b)) : qP I J r I' J' R' ans := by
  subst hJ
  obtain ⟨b', rfl⟩ := hR
  rw [mrg_R0C] at eR
  rw [mrg_s] at eJ
  subst eI eJ eR
  exact ⟨⟨⟨b', rfl⟩, fun q hq => mrg_hi hq⟩, frZ_X hf, fun Ir hr => ⟨ha _ hr.2.1, REL_frZ hr hf⟩⟩
theorem xq_line (h : xPost (post_Out_line 256) [.ref 0, .int v, .int y] I J (R0C b) r I' J' R') : qP I J r I' J' R' (fun w h _ f => lnA w h f v y) := by
  obtain ⟨I0, J0, R0, ⟨h1, h2, h3, h4⟩, e1, e2, e3⟩ := h
  exact xq_of h1 h2 h3 h4 e1 e2 e3
theorem xq_block (h : xPost (post_Out_block 256) [.ref 0, .int v, .int y, .int z] I J (R0C b) r I' J' R') : qP I J r I' J' R' (fun w h _ f => bkA w h f v y z) := by
  obtain ⟨I0, J0, R0, ⟨h1, h2, h3, h4⟩, e1, e2, e3⟩ := h
  exact xq_of h1 ⟨b, h2⟩ h3 h4 e1 e2 e3
theorem xq_mark (h : xPost (post_Out_mark 256) [.ref 0, .int v, .int y] I J (R0C b) r I' J' R') : qP I J r I' J' R' (fun w h _ f => mkA w h f v y) := by
  obtain ⟨I0, J0, R0, ⟨h1, h2, h3, h4⟩, e1, e2, e3⟩ := h
  exact xq_of h2 ⟨b, h3⟩ (fun q j _ => by rw [h1]) h4 e1 e2 e3
theorem xq_count (h : xPost (post_Out_count 256) [.ref 0, .int v] I J (R0C b) r I' J' R') : qP I J r I' J' R' (fun w h c f => ctA w h c f (I 12 1) (I 94 1) v) := by
  obtain ⟨I0, J0, R0, ⟨h1, h2, h3, h4⟩, e1, e2, e3⟩ := h
  exact xq_of h1 ⟨b, h2⟩ h3 h4 e1 e2 e3
theorem xm_of {I0 : fx_MI} {J0 : fx_MJ} {R0 : fx_MR} {pm : fx_MI → fx_MJ → fx_MR → Option Value → fx_MI → fx_MJ → fx_MR → Prop} (hs : simP pm I J r I0 J0 R0) (eI : I' = mrg I0 I) (eJ : J' = mrg J0 J) (eR : R' = mrg R0 (R0C b)) : mP I J r I' J' R' pm := by
  obtain ⟨⟨b', rfl⟩, hs⟩ := hs
  rw [mrg_R0C] at eR
  subst eI eJ eR
  refine ⟨⟨⟨b', rfl⟩, fun q hq => mrg_hi hq⟩, fun Ir hr r2 Ir2 hp => ?_⟩
  obtain ⟨-, h1, h2⟩ := hs Ir hr zJ r2 Ir2 zJ R0_M hp
  exact ⟨h1, REL_mrg h2⟩
theorem xm_start (h : xPost (post_Out_start 256) [.ref 0, .int v, .int y, .int z] I J (R0C b) r I' J' R') : mP I J r I' J' R' (post_M_start [.ref 0, .int v, .int y, .int z]) := by
  obtain ⟨I0, J0, R0, h1, e1, e2, e3⟩ := h
  exact xm_of h1 e1 e2 e3
theorem xm_undo (h : xPost (post_Out_undo 256) [.ref 0] I J (R0C b) r I' J' R') : mP I J r I' J' R' (post_M_undo [.ref 0]) := by
  obtain ⟨I0, J0, R0, h1, e1, e2, e3⟩ := h
  exact xm_of h1 e1 e2 e3
theorem xm_setClue (h : xPost (post_Out_setClue 256) [.ref 0, .int v, .int y] I J (R0C b) r I' J' R') : mP I J r I' J' R' (post_M_setClue [.ref 0, .int v, .int y]) := by
  obtain ⟨I0, J0, R0, h1, e1, e2, e3⟩ := h
  exact xm_of h1 e1 e2 e3
theorem xm_addBlock (h : xPost (post_Out_addBlock 256) [.ref 0, .int v, .int y, .int z] I J (R0C b) r I' J' R') : mP I J r I' J' R' (post_M_addBlock [.ref 0, .int v, .int y, .int z]) := by
  obtain ⟨I0, J0, R0, h1, e1, e2, e3⟩ := h
  exact xm_of h1 e1 e2 e3
theorem xm_setMark (h : xPost (post_Out_setMark 256) [.ref 0, .int v, .int y, .int z] I J (R0C b) r I' J' R') : mP I J r I' J' R' (post_M_setMark [.ref 0, .int v, .int y, .int z]) := by
  obtain ⟨I0, J0, R0, h1, e1, e2, e3⟩ := h
  exact xm_of h1 e1 e2 e3
end XQ_
/-! the law's rows against the class's state (own work) -/
def lwR (w h c : Nat) (A Bm : Nat → Int32) (f : Nat → Int32) : Prop :=
  lkA w h c A ∧ (∀ l, l < h + w → okl c f l ∧ ((f l = nI 1 ∧ A (6 * l) = nI (manyN f l)) ∨ (f l = nI 0 ∧ A (6 * l) = -nI 1 ∧ manyN f l = 0)) ∧ roomN f l (manyN f l) ≤ cellsN w h l ∧ ∀ k, k < manyN f l → A (6 * l + 1 + k) = nI (4 * lenN f l k + colN f l k)) ∧
  ∀ k, k < w * h → Bm k = f (288 + k) ∧ f (288 + k) = nI (mkN f k) ∧ mkN f k < 2 ^ (c + 1) ∧ 1 ≤ mkN f k
section LR_
variable {w h c l : Nat} {A Bm f : Nat → Int32}
theorem lwR_am (hR : lwR w h c A Bm f) (hl : l < h + w) : nv (A (6 * l)) = manyN f l := by
  obtain ⟨hok, h1, -⟩ := hR.2.1 l hl
  have h8 := many8 hok
  rcases h1 with ⟨-, h1⟩ | ⟨-, h1, h2⟩
  · rw [h1, nv_nI (by omega)]
  · rw [h1, nv_m1, h2]
theorem lwR_k (hR : lwR w h c A Bm f) (hl : l < h + w) {k : Nat} (hk : k < manyN f l) : ac A l k = colN f l k ∧ an A l k = lenN f l k := by
  obtain ⟨hok, -, -, h2⟩ := hR.2.1 l hl
  obtain ⟨⟨-, -, hc⟩, -⟩ := hR.1
  have h3 := (len_eq hok hk).2.1
  have h4 := (col_eq (by omega) hok hk).2
  unfold ac an
  rw [h2 k hk, nv_nI (by omega)]
  omega
theorem lwR_room (hR : lwR w h c A Bm f) (hl : l < h + w) : roA A l (am A l) = roomN f l (manyN f l) := by
  have hm := lwR_am hR hl
  obtain ⟨hok, -⟩ := hR.2.1 l hl
  obtain ⟨⟨-, -, hc⟩, -⟩ := hR.1
  unfold roA am
  rw [hm]
  unfold roomN
  refine sm_cong fun b hb => ?_
  obtain ⟨h1, h2⟩ := lwR_k hR hl hb
  rw [h1, h2]
  congr 1
  unfold gapN
  by_cases h0 : 0 < b
  · obtain ⟨h3, -⟩ := lwR_k hR hl (show b - 1 < manyN f l by omega)
    have e1 := (col_eq (by omega) hok hb)
    have e2 := (col_eq (by omega) hok (show b - 1 < manyN f l by omega))
    have e3 : (f (160 + (8 * l + b)) = f (160 + (8 * l + b) - 1)) = (colN f l b = colN f l (b - 1)) := by
      rw [show 160 + (8 * l + b) - 1 = 160 + (8 * l + (b - 1)) by omega, e1.1, e2.1, nI_eq' (by omega) (by omega)]
    rw [h3]
    simp only [h0, true_and, e3]
  · rw [if_neg (fun z => h0 z.1), if_neg (fun z => h0 z.1)]
theorem kn1_one : ∀ x, x < 16 → 1 ≤ x → kn1 (nI x) = one (nI x) := by decide +kernel
theorem lwR_mark (hR : lwR w h c A Bm f) (hw : w ≤ 8) (hh : h ≤ 8) (hl : l < h + w) {i : Nat} (hi : i < cellsN w h l) : Bm (atN w h l i) = nI (mkN f (atN w h l i)) ∧ mkN f (atN w h l i) < 8 ∧ kn1 (Bm (atN w h l i)) = one (f (288 + atN w h l i)) := by
  obtain ⟨h1, h2, h3, h4⟩ := hR.2.2 _ (atN_lt hw hh hl hi)
  obtain ⟨⟨-, -, hc⟩, -⟩ := hR.1
  have hle : 2 ^ (c + 1) ≤ 2 ^ 3 := Nat.pow_le_pow_right (by omega) (by omega)
  refine ⟨h1.trans h2, by omega, ?_⟩
  rw [h1, h2]
  exact kn1_one _ (by omega) h4
end LR_
