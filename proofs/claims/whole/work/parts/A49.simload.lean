/-! the class: load (own work) -/
section PC_
variable {t t' : Nat → Nat} {tl : Nat}
theorem isB_c (h : byN t tl = byN t' tl) : isB t tl = isB t' tl := by
  funext k
  unfold isB
  rw [h]
theorem isS_c (h : byN t tl = byN t' tl) : isS t tl = isS t' tl := by
  funext k
  unfold isS
  rw [h]
theorem isD_c (h : byN t tl = byN t' tl) : isD t tl = isD t' tl := by
  funext k
  unfold isD
  rw [h]
theorem skB_c (h : byN t tl = byN t' tl) : skB t tl = skB t' tl := by
  funext k
  unfold skB
  rw [isB_c h]
theorem skW_c (h : byN t tl = byN t' tl) : skW t tl = skW t' tl := by
  funext k
  unfold skW
  rw [isS_c h]
theorem bqP_c (h : byN t tl = byN t' tl) : bqP t tl = bqP t' tl := by
  funext k
  unfold bqP
  rw [skB_c h]
theorem bLet_c (h : byN t tl = byN t' tl) : bLet t tl = bLet t' tl := by
  funext k
  unfold bLet
  rw [isS_c h, bqP_c h]
theorem bLen_c (h : byN t tl = byN t' tl) : bLen t tl = bLen t' tl := by
  funext k
  unfold bLen
  rw [h]
theorem bCol_c (h : byN t tl = byN t' tl) : bCol t tl = bCol t' tl := by
  funext k
  unfold bCol
  rw [bLet_c h, bqP_c h, h]
theorem bEnd_c (h : byN t tl = byN t' tl) : bEnd t tl = bEnd t' tl := by
  funext k
  unfold bEnd
  rw [bLet_c h, bqP_c h]
theorem bNxt_c (h : byN t tl = byN t' tl) : bNxt t tl = bNxt t' tl := by
  funext k
  unfold bNxt
  rw [bLet_c h, bqP_c h, skB_c h]
theorem pBs_c (h : byN t tl = byN t' tl) {C n : Nat} : ∀ {k p m : Nat} {ln co : Nat → Nat}, pBs t tl C n k p m ln co = pBs t' tl C n k p m ln co
  | 0, _, _, _, _ => rfl
  | k + 1, p, m, ln, co => by
    unfold pBs
    rw [isD_c h, bLet_c h, bCol_c h, bqP_c h, bLen_c h, bEnd_c h, bNxt_c h, pBs_c h]
theorem isAny_c (h : byN t tl = byN t' tl) (p : Nat) : isAny t tl p = isAny t' tl p := by
  unfold isAny
  rw [skW_c h, h]
theorem isNon_c (h : byN t tl = byN t' tl) (p : Nat) : isNon t tl p = isNon t' tl p := by
  unfold isNon
  rw [skW_c h, h]
theorem pClue_c (h : byN t tl = byN t' tl) {C n p : Nat} : pClue t tl C n p = pClue t' tl C n p := by
  unfold pClue
  rw [isS_c h, isD_c h, isAny_c h, isNon_c h, skB_c h, skW_c h, pBs_c h]
theorem pLn_c (h : byN t tl = byN t' tl) {C w hh : Nat} : ∀ l, pLn t tl C w hh l = pLn t' tl C w hh l
  | 0 => by
    unfold pLn
    rw [skB_c h]
  | l + 1 => by
    unfold pLn
    rw [pLn_c h l, h, skB_c h]
    cases pLn t' tl C w hh l with
    | inl e => rfl
    | inr x =>
      dsimp only
      rw [pClue_c h]
theorem pAll_c (h : byN t tl = byN t' tl) {C w hh : Nat} : pAll t tl C w hh = pAll t' tl C w hh := by
  unfold pAll
  rw [pLn_c h]
end PC_
theorem relT_by {I Ir : fx_MI} (h : relT I Ir) : tlC I = tlN Ir ∧ byN (txC I) (tlC I) = byN (txN Ir) (tlN Ir) ∧ okX I := by
  obtain ⟨t1, t2, t3⟩ := h
  have e : tlC I = tlN Ir := by
    unfold tlC tlN
    rw [t2]
  have htl := okt_tl t1
  refine ⟨e, ?_, by rw [t2]; exact t1.1, fun k hk => ?_⟩
  · funext k
    unfold byN
    rw [e]
    by_cases hk : k < tlN Ir
    · rw [if_pos hk, if_pos hk]
      unfold txC txN
      rw [t3 k hk]
    · rw [if_neg hk, if_neg hk]
  · rw [e] at hk
    rw [t3 k hk]
    exact t1.2 k (by omega)
/-- the relation stays, where only the text, the places of reading, what was read and what now holds change -/
theorem REL_gen {I I' : fx_MI} {J J' : fx_MJ} {Ir Ir' : fx_MI} (h1 : REL I J Ir) (hI : ∀ q j, (q < 2 ∨ (11 < q ∧ q < 94) ∨ q = 138) → I' q j = I q j) (hJ : ∀ q j, (q < 2 ∨ (11 < q ∧ q < 94)) → J' q j = J q j) (hly : lyO (cW I) (cH I) J' 113) (hr2 : ∀ j, Ir' 2 j = Ir 2 j) (hr0 : ∀ j, j ≠ 13 → j ≠ 19 → j ≠ 20 → j ≠ 21 → Ir' 0 j = Ir 0 j) (ht : relT I' Ir') (hs : sR (cW I) (cH I) (cC I) I' J' 2 (Ir' 1)) : REL I' J' Ir' := by
  obtain ⟨⟨⟨d1, d2, d3, d4⟩, hall, hl0⟩, h2, ⟨nx, u, n1, n2, n3, n4, n5, n6⟩, -, m1, m2, m3, m4⟩ := h1
  have eW : cW I' = cW I := by unfold cW; rw [hI 1 0 (by omega)]
  have eH : cH I' = cH I := by unfold cH; rw [hI 1 1 (by omega)]
  have eC : cC I' = cC I := by unfold cC; rw [hI 1 2 (by omega)]
  unfold REL relD relH relN allC
  rw [eW, eH, eC, hI 1 0 (by omega), hI 1 1 (by omega), hI 1 2 (by omega), hr0 3 (by omega) (by omega) (by omega) (by omega), hr0 4 (by omega) (by omega) (by omega) (by omega), hr0 5 (by omega) (by omega) (by omega) (by omega), hr0 6 (by omega) (by omega) (by omega) (by omega), hr0 7 (by omega) (by omega) (by omega) (by omega), hr0 8 (by omega) (by omega) (by omega) (by omega), hr0 9 (by omega) (by omega) (by omega) (by omega), hI 138 5 (by omega), hI 138 6 (by omega), hI 138 7 (by omega), hI 138 8 (by omega), hI 12 1 (by omega), hI 12 2 (by omega), hr0 2 (by omega) (by omega) (by omega) (by omega)]
  refine ⟨⟨⟨?_, d2, d3, d4⟩, fun i hi => by rw [hJ 1 3 (by omega)]; exact hall i hi, hly⟩, hs, ⟨nx, u, n1, n2, n3, n4, n5, fun t ht => ?_⟩, ht, m1, m2, m3, m4⟩
  · unfold dimC at d1 ⊢
    rw [hI 1 0 (by omega), hI 1 1 (by omega), hI 1 2 (by omega)]
    exact d1
  · have hrow : (fun k => Ir' 2 (416 * t + k)) = fun k => Ir 2 (416 * t + k) := funext fun k => hr2 _
    rw [hrow]
    have hp : (nx + 8 - u + t) % 8 < 8 := by omega
    refine sR_fr (fun p j g1 g2 => hI p j ?_) (fun p j g1 g2 => hJ p j ?_) (n6 t ht)
    · unfold rgP at g1 g2
      omega
    · unfold rgP at g1 g2
      omega
theorem relT_x {I I' Ir Ir' : fx_MI} (hf : txL I I') (hr : frA Ir Ir') (h : relT I Ir) : relT I' Ir' := by
  obtain ⟨t1, t2, t3⟩ := h
  obtain ⟨u1, u2, u3⟩ := frA_t hr t1
  refine ⟨u1, by rw [hf 94 1 (by omega) (by omega), hr 0 19 (by omega) (by omega)]; exact t2, fun k hk => ?_⟩
  rw [u3] at hk
  rw [hf 95 k (by omega) (by omega), hr 10 k (by omega) (by omega)]
  exact t3 k hk
/-- a reading that fails, or only reads -/
theorem REL_read {I I' : fx_MI} {J : fx_MJ} {Ir Ir' : fx_MI} (h1 : REL I J Ir) (hf : txL I I') (hr : frA Ir Ir') : REL I' J Ir' := by
  have er : Ir' 1 = Ir 1 := funext fun j => hr 1 j (by omega) (by omega)
  refine REL_gen h1 (fun q j hq => hf q j (by omega) (by omega)) (fun _ _ _ => rfl) h1.1.2.2 (fun j => hr 2 j (by omega) (by omega)) (fun j _ _ _ _ => hr 0 j (by omega) (by omega)) (relT_x hf hr h1.2.2.2.1) ?_
  rw [er]
  exact sR_fr (fun p j g1 g2 => hf p j (by omega) (by omega)) (fun _ _ _ _ => rfl) h1.2.1
/-- clues that are read, against the reference's row -/
theorem clR_row {w h c q : Nat} {I : fx_MI} {f g : Nat → Int32} {cl : Nat → fx_CL} (hwh : h + w ≤ 16) (h1 : clR w h c I q g) (hg : ∀ l, l < h + w → clX g l (cl l)) (hf : ∀ l, l < h + w → clX f l (cl l)) (hg0 : ∀ l, h + w ≤ l → l < 16 → g l = nI 0 ∧ g (16 + l) = nI 0) (hf0 : ∀ l, h + w ≤ l → l < 16 → f l = nI 0 ∧ f (16 + l) = nI 0) (h8 : ∀ l, l < h + w → (cl l).2.1 ≤ 8) : clR w h c I q f := by
  have hh : ∀ l, l < 16 → f l = g l ∧ f (16 + l) = g (16 + l) := fun l hl => by
    by_cases hk : l < h + w
    · exact ⟨(hf l hk).1.trans (hg l hk).1.symm, (hf l hk).2.1.trans (hg l hk).2.1.symm⟩
    · exact ⟨(hf0 l (by omega) hl).1.trans (hg0 l (by omega) hl).1.symm, (hf0 l (by omega) hl).2.trans (hg0 l (by omega) hl).2.symm⟩
  have hm : ∀ l, l < 16 → manyN f l = manyN g l := fun l hl => by
    unfold manyN
    rw [(hh l hl).2]
  have hb : ∀ l, l < 16 → ∀ b, b < manyN g l → f (32 + (8 * l + b)) = g (32 + (8 * l + b)) ∧ f (160 + (8 * l + b)) = g (160 + (8 * l + b)) := fun l hl b hb => by
    by_cases hk : l < h + w
    · have hbm : b < (cl l).2.1 := by
        unfold manyN at hb
        rw [(hg l hk).2.1, nv_nI (by have := h8 l hk; omega)] at hb
        exact hb
      exact ⟨((hf l hk).2.2 b hbm).1.trans ((hg l hk).2.2 b hbm).1.symm, ((hf l hk).2.2 b hbm).2.trans ((hg l hk).2.2 b hbm).2.symm⟩
    · unfold manyN at hb
      rw [(hg0 l (by omega) hl).2, nv_nI (by omega)] at hb
      omega
  refine ⟨fun l hl => ?_, h1.2.1, fun l hl => ?_⟩
  · obtain ⟨g1, g2, g3, g4⟩ := h1.1 l hl
    obtain ⟨e1, e2⟩ := hh l hl
    refine ⟨⟨by rw [e1]; exact g1.1, by rw [e2]; exact g1.2.1, by rw [e1, e2]; exact g1.2.2.1, fun b hbm => ?_⟩, by rw [e1]; exact g2, by rw [e2]; exact g3, fun b hbm => ?_⟩
    · rw [hm l hl] at hbm
      obtain ⟨e3, e4⟩ := hb l hl b hbm
      have := g1.2.2.2 b hbm
      unfold lenN colN at this ⊢
      rw [e3, e4]
      exact this
    · rw [hm l hl] at hbm
      obtain ⟨e3, e4⟩ := hb l hl b hbm
      rw [e3, e4]
      exact g4 b hbm
  · have hr : roomN f l (manyN f l) = roomN g l (manyN g l) := by
      rw [hm l (by omega)]
      unfold roomN
      refine sm_cong fun b hbm => ?_
      obtain ⟨e3, e4⟩ := hb l (by omega) b hbm
      unfold lenN gapN
      rw [e3, e4]
      by_cases h0 : 0 < b
      · obtain ⟨e5, e6⟩ := hb l (by omega) (b - 1) (by omega)
        rw [show 160 + (8 * l + b) - 1 = 160 + (8 * l + (b - 1)) by omega, e6]
      · rw [if_neg (fun z => h0 z.1), if_neg (fun z => h0 z.1)]
    rw [hr]
    exact h1.2.2 l hl
theorem smN_sm {f : Nat → Nat} : ∀ k, smN k f = sm f k
  | 0 => rfl
  | k + 1 => by
    show smN k f + f k = sm f k + f k
    rw [smN_sm k]
theorem sm_z {f : Nat → Nat} {n : Nat} : ∀ {d : Nat}, (∀ k, n ≤ k → k < n + d → f k = 0) → sm f (n + d) = sm f n
  | 0, _ => rfl
  | d + 1, h => by
    show sm f (n + d) + f (n + d) = sm f n
    rw [sm_z (fun k h1 h2 => h k h1 (by omega)), h (n + d) (by omega) (by omega)]
    rfl
