/-! hints of both sides are the same (own work) -/
section HM_
variable {w h : Nat} {f : Nat → Int32} {u : Nat → Nat}
theorem gvA_uc {lev l i x : Nat} {u' : Nat → Nat} (hw : w ≤ 8) (hh : h ≤ 8) (hl : l < h + w) (he : ∀ k, k < w * h → u k = u' k) : gvA w h f lev u l i x ↔ gvA w h f lev u' l i x := by
  have h1 : ∀ j, j < cellsN w h l → u (atN w h l j) = u' (atN w h l j) := fun j hj => he _ (atN_lt hw hh hl hj)
  constructor
  · rintro ⟨g1, g2, g3, g4⟩
    refine ⟨g1, (BT_uc hw hh hl g1 he).mp g2, by rw [← h1 i g1]; exact g3, fun i' hi' => ?_⟩
    rw [← h1 i' (by omega)]
    exact (BT_uc hw hh hl (by omega) he).mp (g4 i' hi')
  · rintro ⟨g1, g2, g3, g4⟩
    refine ⟨g1, (BT_uc hw hh hl g1 he).mpr g2, by rw [h1 i g1]; exact g3, fun i' hi' => ?_⟩
    rw [h1 i' (by omega)]
    exact (BT_uc hw hh hl (by omega) he).mpr (g4 i' hi')
theorem CNu_pos {l N : Nat} (h1 : CNu w h f u l N) (h2 : ∃ s, PF w h f u l s) : 1 ≤ N := by
  obtain ⟨e, h3⟩ := h1
  obtain ⟨s, hs⟩ := h2
  obtain ⟨k, hk, -⟩ := h3.2.2 s hs
  omega
theorem gvL_u {lev l N i x : Nat} (hw : w ≤ 8) (hh : h ≤ 8) (hl : l < h + w) (hok : okl 3 f l) (h1 : f l = nI 1 ↔ ¬ f l = nI 0) (he : ∀ k, k < w * h → mkN f k = u k) : gvL w h f lev (mkN f) l N i x ↔ ¬ f l = nI 0 ∧ CNu w h f u l N ∧ gvA w h f lev u l i x := by
  have h8 := cellsN_le (l := l) hw hh
  unfold gvL
  rw [h1, gvA_uc hw hh hl he]
  constructor
  · rintro ⟨g1, g2, g3⟩
    exact ⟨g1, CNu_uc hw hh hl he (CNT_u hok h8 g2), g3⟩
  · rintro ⟨g1, g2, g3⟩
    obtain ⟨N', hN'⟩ := CNT_ex (w := w) (h := h) hok h8
    have := CNu_one (CNu_uc hw hh hl he (CNT_u hok h8 hN')) g2
    rw [this] at hN'
    exact ⟨g1, hN', g3⟩
theorem gvF_u {lev l i x : Nat} (hw : w ≤ 8) (hh : h ≤ 8) (hok : ∀ l, l < 16 → okl 3 f l) (h1 : ∀ l, l < 16 → (f l = nI 1 ↔ ¬ f l = nI 0)) (he : ∀ k, k < w * h → mkN f k = u k) (hp : ∀ l, l < h + w → ¬ f l = nI 0 → ∃ s, PF w h f u l s) (hg : gvF w h f lev (mkN f) l i x) : gvU w h f lev u l i x := by
  obtain ⟨hl, N, g1, g2⟩ := hg
  obtain ⟨g3, g4, g5⟩ := (gvL_u hw hh hl (hok l (by omega)) (h1 l (by omega)) he).mp g1
  exact ⟨⟨hl, g3, g5⟩, N, g4, fun l' N' i' x' k1 k2 k3 k4 => g2 l' N' i' x' k1 ((gvL_u hw hh k1 (hok l' (by omega)) (h1 l' (by omega)) he).mpr ⟨k2, k3, k4⟩) (CNu_pos k3 (hp l' k1 k2))⟩
theorem gv0_u {lev l i x : Nat} (hw : w ≤ 8) (hh : h ≤ 8) (hok : ∀ l, l < 16 → okl 3 f l) (h1 : ∀ l, l < 16 → (f l = nI 1 ↔ ¬ f l = nI 0)) (he : ∀ k, k < w * h → mkN f k = u k) (hp : ∀ l, l < h + w → ¬ f l = nI 0 → ∃ s, PF w h f u l s) (hg : gv0 w h f lev (mkN f)) : ¬ gvU w h f lev u l i x := by
  rintro ⟨⟨hl, g3, g5⟩, N, g4, -⟩
  exact hg l N i x hl (CNu_pos g4 (hp l hl g3)) (CNu_70 (hok l (by omega)) (cellsN_le hw hh) g4) ((gvL_u hw hh hl (hok l (by omega)) (h1 l (by omega)) he).mpr ⟨g3, g4, g5⟩)
theorem gvA_one {lev l i x i' x' : Nat} (hok : okl 3 f l) (hne : ∃ s, PF w h f u l s) (h1 : gvA w h f lev u l i x) (h2 : gvA w h f lev u l i' x') : i = i' ∧ x = x' := by
  rcases Nat.lt_trichotomy i i' with h3 | h3 | h3
  · exact absurd (BT_one hok hne h1.2.1 (h2.2.2.2 i h3)) h1.2.2.1
  · subst h3
    exact ⟨rfl, BT_one hok hne h1.2.1 h2.2.1⟩
  · exact absurd (BT_one hok hne h2.2.1 (h1.2.2.2 i' h3)) h2.2.2.1
theorem gvU_one {lev l i x l' i' x' : Nat} (hwh : h + w ≤ 16) (hok : ∀ l, l < 16 → okl 3 f l) (hp : ∀ l, l < h + w → ¬ f l = nI 0 → ∃ s, PF w h f u l s) (h1 : gvU w h f lev u l i x) (h2 : gvU w h f lev u l' i' x') : l = l' ∧ i = i' ∧ x = x' := by
  obtain ⟨⟨a1, a2, a3⟩, N, a4, a5⟩ := h1
  obtain ⟨⟨b1, b2, b3⟩, M, b4, b5⟩ := h2
  have c1 := a5 l' M i' x' b1 b2 b4 b3
  have c2 := b5 l N i x a1 a2 a4 a3
  have e : l = l' := by omega
  subst e
  exact ⟨rfl, gvA_one (hok l (by omega)) (hp l a1 a2) a3 b3⟩
theorem gvU_uc {lev l i x : Nat} {u' : Nat → Nat} (hw : w ≤ 8) (hh : h ≤ 8) (he : ∀ k, k < w * h → u k = u' k) (h1 : gvU w h f lev u l i x) : gvU w h f lev u' l i x := by
  obtain ⟨⟨a1, a2, a3⟩, N, a4, a5⟩ := h1
  exact ⟨⟨a1, a2, (gvA_uc hw hh a1 he).mp a3⟩, N, CNu_uc hw hh a1 he a4, fun l' N' i' x' k1 k2 k3 k4 => a5 l' N' i' x' k1 k2 (CNu_uc hw hh k1 (fun k hk => (he k hk).symm) k3) ((gvA_uc hw hh k1 he).mpr k4)⟩
theorem rfF_one {c k d k' d' : Nat} (h1 : rfF w h c f u k d) (h2 : rfF w h c f u k' d') : k = k' ∧ d = d' := by
  obtain ⟨a1, a2, a3, a4⟩ := h1
  obtain ⟨b1, b2, b3, b4⟩ := h2
  have c1 : ¬ (k' < k ∨ (k' = k ∧ d' < d)) := fun z => a4 k' d' b2 z b3
  have c2 : ¬ (k < k' ∨ (k = k' ∧ d < d')) := fun z => b4 k d a2 z a3
  omega
theorem rfF_uc {c k d : Nat} {u' : Nat → Nat} (hw : w ≤ 8) (hh : h ≤ 8) (he : ∀ k, k < w * h → u k = u' k) (h1 : rfF w h c f u k d) : rfF w h c f u' k d := by
  obtain ⟨a1, a2, a3, a4⟩ := h1
  refine ⟨a1, a2, (ref2_uc hw hh a1 he).mp a3, fun k' c' k1 k2 k3 => a4 k' c' k1 k2 ((ref2_uc hw hh (by omega) he).mpr k3)⟩
theorem rf0_uc {c : Nat} {u' : Nat → Nat} (hw : w ≤ 8) (hh : h ≤ 8) (he : ∀ k, k < w * h → u k = u' k) (h1 : rf0 w h c f u) : rf0 w h c f u' := fun k' c' k1 k2 k3 => h1 k' c' k1 k2 ((ref2_uc hw hh k1 he).mpr k3)
theorem clr_16 : ∀ m, m < 16 → ∀ c, c < 4 → clr m c < 16 := by decide +kernel
end HM_
theorem REL_h {I I' : fx_MI} {J J' : fx_MJ} {Ir Ir' : fx_MI} (h1 : REL I J Ir) (hI : ∀ q j, q < 101 → I' q j = I q j) (hJ : jfr J J') (hly : lyO (cW I) (cH I) J' 113) (hr : eqH Ir Ir') (hn : I' 138 5 = Ir' 0 6 ∧ rg (Ir' 0 6) 4 ∧ rg (Ir' 0 7) 64 ∧ (¬ Ir' 0 6 = nI 0 → (∃ k, k < cW I * cH I ∧ Ir' 0 7 = nI k ∧ I' 138 6 = nI (idxK (cW I) k)) ∧ (I' 138 7 = Ir' 0 8 ∧ rg (Ir' 0 8) 16) ∧ I' 138 8 = Ir' 0 9)) : REL I' J' Ir' := by
  obtain ⟨⟨⟨d1, d2, d3, d4⟩, hall, hl0⟩, h2, ⟨nx, u, n1, n2, n3, n4, n5, n6⟩, ⟨t1, t2, t3⟩, -⟩ := h1
  obtain ⟨r1, r2, r10, r0⟩ := hr
  have eW : cW I' = cW I := by unfold cW; rw [hI 1 0 (by omega)]
  have eH : cH I' = cH I := by unfold cH; rw [hI 1 1 (by omega)]
  have eC : cC I' = cC I := by unfold cC; rw [hI 1 2 (by omega)]
  have k0 : ∀ j, (j = 2 ∨ j = 3 ∨ j = 4 ∨ j = 5 ∨ j = 19) → Ir' 0 j = Ir 0 j := fun j hj => r0 j (by omega) (by omega) (by omega) (by omega) (by omega) (by omega) (by omega)
  have e1 : Ir' 1 = Ir 1 := funext r1
  unfold REL relD relH relT relN allC
  rw [eW, eH, eC, hI 1 0 (by omega), hI 1 1 (by omega), hI 1 2 (by omega), hI 94 1 (by omega), hI 12 1 (by omega), hI 12 2 (by omega), k0 2 (by omega), k0 3 (by omega), k0 4 (by omega), k0 5 (by omega), k0 19 (by omega), e1]
  refine ⟨⟨⟨?_, d2, d3, d4⟩, fun i hi => by rw [hJ 1 3 (by omega)]; exact hall i hi, hly⟩, sR_fr (fun p j g1 g2 => hI p j (by omega)) (fun p j g1 g2 => hJ p j (by omega)) h2, ⟨nx, u, n1, n2, n3, n4, n5, fun t ht => ?_⟩, ⟨⟨?_, fun k hk => by rw [r10]; exact t1.2 k hk⟩, t2, fun k hk => ?_⟩, hn⟩
  · unfold dimC at d1 ⊢
    rw [hI 1 0 (by omega), hI 1 1 (by omega), hI 1 2 (by omega)]
    exact d1
  · have hrow : (fun k => Ir' 2 (416 * t + k)) = fun k => Ir 2 (416 * t + k) := funext fun k => r2 _
    rw [hrow]
    have hp : (nx + 8 - u + t) % 8 < 8 := by omega
    refine sR_fr (fun p j g1 g2 => hI p j ?_) (fun p j g1 g2 => hJ p j ?_) (n6 t ht)
    · unfold rgP at g1 g2
      omega
    · unfold rgP at g1 g2
      omega
  · rw [k0 19 (by omega)]
    exact t1.1
  · rw [hI 95 k (by omega), r10]
    refine t3 k ?_
    unfold tlN at hk ⊢
    rw [k0 19 (by omega)] at hk
    exact hk
