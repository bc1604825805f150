/-! a situation recorded, and brought back (own work) -/
theorem cpy_in {I : fx_MI} {a a0 n j : Nat} (hj : j < n) : fx_cpy I a a0 0 0 n a j = I a0 j := by
  unfold fx_cpy va_cpy
  rw [if_pos rfl, if_pos (by omega), Nat.zero_add, Nat.sub_zero]
theorem cpC_at {I : fx_MI} {q o : Nat} (hd : o + 4 < q ∨ q + 4 < o) : cpC I q o q 0 = I o 0 ∧ (∀ j, j < 16 → cpC I q o (q + 1) j = I (o + 1) j) ∧ (∀ j, j < 16 → cpC I q o (q + 2) j = I (o + 2) j) ∧ (∀ j, j < 128 → cpC I q o (q + 3) j = I (o + 3) j) ∧ ∀ j, j < 128 → cpC I q o (q + 4) j = I (o + 4) j := by
  unfold cpC
  refine ⟨?_, fun j hj => ?_, fun j hj => ?_, fun j hj => ?_, fun j hj => ?_⟩
  · rw [fx_cpy_ne (by omega), fx_cpy_ne (by omega), fx_cpy_ne (by omega), fx_cpy_ne (by omega), up_eq]
  · rw [fx_cpy_ne (by omega), fx_cpy_ne (by omega), fx_cpy_ne (by omega), cpy_in hj, up_ne (by omega)]
  · rw [fx_cpy_ne (by omega), fx_cpy_ne (by omega), cpy_in hj, fx_cpy_ne (by omega), up_ne (by omega)]
  · rw [fx_cpy_ne (by omega), cpy_in hj, fx_cpy_ne (by omega), fx_cpy_ne (by omega), up_ne (by omega)]
  · rw [cpy_in hj, fx_cpy_ne (by omega), fx_cpy_ne (by omega), fx_cpy_ne (by omega), up_ne (by omega)]
theorem clR_cp {w h c q o : Nat} {I I' : fx_MI} {f : Nat → Int32} (hwh : h + w ≤ 16) (e0 : I' q 0 = I o 0) (e1 : ∀ j, j < 16 → I' (q + 1) j = I (o + 1) j) (e2 : ∀ j, j < 16 → I' (q + 2) j = I (o + 2) j) (e3 : ∀ j, j < 128 → I' (q + 3) j = I (o + 3) j) (e4 : ∀ j, j < 128 → I' (q + 4) j = I (o + 4) j) (h1 : clR w h c I o f) : clR w h c I' q f := by
  refine ⟨fun l hl => ?_, by rw [e0]; exact h1.2.1, fun l hl => by rw [e2 l (by omega)]; exact h1.2.2 l hl⟩
  obtain ⟨g1, g2, g3, g4⟩ := h1.1 l hl
  have h8 := many8 g1
  refine ⟨g1, ?_, ?_, fun b hb => ?_⟩
  · rw [cf_has hl] at g2 ⊢
    rw [e0]
    exact g2
  · rw [cf_sz hl] at g3 ⊢
    rw [e1 l hl]
    exact g3
  · obtain ⟨k1, k2⟩ := g4 b hb
    rw [cf_ln hl (by omega), cf_co] at *
    rw [e3 _ (by omega), e4 _ (by omega)]
    exact ⟨k1, k2⟩
theorem cpSJ_at {J : fx_MJ} {q o : Nat} (hd : o + 9 < q ∨ q + 9 < o) : (∀ d, d < 4 → cpSJ J q o (q + 7) d = J (o + 7) d) ∧ (∀ d, d < 4 → cpSJ J q o (q + 9) d = J (o + 9) d) ∧ ∀ p d, p ≠ q + 7 → p ≠ q + 9 → cpSJ J q o p d = J p d := by
  unfold cpSJ
  refine ⟨fun d hd4 => ?_, fun d hd4 => ?_, fun p d h1 h2 => ?_⟩
  · rw [fillL_row (by omega), fillL_in (Nat.zero_le _) (by omega)]
    rfl
  · rw [fillL_in (Nat.zero_le _) (by omega), fillL_row (by omega)]
    rfl
  · rw [fillL_row h2, fillL_row h1]
theorem mkR_cp {w h c q o : Nat} {J J' : fx_MJ} {f : Nat → Int32} (e : ∀ d, d < 4 → J' (q + 1) d = J (o + 1) d) (h1 : mkR w h c J o f) : mkR w h c J' q f := by
  refine ⟨fun d hd i hi hb => h1.1 d hd i hi (by rw [← e d hd]; exact hb), fun d h2 h3 i hi => by rw [e d h3]; exact h1.2.1 d h2 h3 i hi, fun k hk => ?_⟩
  have : cu w J' q k = cu w J o k := by
    unfold cu
    exact mskF_c fun d hd => by rw [e d hd]
  rw [this]
  exact h1.2.2 k hk
theorem pcR_cp {w h q o : Nat} {J J' : fx_MJ} {f : Nat → Int32} (e : ∀ d, d < 4 → J' (q + 1) d = J (o + 1) d) (h1 : pcR w h J o f) : pcR w h J' q f := fun d i hd hi => by
  rw [e d hd]
  exact h1 d i hd hi
/-- a situation copied is the same situation -/
theorem sR_cp {w h c a b : Nat} {I : fx_MI} {J : fx_MJ} {f : Nat → Int32} (hwh : h + w ≤ 16) (hd : b + 9 < a ∨ a + 9 < b) (h1 : sR w h c I J b f) : sR w h c (cpC I (a + 1) (b + 1)) (cpSJ J a b) a f := by
  obtain ⟨e0, e1, e2, e3, e4⟩ := cpC_at (I := I) (q := a + 1) (o := b + 1) (by omega)
  obtain ⟨g1, g2, -⟩ := cpSJ_at (J := J) (q := a) (o := b) hd
  exact ⟨clR_cp hwh e0 e1 e2 e3 e4 h1.1, mkR_cp g1 h1.2.1, pcR_cp g2 h1.2.2.1, h1.2.2.2⟩
theorem recI_ne {I : fx_MI} {o q j : Nat} (hd : q < 12 ∨ 94 ≤ q) (hh : hisI I) : recI I o q j = I q j := by
  obtain ⟨⟨nx, h1, h2⟩, -⟩ := hh
  unfold recI
  rw [up_ne (by omega), up_ne (by omega), h2, nv_nI (by omega)]
  exact cpC_ne (by unfold rgP; omega)
theorem recJ_ne {I : fx_MI} {J : fx_MJ} {o q j : Nat} (hd : q < 12 ∨ 94 ≤ q) (hh : hisI I) : recJ I J o q j = J q j := by
  obtain ⟨⟨nx, h1, h2⟩, -⟩ := hh
  unfold recJ cpSJ
  rw [h2, nv_nI (by omega), fillL_row (by unfold rgP; omega), fillL_row (by unfold rgP; omega)]
theorem REL_his {I : fx_MI} {J : fx_MJ} {Ir : fx_MI} (h1 : REL I J Ir) : hisI I := by
  obtain ⟨nx, u, n1, n2, n3, n4, -⟩ := h1.2.2.1
  exact ⟨⟨nx, n1, n3⟩, u, by omega, n4⟩
theorem REL_rec {I : fx_MI} {J : fx_MJ} {Ir : fx_MI} (h1 : REL I J Ir) : REL (recI I 2) (recJ I J 2) (keepsM Ir) := by
  have hh := REL_his h1
  obtain ⟨⟨⟨d1, d2, d3, d4⟩, hall, hl0⟩, h2, ⟨nx, u, n1, n2, n3, n4, n5, n6⟩, ⟨t1, t2, t3⟩, m1, m2, m3, m4⟩ := h1
  obtain ⟨hw, hhh, hc, -⟩ := dimC_of d1
  have hwh := wh_le hw.2 hhh.2
  have eI : ∀ q j, (q < 12 ∨ 94 ≤ q) → recI I 2 q j = I q j := fun q j hq => recI_ne hq hh
  have eJ : ∀ q j, (q < 12 ∨ 94 ≤ q) → recJ I J 2 q j = J q j := fun q j hq => recJ_ne hq hh
  have eW : cW (recI I 2) = cW I := by unfold cW; rw [eI 1 0 (by omega)]
  have eH : cH (recI I 2) = cH I := by unfold cH; rw [eI 1 1 (by omega)]
  have eC : cC (recI I 2) = cC I := by unfold cC; rw [eI 1 2 (by omega)]
  have k0 : ∀ j, j ≠ 2 → keepsM Ir 0 j = Ir 0 j := fun j hj => keepsM_ne (by omega) (by omega)
  have kq : ∀ q j, q ≠ 2 → q ≠ 0 → keepsM Ir q j = Ir q j := fun q j g1 g2 => keepsM_ne g1 (Or.inl g2)
  have x2 : recI I 2 12 2 = nI ((nx + 1) % 8) := by
    unfold recI
    rw [up_ne (by omega), up_eq, n3, nv_nI (by omega)]
  have x1 : recI I 2 12 1 = nI (min (u + 1) 8) := by
    unfold recI
    rw [up_eq, n4, nv_nI (by omega)]
  have y2 : keepsM Ir 0 2 = nI (min (u + 1) 8) := by
    unfold keepsM
    rw [n5, nv_nI (by omega)]
    by_cases hu : u = 8
    · rw [if_pos hu, up_eq, Nat.min_eq_right (by omega)]
    · rw [if_neg hu, up_eq, Nat.min_eq_left (by omega)]
  unfold REL relD relH relT relN allC
  rw [eW, eH, eC, eI 1 0 (by omega), eI 1 1 (by omega), eI 1 2 (by omega), k0 3 (by omega), k0 4 (by omega), k0 5 (by omega), k0 6 (by omega), k0 7 (by omega), k0 8 (by omega), k0 9 (by omega), eI 138 5 (by omega), eI 138 6 (by omega), eI 138 7 (by omega), eI 138 8 (by omega), eI 94 1 (by omega), k0 19 (by omega), x1, x2, y2]
  refine ⟨⟨⟨?_, d2, d3, d4⟩, fun i hi => by rw [eJ 1 3 (by omega)]; exact hall i hi, fun c hc i hi hb => hl0 c hc i hi (by rw [← eJ 114 c (by omega)]; exact hb)⟩, ?_, ⟨(nx + 1) % 8, min (u + 1) 8, by omega, by omega, rfl, rfl, rfl, fun t ht => ?_⟩, ⟨⟨by rw [k0 19 (by omega)]; exact t1.1, fun k hk => by rw [kq 10 k (by omega) (by omega)]; exact t1.2 k hk⟩, t2, fun k hk => ?_⟩, m1, m2, m3, m4⟩
  · unfold dimC at d1 ⊢
    rw [eI 1 0 (by omega), eI 1 1 (by omega), eI 1 2 (by omega)]
    exact d1
  · rw [keepsM_row]
    exact sR_fr (fun p j g1 g2 => eI p j (by omega)) (fun p j g1 g2 => eJ p j (by omega)) h2
  · -- the ring
    have hold : ∀ p, p < 8 → p ≠ nx → ∀ f, sR (cW I) (cH I) (cC I) I J (rgP p) f → sR (cW I) (cH I) (cC I) (recI I 2) (recJ I J 2) (rgP p) f := fun p hp hne f hs => by
      refine sR_fr (fun q j g1 g2 => ?_) (fun q j g1 g2 => ?_) hs
      · unfold recI
        unfold rgP at g1 g2
        rw [up_ne (by omega), up_ne (by omega), n3, nv_nI (by omega)]
        exact cpC_ne (by unfold rgP; omega)
      · unfold recJ
        unfold rgP at g1 g2
        rw [n3, nv_nI (by omega)]
        exact (cpSJ_at (by unfold rgP; omega)).2.2 q j (by unfold rgP; omega) (by unfold rgP; omega)
    have hnew : sR (cW I) (cH I) (cC I) (recI I 2) (recJ I J 2) (rgP nx) (Ir 1) := by
      have := sR_cp (a := rgP nx) (by omega) (by unfold rgP; omega) h2
      unfold recI recJ
      rw [n3, nv_nI (by omega)]
      refine sR_fr (fun q j g1 g2 => ?_) (fun q j g1 g2 => rfl) this
      unfold rgP at g1 g2
      rw [up_ne (by omega), up_ne (by omega)]
    by_cases hu : u = 8
    · subst hu
      have hk : ∀ j, keepsM Ir 2 j = if 2912 ≤ j ∧ j < 3328 then Ir 1 (j - 2912) else if j < 2912 then Ir 2 (j + 416) else Ir 2 j := fun j => by
        unfold keepsM
        rw [n5, nv_nI (by omega), if_pos rfl, up_ne (by omega)]
        unfold fill k1M
        by_cases h5 : 2912 ≤ j ∧ j < 3328
        · rw [if_pos h5, if_pos ⟨rfl, by omega⟩]
          try rw [up_ne (by omega)]
        · rw [if_neg h5, if_neg (by omega), up_ne (by omega)]
          unfold fill
          by_cases h6 : j < 2912
          · rw [if_pos h6, if_pos ⟨rfl, by omega⟩, Nat.sub_zero]
          · rw [if_neg h6, if_neg (by omega)]
      by_cases h7 : t = 7
      · subst h7
        rw [show ((nx + 1) % 8 + 8 - min (8 + 1) 8 + 7) % 8 = nx by omega]
        refine sR_cong (by omega) hwh (fun k hk4 => ?_) hnew
        try dsimp only
        rw [hk, if_pos (by omega), show 416 * 7 + k - 2912 = k by omega]
      · have := hold ((nx + 8 - 8 + (t + 1)) % 8) (by omega) (by omega) _ (n6 (t + 1) (by omega))
        rw [show ((nx + 1) % 8 + 8 - min (8 + 1) 8 + t) % 8 = (nx + 8 - 8 + (t + 1)) % 8 by omega]
        refine sR_cong (by omega) hwh (fun k hk4 => ?_) this
        try dsimp only
        rw [hk, if_neg (by omega), if_pos (by omega), show 416 * t + k + 416 = 416 * (t + 1) + k by omega]
    · have hk : ∀ j, keepsM Ir 2 j = if 416 * u ≤ j ∧ j < 416 * u + 416 then Ir 1 (j - 416 * u) else Ir 2 j := fun j => by
        unfold keepsM
        rw [n5, nv_nI (by omega), if_neg hu, up_ne (by omega)]
        unfold fill
        by_cases h5 : 416 * u ≤ j ∧ j < 416 * u + 416
        · rw [if_pos h5, if_pos ⟨rfl, h5⟩]
        · rw [if_neg h5, if_neg (by omega)]
      by_cases h7 : t = u
      · subst h7
        rw [show ((nx + 1) % 8 + 8 - min (t + 1) 8 + t) % 8 = nx by omega]
        refine sR_cong (by omega) hwh (fun k hk4 => ?_) hnew
        try dsimp only
        rw [hk, if_pos (by omega), show 416 * t + k - 416 * t = k by omega]
      · have := hold ((nx + 8 - u + t) % 8) (by omega) (by omega) _ (n6 t (by omega))
        rw [show ((nx + 1) % 8 + 8 - min (u + 1) 8 + t) % 8 = (nx + 8 - u + t) % 8 by omega]
        refine sR_cong (by omega) hwh (fun k hk4 => ?_) this
        try dsimp only
        rw [hk, if_neg (by omega)]
  · rw [eI 95 k (by omega), kq 10 k (by omega) (by omega)]
    refine t3 k ?_
    unfold tlN at hk ⊢
    rw [k0 19 (by omega)] at hk
    exact hk
