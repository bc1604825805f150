/-! the search as a whole, as mathematics (own work) -/
theorem sol_NTc {w h : Nat} {f : Nat → Int32} {u v p : Nat → Nat} (hok : ∀ l, l < 16 → okl 3 f l) (hw : w ≤ 8) (hh : h ≤ 8) (hu : ∀ k, k < w * h → u k < 16) (hv : ∀ k, k < w * h → v k < 16) (hN : NTc w h f 2 u v) : sol w h f u p ↔ sol w h f v p := by
  constructor
  · intro hs
    obtain ⟨r, h1, h2, h3⟩ := sol_good hok hw hh hu hs
    refine ⟨fun k hk => ?_, hs.2⟩
    have hp4 := bit_lt (hu k hk) (hs.1 k hk)
    refine hN.2.2 r (fun k _ => h1 k) h2 k hk _ hp4 ?_
    rw [h3 k hk, bit_p2 _ hp4 _ hp4]
  · exact fun hs => ⟨fun k hk => hN.1 k hk _ (bit_lt (hv k hk) (hs.1 k hk)) (hs.1 k hk), hs.2⟩
theorem sol_NFc {w h : Nat} {f : Nat → Int32} {u p : Nat → Nat} (hok : ∀ l, l < 16 → okl 3 f l) (hw : w ≤ 8) (hh : h ≤ 8) (hu : ∀ k, k < w * h → u k < 16) (hN : NFc w h f 2 u) : ¬ sol w h f u p := fun hs => by
  obtain ⟨r, h1, h2, -⟩ := sol_good hok hw hh hu hs
  exact hN r (fun k _ => h1 k) h2
theorem nm_pos {w h : Nat} {f : Nat → Int32} {u : Nat → Nat} {l : Nat} {I : fx_MI} (hok : okl 3 f l) (hl : l < h + w) (hA : autT w h f u l I) (h0 : f l = nI 0 → ∀ i, i < cellsN w h l → ∃ c, c < 4 ∧ u (atN w h l i) / 2 ^ c % 2 = 1) (h1 : ¬ f l = nI 0 → ∃ s, PF w h f u l s) : 0 < nmT I l 0 := by
  have hix : ∃ x : Nat → Nat, ∀ i, i < cellsN w h l → x (atN w h l i) = i := by
    unfold cellsN atN
    by_cases hlh : l < h
    · refine ⟨fun k => k % w, fun i hi => ?_⟩
      rw [if_pos hlh] at hi ⊢
      exact (dm_ hi).2
    · refine ⟨fun k => k / w, fun i hi => ?_⟩
      rw [if_neg hlh] at hi ⊢
      rw [show w * i + l - h = w * i + (l - h) by omega]
      exact (dm_ (by omega)).1
  obtain ⟨x, hx⟩ := hix
  have hp : ∃ p : Nat → Nat, (∀ i, i < cellsN w h l → p (atN w h l i) < 4) ∧ (∀ i, i < cellsN w h l → cnB w h u l (p (atN w h l i)) i) ∧ fitL w h f l p := by
    by_cases hf : f l = nI 0
    · have hc : ∃ g : Nat → Nat, ∀ i, i < cellsN w h l → g i < 4 ∧ u (atN w h l i) / 2 ^ (g i) % 2 = 1 := by
        have hq : ∀ i, ∃ c, i < cellsN w h l → c < 4 ∧ u (atN w h l i) / 2 ^ c % 2 = 1 := fun i => by
          by_cases hi : i < cellsN w h l
          · obtain ⟨c, q1, q2⟩ := h0 hf i hi
            exact ⟨c, fun _ => ⟨q1, q2⟩⟩
          · exact ⟨0, fun z => absurd z hi⟩
        obtain ⟨g, hg⟩ := Classical.skolem.mp hq
        exact ⟨g, hg⟩
      obtain ⟨g, hg⟩ := hc
      refine ⟨fun k => g (x k), fun i hi => ?_, fun i hi => ⟨hi, ?_⟩, fun z => absurd hf z⟩
      · show g (x (atN w h l i)) < 4
        rw [hx i hi]
        exact (hg i hi).1
      · show u (atN w h l i) / 2 ^ (g (x (atN w h l i))) % 2 = 1
        rw [hx i hi]
        exact (hg i hi).2
    · obtain ⟨s, s1, s2⟩ := h1 hf
      refine ⟨fun k => pcN f l s (manyN f l) (x k), fun i hi => ?_, fun i hi => ⟨hi, ?_⟩, fun _ => ⟨s, s1, fun i hi => ?_⟩⟩
      · exact pcN_lt hok (Nat.le_refl _)
      · show u (atN w h l i) / 2 ^ (pcN f l s (manyN f l) (x (atN w h l i))) % 2 = 1
        rw [hx i hi]
        exact s2 i hi
      · show pcN f l s (manyN f l) (x (atN w h l i)) = _
        rw [hx i hi]
  obtain ⟨p, p1, p2, p3⟩ := hp
  exact ((hA.2.2.2 p p1).mp ⟨p2, p3⟩).1
/-- narrowing empties no cell -/
theorem NT_ne {w h lev : Nat} {f : Nat → Int32} {u v : Nat → Nat} (hok : ∀ l, l < 16 → okl 3 f l) (hw : w ≤ 8) (hh : h ≤ 8) (hN : NTc w h f lev u v) (hne : ∀ k, k < w * h → ∃ c, c < 4 ∧ u k / 2 ^ c % 2 = 1) {k : Nat} (hk : k < w * h) : ∃ c, c < 4 ∧ v k / 2 ^ c % 2 = 1 := by
  obtain ⟨hm, hd⟩ := k_dm hk
  by_cases hr : f (k / w) = nI 0
  · by_cases hc : f (h + k % w) = nI 0
    · obtain ⟨c, c1, c2⟩ := hne k hk
      have hnk : ∀ l, l < h + w → ¬ f l = nI 0 → ∀ i, i < cellsN w h l → atN w h l i ≠ k := fun l hl hn i hi z => by
        unfold cellsN at hi
        unfold atN at z
        by_cases hlh : l < h
        · rw [if_pos hlh] at hi z
          have e := (dm_ (w := w) (l := l) hi).1
          rw [z] at e
          rw [← e] at hn
          exact hn hr
        · rw [if_neg hlh] at hi z
          have e := (dm_ (w := w) (l := i) (i := l - h) (by omega)).2
          rw [show w * i + (l - h) = k by omega] at e
          rw [show l = h + k % w by omega] at hn
          exact hn hc
      have he : ∀ l, l < h + w → ¬ f l = nI 0 → ∀ i, i < cellsN w h l → v (atN w h l i) = (fun j => if j = k then u k else v j) (atN w h l i) := fun l hl hn i hi => (if_neg (hnk l hl hn i hi)).symm
      refine ⟨c, c1, hN.2.2 (fun j => if j = k then u k else v j) (fun j hj => ?_) (fun l hl hn => ?_) k hk c c1 ?_⟩
      · show sub (if j = k then u k else v j) (u j)
        by_cases hjk : j = k
        · rw [if_pos hjk, hjk]
          exact fun _ _ z => z
        · rw [if_neg hjk]
          exact hN.1 j hj
      · obtain ⟨⟨s, hs⟩, g2⟩ := hN.2.1 l hl hn
        refine ⟨⟨s, (PF_ul (he l hl hn)).mp hs⟩, fun i hi => ?_⟩
        rw [← he l hl hn i hi]
        exact (BT_ul hi (he l hl hn)).mp (g2 i hi)
      · show (if k = k then u k else v k) / 2 ^ c % 2 = 1
        rw [if_pos rfl]
        exact c2
    · obtain ⟨⟨s, hs⟩, -⟩ := hN.2.1 (h + k % w) (by omega) hc
      have := hs.2 (k / w) (by unfold cellsN; rw [if_neg (by omega)]; exact hd)
      rw [at_col] at this
      exact ⟨_, pcN_lt (hok _ (by omega)) (Nat.le_refl _), this⟩
  · obtain ⟨⟨s, hs⟩, -⟩ := hN.2.1 (k / w) (by omega) hr
    have := hs.2 (k % w) (by unfold cellsN; rw [if_pos hd]; exact hm)
    rw [at_row hk] at this
    exact ⟨_, pcN_lt (hok _ (by omega)) (Nat.le_refl _), this⟩
