/-! levels of difficulty as mathematics (own work) -/
theorem least_ex {P : Nat → Prop} (h : ∃ a, P a) : ∃ a, P a ∧ ∀ x, P x → a ≤ x := by
  obtain ⟨a, ha⟩ := h
  induction a using Nat.strongRecOn with
  | _ a ih =>
    by_cases hx : ∃ x, P x ∧ x < a
    · obtain ⟨x, h1, h2⟩ := hx
      exact ih x h2 h1
    · exact ⟨a, ha, fun x h1 => Nat.le_of_not_lt fun h2 => hx ⟨x, h1, h2⟩⟩
theorem most_ex {P : Nat → Prop} {N : Nat} (h : ∃ a, P a) (hN : ∀ x, P x → x ≤ N) : ∃ a, P a ∧ ∀ x, P x → x ≤ a := by
  obtain ⟨d, ⟨a, ha, hd⟩, hm⟩ := least_ex (P := fun d => ∃ a, P a ∧ d + a = N) (by
    obtain ⟨a, ha⟩ := h
    exact ⟨N - a, a, ha, by have := hN a ha; omega⟩)
  refine ⟨a, ha, fun x hx => ?_⟩
  have h1 := hN x hx
  have := hm (N - x) ⟨x, hx, by omega⟩
  omega
section DM_
variable {w h : Nat} {f : Nat → Int32} {u v : Nat → Nat}
theorem EL_ex {l b : Nat} (hok : okl 3 f l) (hb : b < manyN f l) (hne : ∃ s, PF w h f u l s) : (∃ a, Es w h f u l b a) ∧ ∃ a, Ls w h f u l b a := by
  obtain ⟨s, hs⟩ := hne
  constructor
  · obtain ⟨a, ⟨s1, h1, h2⟩, h3⟩ := least_ex (P := fun a => ∃ s, PF w h f u l s ∧ s b = a) ⟨s b, s, hs, rfl⟩
    exact ⟨a, ⟨s1, h1, h2⟩, fun s' hs' => h3 _ ⟨s', hs', rfl⟩⟩
  · obtain ⟨a, ⟨s1, h1, h2⟩, h3⟩ := most_ex (P := fun a => ∃ s, PF w h f u l s ∧ s b = a) (N := cellsN w h l) ⟨s b, s, hs, rfl⟩ (by
      rintro x ⟨s', hs', rfl⟩
      exact Nat.le_of_lt (vld_16 hok hs'.1 hb))
    exact ⟨a, ⟨s1, h1, h2⟩, fun s' hs' => h3 _ ⟨s', hs', rfl⟩⟩
/-- marks that fillings leave as they are, overlaps leave as they are -/
theorem good_21 (hw : w ≤ 8) (hh : h ≤ 8) (hok : ∀ l, l < 16 → okl 3 f l) (hg : good w h f 2 u) : good w h f 1 u := by
  intro l hl hn
  obtain ⟨⟨s, hs⟩, g2⟩ := hg l hl hn
  refine ⟨⟨s, hs⟩, fun i hi => ?_⟩
  have hokl := hok l (by omega)
  have hB : B2 w h f u l i (u (atN w h l i)) := g2 i hi
  have hE : ∃ E L : Nat → Nat, ∀ b, b < manyN f l → Es w h f u l b (E b) ∧ Ls w h f u l b (L b) := by
    refine ⟨fun b => Classical.epsilon (fun a => Es w h f u l b a), fun b => Classical.epsilon (fun a => Ls w h f u l b a), fun b hb => ?_⟩
    obtain ⟨h1, h2⟩ := EL_ex (w := w) (h := h) (u := u) hokl hb ⟨s, hs⟩
    exact ⟨Classical.epsilon_spec h1, Classical.epsilon_spec h2⟩
  obtain ⟨E, L, hEL⟩ := hE
  have hone : ∀ d, d < 4 → (∀ s, PF w h f u l s → pcN f l s (manyN f l) i = d) → u (atN w h l i) = 2 ^ d := fun d hd hall => by
    refine sub_anti hB.1 (p2_16 d hd) (fun c hc z => ?_) (fun c hc z => ?_)
    · obtain ⟨s', h1, h2⟩ := (hB.2 c hc).mp z
      rw [bit_p2 _ hd _ hc, ← h2, hall s' h1]
    · rw [bit_p2 _ hd _ hc] at z
      exact (hB.2 c hc).mpr ⟨s, hs, by rw [hall s hs]; omega⟩
  refine ⟨E, L, hEL, ?_⟩
  by_cases h1 : ∃ b, b < manyN f l ∧ L b ≤ i ∧ i < E b + lenN f l b
  · obtain ⟨b, hb, h2, h3⟩ := h1
    have hc := col_eq (by omega) hokl hb
    refine Or.inl ⟨b, hb, h2, h3, hone _ (by omega) fun s' hs' => ?_⟩
    have g1 := (hEL b hb).1.2 s' hs'
    have g2 := (hEL b hb).2.2 s' hs'
    exact pcN_in hokl hs'.1 (b := b) (by omega) (by omega) hb (Nat.le_refl _)
  · have h1' : ∀ b, b < manyN f l → ¬ (L b ≤ i ∧ i < E b + lenN f l b) := fun b hb z => h1 ⟨b, hb, z.1, z.2⟩
    by_cases h2 : ∃ b, b < manyN f l ∧ E b ≤ i ∧ i < L b + lenN f l b
    · exact Or.inr (Or.inl ⟨h1', h2, rfl⟩)
    · have h2' : ∀ b, b < manyN f l → ¬ (E b ≤ i ∧ i < L b + lenN f l b) := fun b hb z => h2 ⟨b, hb, z.1, z.2⟩
      refine Or.inr (Or.inr ⟨h1', h2', ?_⟩)
      have := hone 0 (by omega) fun s' hs' => pcN_out (fun b hb g => h2' b hb (by
        have g1 := (hEL b hb).1.2 s' hs'
        have g2 := (hEL b hb).2.2 s' hs'
        omega))
      exact this
/-- solutions stay, at each level -/
theorem sol_NTl {lev : Nat} {p : Nat → Nat} (hl : lev = 1 ∨ lev = 2) (hok : ∀ l, l < 16 → okl 3 f l) (hw : w ≤ 8) (hh : h ≤ 8) (hu : ∀ k, k < w * h → u k < 16) (hv : ∀ k, k < w * h → v k < 16) (hN : NTc w h f lev u v) : sol w h f u p ↔ sol w h f v p := by
  constructor
  · intro hs
    obtain ⟨r, h1, h2, h3⟩ := sol_good hok hw hh hu hs
    have h2' : good w h f lev r := by
      rcases hl with rfl | rfl
      · exact good_21 hw hh hok h2
      · exact h2
    refine ⟨fun k hk => ?_, hs.2⟩
    have hp4 := bit_lt (hu k hk) (hs.1 k hk)
    refine hN.2.2 r (fun k _ => h1 k) h2' k hk _ hp4 ?_
    rw [h3 k hk, bit_p2 _ hp4 _ hp4]
  · exact fun hs => ⟨fun k hk => hN.1 k hk _ (bit_lt (hv k hk) (hs.1 k hk)) (hs.1 k hk), hs.2⟩
theorem sol_NFl {lev : Nat} {p : Nat → Nat} (hl : lev = 1 ∨ lev = 2) (hok : ∀ l, l < 16 → okl 3 f l) (hw : w ≤ 8) (hh : h ≤ 8) (hu : ∀ k, k < w * h → u k < 16) (hN : NFc w h f lev u) : ¬ sol w h f u p := fun hs => by
  obtain ⟨r, h1, h2, -⟩ := sol_good hok hw hh hu hs
  have h2' : good w h f lev r := by
    rcases hl with rfl | rfl
    · exact good_21 hw hh hok h2
    · exact h2
  exact hN r (fun k _ => h1 k) h2'
/-- narrowing at level 1, then at level 2, is narrowing at level 2 -/
theorem NT_12 {x : Nat → Nat} (hok : ∀ l, l < 16 → okl 3 f l) (hw : w ≤ 8) (hh : h ≤ 8) (h1 : NTc w h f 1 u v) (h2 : NTc w h f 2 v x) : NTc w h f 2 u x := ⟨fun k hk => sub_trans (h2.1 k hk) (h1.1 k hk), h2.2.1, fun r hr hg => h2.2.2 r (h1.2.2 r hr (good_21 hw hh hok hg)) hg⟩
theorem NF_12 (hok : ∀ l, l < 16 → okl 3 f l) (hw : w ≤ 8) (hh : h ≤ 8) (h1 : NTc w h f 1 u v) (h2 : NFc w h f 2 v) : NFc w h f 2 u := fun r hr hg => h2 r (h1.2.2 r hr (good_21 hw hh hok hg)) hg
theorem bc_1 : ∀ x, x < 16 → bc x = 1 → ∃ c, c < 4 ∧ x = 2 ^ c := by decide +kernel
/-- marks that are good and known everywhere are one solution -/
theorem one_sol {lev : Nat} (hok : ∀ l, l < 16 → okl 3 f l) (hw : w ≤ 8) (hh : h ≤ 8) (hv : ∀ k, k < w * h → v k < 16) (hg : good w h f lev v) (hb : ∀ k, k < w * h → bc (v k) = 1) : CAP (sol w h f v) (fun c => c < w * h) 2 1 := by
  have hp : ∃ p : Nat → Nat, ∀ k, k < w * h → p k < 4 ∧ v k = 2 ^ p k := by
    refine ⟨fun k => Classical.epsilon (fun c => c < 4 ∧ v k = 2 ^ c), fun k hk => ?_⟩
    exact Classical.epsilon_spec (p := fun c => c < 4 ∧ v k = 2 ^ c) (bc_1 _ (hv k hk) (hb k hk))
  obtain ⟨p, hp⟩ := hp
  have hbit : ∀ k, k < w * h → ∀ c, c < 4 → v k / 2 ^ c % 2 = 1 → c = p k := fun k hk c hc z => by
    rw [(hp k hk).2, bit_p2 _ (hp k hk).1 _ hc] at z
    omega
  have hsol : sol w h f v p := by
    refine ⟨fun k hk => by rw [(hp k hk).2, bit_p2 _ (hp k hk).1 _ (hp k hk).1], fun l hl hn => ?_⟩
    obtain ⟨⟨s, hs⟩, -⟩ := hg l hl hn
    refine ⟨s, hs.1, fun i hi => ?_⟩
    have hlt := pcN_lt (s := s) (i := i) (hok l (by omega)) (Nat.le_refl (manyN f l))
    exact (hbit _ (atN_lt hw hh hl hi) _ (by omega) (hs.2 i hi)).symm
  refine ⟨by omega, fun _ => p, fun k _ => hsol, fun i j hij hj => by omega, fun _ q hq => ⟨0, by omega, fun k hk => ?_⟩⟩
  exact (hbit k hk _ (bit_lt (hv k hk) (hq.1 k hk)) (hq.1 k hk)).symm
theorem difR_one {C n x y : Nat} (h1 : difR w h C f n x) (h2 : difR w h C f n y) : x = y := by
  rcases h1 with ⟨a1, a2⟩ | ⟨a1, a2⟩ | ⟨a1, a2⟩
  · rcases h2 with ⟨b1, b2⟩ | ⟨b1, b2⟩ | ⟨b1, b2⟩ <;> omega
  · rcases h2 with ⟨b1, b2⟩ | ⟨b1, b2⟩ | ⟨b1, b2⟩ <;> omega
  · rcases h2 with ⟨b1, b2⟩ | ⟨b1, b2⟩ | ⟨b1, b2⟩
    · omega
    · omega
    · rcases a2 with ⟨c1, c2, c3, c4⟩ | ⟨c1, c2⟩
      · rcases b2 with ⟨d1, d2, d3, d4⟩ | ⟨d1, d2⟩
        · rcases Nat.lt_trichotomy x y with h5 | h5 | h5
          · exact absurd c3 (d4 x c1 h5)
          · exact h5
          · exact absurd d3 (c4 y d1 h5)
        · exact absurd c3 (d2 x c1 (by omega))
      · rcases b2 with ⟨d1, d2, d3, d4⟩ | ⟨d1, d2⟩
        · exact absurd d3 (c2 y d1 (by omega))
        · omega
theorem cq_lvD {f' : Nat → Int32} {C lev : Nat} (hc : cq f f') (hwh : h + w ≤ 16) : lvD w h C f' lev ↔ lvD w h C f lev := by
  unfold lvD
  simp only [cq_NLc hc hwh]
theorem cq_difR {f' : Nat → Int32} {C n x : Nat} (hc : cq f f') (hwh : h + w ≤ 16) : difR w h C f' n x ↔ difR w h C f n x := by
  unfold difR
  simp only [cq_lvD hc hwh]
end DM_
