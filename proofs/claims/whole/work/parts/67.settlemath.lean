/-! narrowing line by line, in any order, as mathematics (own work) -/
section SM
variable {w h : Nat} {f : Nat → Int32} {lev : Nat}
/-- no filling is wanting on line l, and narrowing leaves it as it is -/
def stl (w h : Nat) (f : Nat → Int32) (lev : Nat) (u : Nat → Nat) (l : Nat) : Prop := (∃ s, PF w h f u l s) ∧ ∀ i, i < cellsN w h l → BT w h f lev u l i (u (atN w h l i))
theorem PF_ul {u u' : Nat → Nat} {l : Nat} {s : Nat → Nat} (he : ∀ i, i < cellsN w h l → u (atN w h l i) = u' (atN w h l i)) : PF w h f u l s ↔ PF w h f u' l s := by
  unfold PF
  refine and_congr Iff.rfl ⟨fun g i hi => ?_, fun g i hi => ?_⟩
  · rw [← he i hi]
    exact g i hi
  · rw [he i hi]
    exact g i hi
theorem BT_ul {u u' : Nat → Nat} {l i x : Nat} (hi : i < cellsN w h l) (he : ∀ i, i < cellsN w h l → u (atN w h l i) = u' (atN w h l i)) : BT w h f lev u l i x ↔ BT w h f lev u' l i x := by
  unfold BT B1 B2 Es Ls
  rw [he i hi]
  simp only [PF_ul he]
theorem stl_ul {u u' : Nat → Nat} {l : Nat} (he : ∀ i, i < cellsN w h l → u (atN w h l i) = u' (atN w h l i)) (hs : stl w h f lev u l) : stl w h f lev u' l := by
  obtain ⟨⟨s, h1⟩, h2⟩ := hs
  refine ⟨⟨s, (PF_ul he).mp h1⟩, fun i hi => ?_⟩
  rw [← he i hi]
  exact (BT_ul hi he).mp (h2 i hi)
theorem good_stl {u : Nat → Nat} : good w h f lev u ↔ ∀ l, l < h + w → ¬ f l = nI 0 → stl w h f lev u l := Iff.rfl
/-- what is narrowed keeps all fillings -/
theorem BT_keeps {u : Nat → Nat} {l i x : Nat} {s : Nat → Nat} (hok : okl 3 f l) (hi : i < cellsN w h l) (hs : PF w h f u l s) (hx : BT w h f lev u l i x) : x / 2 ^ (pcN f l s (manyN f l) i) % 2 = 1 := by
  unfold BT at hx
  split at hx
  · obtain ⟨E, L, hEL, ⟨b, hb, h1, h2, rfl⟩ | ⟨-, -, rfl⟩ | ⟨h1, h2, rfl⟩⟩ := hx
    · have g1 := (hEL b hb).1.2 s hs
      have g2 := (hEL b hb).2.2 s hs
      have hc := col_eq (by omega) hok hb
      rw [pcN_in hok hs.1 (b := b) (by omega) (by omega) hb (Nat.le_refl _), bit_p2 _ (by omega) _ (by omega)]
    · exact hs.2 i hi
    · have e0 : pcN f l s (manyN f l) i = 0 := pcN_out (fun b hb g => h2 b hb (by
        have g1 := (hEL b hb).1.2 s hs
        have g2 := (hEL b hb).2.2 s hs
        omega))
      rw [e0]
  · have := pcN_lt (s := s) (i := i) hok (Nat.le_refl _)
    exact (hx.2 _ (by omega)).mpr ⟨s, hs, rfl⟩
theorem stl_idem {u u' : Nat → Nat} {l : Nat} {x : Nat → Nat} (hok : okl 3 f l) (hne : ∃ s, PF w h f u l s) (hx : ∀ i, i < cellsN w h l → BT w h f lev u l i (x i)) (he : ∀ i, i < cellsN w h l → u' (atN w h l i) = x i) : stl w h f lev u' l := by
  have hP : ∀ s, PF w h f u l s ↔ PF w h f u' l s := fun s => by
    constructor
    · intro hs
      refine ⟨hs.1, fun i hi => ?_⟩
      rw [he i hi]
      exact BT_keeps hok hi hs (hx i hi)
    · intro hs
      refine ⟨hs.1, fun i hi => ?_⟩
      have h1 := BT_sub hok hi hne (hx i hi)
      have h2 := hs.2 i hi
      rw [he i hi] at h2
      have h3 := pcN_lt (s := s) (i := i) hok (Nat.le_refl (manyN f l))
      exact h1 _ (by omega) h2
  refine ⟨?_, fun i hi => ?_⟩
  · obtain ⟨s, hs⟩ := hne
    exact ⟨s, (hP s).mp hs⟩
  · rw [he i hi]
    have h1 := hx i hi
    unfold BT at h1 ⊢
    split
    · rename_i hl
      rw [if_pos hl] at h1
      unfold B1 Es Ls at h1 ⊢
      simp only [hP] at h1
      obtain ⟨E, L, hEL, h2⟩ := h1
      refine ⟨E, L, hEL, ?_⟩
      rcases h2 with h2 | ⟨h3, h4, -⟩ | h2
      · exact Or.inl h2
      · exact Or.inr (Or.inl ⟨h3, h4, (he i hi).symm⟩)
      · exact Or.inr (Or.inr h2)
    · rename_i hl
      rw [if_neg hl] at h1
      unfold B2 at h1 ⊢
      simp only [hP] at h1
      exact h1
theorem PF_monoc {u v : Nat → Nat} {l : Nat} {s : Nat → Nat} (hw : w ≤ 8) (hh : h ≤ 8) (hl : l < h + w) (hok : okl 3 f l) (huv : ∀ k, k < w * h → sub (u k) (v k)) (hp : PF w h f u l s) : PF w h f v l s := ⟨hp.1, fun i hi => huv _ (atN_lt hw hh hl hi) _ (by have := pcN_lt (s := s) (i := i) hok (Nat.le_refl (manyN f l)); omega) (hp.2 i hi)⟩
theorem BT_fixc {r u : Nat → Nat} {l i x : Nat} (hw : w ≤ 8) (hh : h ≤ 8) (hl : l < h + w) (hi : i < cellsN w h l) (hok : okl 3 f l) (hru : ∀ k, k < w * h → sub (r k) (u k)) (hr : stl w h f lev r l) (hx : BT w h f lev u l i x) : sub (r (atN w h l i)) x := by
  have h1 := BT_fix (r := cutU (w * h) r) (u := u) (i := i) hok (cutU_sub hru) (stl_ul (fun i hi => (cutU_eq _ (atN_lt hw hh hl hi)).symm) hr).1 ((stl_ul (u' := cutU (w * h) r) (fun i hi => (cutU_eq _ (atN_lt hw hh hl hi)).symm) hr).2 i hi) hx
  rw [cutU_eq _ (atN_lt hw hh hl hi)] at h1
  exact h1
/-- on the way: marks u out of u0; lines that are not open stand -/
def SI (w h : Nat) (f : Nat → Int32) (lev : Nat) (u0 u : Nat → Nat) (O : Nat → Prop) : Prop := (∀ k, k < w * h → sub (u k) (u0 k)) ∧ (∀ k, k < w * h → u k < 16) ∧ (∀ r, (∀ k, k < w * h → sub (r k) (u0 k)) → good w h f lev r → ∀ k, k < w * h → sub (r k) (u k)) ∧ ∀ l, l < h + w → ¬ f l = nI 0 → ¬ O l → stl w h f lev u l
theorem SI_0 {u : Nat → Nat} {O : Nat → Prop} (h16 : ∀ k, k < w * h → u k < 16) (hO : ∀ l, l < h + w → ¬ f l = nI 0 → ¬ O l → stl w h f lev u l) : SI w h f lev u u O := ⟨fun _ _ => sub_rfl, h16, fun _ hr _ => hr, hO⟩
theorem SI_end {u0 u : Nat → Nat} {O : Nat → Prop} (hS : SI w h f lev u0 u O) (hO : ∀ l, l < h + w → ¬ f l = nI 0 → ¬ O l) : NTc w h f lev u0 u := ⟨hS.1, fun l hl hn => hS.2.2.2 l hl hn (hO l hl hn), hS.2.2.1⟩
theorem SI_no {u0 u : Nat → Nat} {O : Nat → Prop} {l : Nat} (hw : w ≤ 8) (hh : h ≤ 8) (hl : l < h + w) (hok : okl 3 f l) (hn : ¬ f l = nI 0) (hS : SI w h f lev u0 u O) (hno : ¬ ∃ s, PF w h f u l s) : NFc w h f lev u0 := fun r hr hg => by
  obtain ⟨s, hs⟩ := (hg l hl hn).1
  exact hno ⟨s, PF_monoc hw hh hl hok (hS.2.2.1 r hr hg) hs⟩
/-- line l narrowed to x -/
def upLn (w h l : Nat) (u x : Nat → Nat) (u' : Nat → Nat) : Prop := (∀ i, i < cellsN w h l → u' (atN w h l i) = x i) ∧ ∀ k, k < w * h → (∀ i, i < cellsN w h l → k ≠ atN w h l i) → u' k = u k
theorem SI_s {u0 u u' : Nat → Nat} {O O' : Nat → Prop} {l : Nat} {x : Nat → Nat} (hw : w ≤ 8) (hh : h ≤ 8) (hl : l < h + w) (hok : okl 3 f l) (hn : ¬ f l = nI 0) (hS : SI w h f lev u0 u O) (hne : ∃ s, PF w h f u l s) (hx : ∀ i, i < cellsN w h l → BT w h f lev u l i (x i)) (hu : upLn w h l u x u') (hO : ∀ l', l' < h + w → ¬ f l' = nI 0 → l' ≠ l → ¬ O' l' → ¬ O l' ∧ ∀ i, i < cellsN w h l' → u' (atN w h l' i) = u (atN w h l' i)) : SI w h f lev u0 u' O' := by
  obtain ⟨s1, s2, s3, s4⟩ := hS
  have hsub : ∀ i, i < cellsN w h l → sub (x i) (u (atN w h l i)) := fun i hi => BT_sub hok hi hne (hx i hi)
  have h16 : ∀ i, i < cellsN w h l → x i < 16 := fun i hi => BT_16 hok (s2 _ (atN_lt hw hh hl hi)) (hx i hi)
  have hcell : ∀ k, k < w * h → (∃ i, i < cellsN w h l ∧ k = atN w h l i ∧ u' k = x i) ∨ u' k = u k := fun k hk => by
    by_cases hx : ∃ i, i < cellsN w h l ∧ k = atN w h l i
    · obtain ⟨i, hi, rfl⟩ := hx
      exact Or.inl ⟨i, hi, rfl, hu.1 i hi⟩
    · exact Or.inr (hu.2 k hk (fun i hi z => hx ⟨i, hi, z⟩))
  refine ⟨fun k hk => ?_, fun k hk => ?_, fun r hr hg k hk => ?_, fun l' hl' hn' hno => ?_⟩
  · rcases hcell k hk with ⟨i, hi, rfl, e⟩ | e
    · rw [e]
      exact sub_trans (hsub i hi) (s1 _ hk)
    · rw [e]
      exact s1 k hk
  · rcases hcell k hk with ⟨i, hi, rfl, e⟩ | e
    · rw [e]
      exact h16 i hi
    · rw [e]
      exact s2 k hk
  · rcases hcell k hk with ⟨i, hi, rfl, e⟩ | e
    · rw [e]
      exact BT_fixc hw hh hl hi hok (s3 r hr hg) (hg l hl hn) (hx i hi)
    · rw [e]
      exact s3 r hr hg k hk
  · by_cases he : l' = l
    · subst he
      exact stl_idem hok hne hx hu.1
    · obtain ⟨h1, h2⟩ := hO l' hl' hn' he hno
      exact stl_ul (fun i hi => (h2 i hi).symm) (s4 l' hl' hn' h1)
/-- two lines have a cell in common only where they cross -/
theorem at_cross {l l' i i' : Nat} (hl : l < h + w) (hl' : l' < h + w) (hne : l' ≠ l) (hi : i < cellsN w h l) (hi' : i' < cellsN w h l') (he : atN w h l' i' = atN w h l i) : (l < h ∧ l' = h + i ∧ i' = l) ∨ (h ≤ l ∧ l' = i ∧ i' = l - h) := by
  unfold cellsN at hi hi'
  unfold atN at he
  by_cases h3 : l < h
  · rw [if_pos h3] at he hi
    have e := dm_ (l := l) hi
    by_cases h4 : l' < h
    · rw [if_pos h4] at he hi'
      have e' := dm_ (l := l') hi'
      rw [he] at e'
      omega
    · rw [if_neg h4, show w * i' + l' - h = w * i' + (l' - h) by omega] at he
      rw [if_neg h4] at hi'
      have e' := dm_ (l := i') (show l' - h < w by omega)
      rw [he] at e'
      omega
  · rw [if_neg h3, show w * i + l - h = w * i + (l - h) by omega] at he
    rw [if_neg h3] at hi
    have e := dm_ (l := i) (show l - h < w by omega)
    by_cases h4 : l' < h
    · rw [if_pos h4] at he hi'
      have e' := dm_ (l := l') hi'
      rw [he] at e'
      omega
    · rw [if_neg h4, show w * i' + l' - h = w * i' + (l' - h) by omega] at he
      rw [if_neg h4] at hi'
      have e' := dm_ (l := i') (show l' - h < w by omega)
      rw [he] at e'
      omega
end SM
