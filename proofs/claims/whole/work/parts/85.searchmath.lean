/-! the search, as mathematics: states, what can follow (own work) -/
def idxK (w k : Nat) : Nat := 8 * (k / w) + k % w
theorem idx_s {w h k : Nat} (hk : k < w * h) : idxK w (k + 1) = if k % w + 1 < w then idxK w k + 1 else 8 * (k / w + 1) := by
  obtain ⟨hm, hd⟩ := k_dm hk
  have e : k = w * (k / w) + k % w := (Nat.div_add_mod k w).symm
  unfold idxK
  by_cases h1 : k % w + 1 < w
  · rw [if_pos h1]
    have e2 : k + 1 = w * (k / w) + (k % w + 1) := by omega
    have e3 := dm_ (l := k / w) h1
    rw [← e2] at e3
    rw [e3.1, e3.2]
    omega
  · rw [if_neg h1]
    have e2 : k + 1 = w * (k / w + 1) + 0 := by rw [Nat.mul_succ]; omega
    have e3 := dm_ (w := w) (l := k / w + 1) (i := 0) (by omega)
    rw [← e2] at e3
    rw [e3.1, e3.2]
    omega
theorem k_next {w h k : Nat} (hk : k < w * h) : (k % w + 1 < w → (k + 1) % w = k % w + 1 ∧ (k + 1) / w = k / w) ∧ (¬ k % w + 1 < w → (k + 1) % w = 0 ∧ (k + 1) / w = k / w + 1) := by
  obtain ⟨hm, hd⟩ := k_dm hk
  have e : k = w * (k / w) + k % w := (Nat.div_add_mod k w).symm
  refine ⟨fun h1 => ?_, fun h1 => ?_⟩
  · have e2 : k + 1 = w * (k / w) + (k % w + 1) := by omega
    have e3 := dm_ (l := k / w) h1
    rw [← e2] at e3
    omega
  · have e2 : k + 1 = w * (k / w + 1) + 0 := by rw [Nat.mul_succ]; omega
    have e3 := dm_ (w := w) (l := k / w + 1) (i := 0) (by omega)
    rw [← e2] at e3
    omega
section SE
variable {w h : Nat} {I : fx_MI}
/-- the next ranks of the columns, of the row -/
def nxC (w h : Nat) (I : fx_MI) (k : Nat) (C : Nat → Nat) (c : Nat) : Nat → Nat := fun x => if x = k % w then nxT I (h + k % w) (k / w) (C (k % w)) c else C x
def nxR (w : Nat) (I : fx_MI) (k r c : Nat) : Nat := if k % w + 1 < w then nxT I (k / w) (k % w) r c else 0
def stC (w h : Nat) (I : fx_MI) (g : Nat → Nat) : Nat → Nat → Nat
  | 0 => fun _ => 0
  | k + 1 => nxC w h I k (stC w h I g k) (g k)
def stR (w : Nat) (I : fx_MI) (g : Nat → Nat) : Nat → Nat
  | 0 => 0
  | k + 1 => nxR w I k (stR w I g k) (g k)
/-- color c can stand at cell k -/
def okK (w h : Nat) (I : fx_MI) (k : Nat) (C : Nat → Nat) (r c : Nat) : Prop := (okT I (h + k % w) (k / w) (C (k % w)) c = true ∧ okT I (k / w) (k % w) r c = true) ∧ c < 4
/-- the picture p can follow from cell k on, for d cells -/
def accK (w h : Nat) (I : fx_MI) (p : Nat → Nat) : Nat → Nat → (Nat → Nat) → Nat → Prop
  | 0, _, _, _ => True
  | d + 1, k, C, r => okK w h I k C r (p k) ∧ accK w h I p d (k + 1) (nxC w h I k C (p k)) (nxR w I k r (p k))
theorem st_cong {g g' : Nat → Nat} : ∀ {k : Nat}, (∀ j, j < k → g j = g' j) → stC w h I g k = stC w h I g' k ∧ stR w I g k = stR w I g' k
  | 0, _ => ⟨rfl, rfl⟩
  | k + 1, hg => by
    obtain ⟨e1, e2⟩ := st_cong (k := k) (fun j hj => hg j (by omega))
    unfold stC stR
    rw [e1, e2, hg k (by omega)]
    exact ⟨rfl, rfl⟩
/-- from the state of p itself -/
theorem acc_self {p : Nat → Nat} : ∀ {d k : Nat}, accK w h I p d k (stC w h I p k) (stR w I p k) ↔ ∀ j, k ≤ j → j < k + d → okK w h I j (stC w h I p j) (stR w I p j) (p j)
  | 0, k => ⟨fun _ j h1 h2 => by omega, fun _ => trivial⟩
  | d + 1, k => by
    have ih := acc_self (p := p) (d := d) (k := k + 1)
    show okK w h I k _ _ (p k) ∧ accK w h I p d (k + 1) (stC w h I p (k + 1)) (stR w I p (k + 1)) ↔ _
    rw [ih]
    constructor
    · rintro ⟨h1, h2⟩ j h3 h4
      by_cases h5 : j = k
      · rw [h5]
        exact h1
      · exact h2 j (by omega) (by omega)
    · intro h1
      exact ⟨h1 k (Nat.le_refl _) (by omega), fun j h2 h3 => h1 j (by omega) (by omega)⟩
/-- columns beyond the puzzle don't count -/
theorem acc_C {p : Nat → Nat} (hw : 0 < w) : ∀ {d k r : Nat} {C C' : Nat → Nat}, (∀ x, x < w → C x = C' x) → accK w h I p d k C r → accK w h I p d k C' r
  | 0, _, _, _, _, _, _ => trivial
  | d + 1, k, r, C, C', he, ha => by
    have hm : k % w < w := Nat.mod_lt _ hw
    obtain ⟨h1, h2⟩ := ha
    refine ⟨?_, acc_C hw (fun x hx => ?_) h2⟩
    · unfold okK at h1 ⊢
      rw [← he _ hm]
      exact h1
    · unfold nxC
      rw [he _ hm, he x hx]
/-- a part of a picture's way -/
theorem acc_take {p : Nat → Nat} : ∀ {a d k r : Nat} {C : Nat → Nat}, accK w h I p (a + d) k C r → accK w h I p a k C r
  | 0, _, _, _, _, _ => trivial
  | a + 1, d, k, r, C, ha => by
    rw [show a + 1 + d = (a + d) + 1 by omega] at ha
    exact ⟨ha.1, acc_take ha.2⟩
/-- pictures that agree from a cell on -/
theorem acc_p {p q : Nat → Nat} : ∀ {d k r : Nat} {C : Nat → Nat}, (∀ j, k ≤ j → j < k + d → p j = q j) → accK w h I p d k C r → accK w h I q d k C r
  | 0, _, _, _, _, _ => trivial
  | d + 1, k, r, C, he, ha => by
    obtain ⟨h1, h2⟩ := ha
    rw [he k (Nat.le_refl _) (by omega)] at h1 h2
    exact ⟨h1, acc_p (fun j g1 g2 => he j (by omega) (by omega)) h2⟩
/-- from a state on the way of g, along g for some cells, p goes on from g's later state -/
theorem acc_along {p g : Nat → Nat} : ∀ {a d k : Nat}, accK w h I p (a + d) k (stC w h I g k) (stR w I g k) → (∀ j, k ≤ j → j < k + a → p j = g j) → accK w h I p d (k + a) (stC w h I g (k + a)) (stR w I g (k + a))
  | 0, d, k, ha, _ => by
    rw [Nat.zero_add] at ha
    exact ha
  | a + 1, d, k, ha, he => by
    rw [show a + 1 + d = (a + d) + 1 by omega] at ha
    obtain ⟨h1, h2⟩ := ha
    rw [he k (Nat.le_refl _) (by omega)] at h2
    have h3 := acc_along (a := a) (d := d) (k := k + 1) h2 (fun j g1 g2 => he j (by omega) (by omega))
    rw [show k + (a + 1) = k + 1 + a by omega]
    exact h3
/-- the rank of a line behind i cells of p -/
def rkL (w h : Nat) (I : fx_MI) (l : Nat) (p : Nat → Nat) : Nat → Nat
  | 0 => 0
  | i + 1 => nxT I l i (rkL w h I l p i) (p (atN w h l i))
theorem at_row {w h k : Nat} (hk : k < w * h) : atN w h (k / w) (k % w) = k := by
  obtain ⟨hm, hd⟩ := k_dm hk
  unfold atN
  rw [if_pos hd]
  exact Nat.div_add_mod k w
theorem at_col {w h k : Nat} : atN w h (h + k % w) (k / w) = k := by
  unfold atN
  rw [if_neg (by omega), show w * (k / w) + (h + k % w) - h = w * (k / w) + k % w by omega]
  exact Nat.div_add_mod k w
theorem stR_rk {p : Nat → Nat} : ∀ {k : Nat}, k < w * h → stR w I p k = rkL w h I (k / w) p (k % w)
  | 0, hk => by
    rw [Nat.zero_mod]
    rfl
  | k + 1, hk => by
    have ih := stR_rk (p := p) (k := k) (by omega)
    obtain ⟨n1, n2⟩ := k_next (w := w) (h := h) (k := k) (by omega)
    show nxR w I k (stR w I p k) (p k) = _
    unfold nxR
    by_cases h1 : k % w + 1 < w
    · rw [if_pos h1, (n1 h1).1, (n1 h1).2, ih]
      show _ = nxT I (k / w) (k % w) (rkL w h I (k / w) p (k % w)) (p (atN w h (k / w) (k % w)))
      rw [at_row (h := h) (by omega)]
    · rw [if_neg h1, (n2 h1).1]
      rfl
theorem stC_rk {p : Nat → Nat} (hw0 : 0 < w) : ∀ {k : Nat}, k ≤ w * h → ∀ x, x < w → stC w h I p k x = rkL w h I (h + x) p (k / w + if x < k % w then 1 else 0)
  | 0, _, x, hx => by
    rw [Nat.zero_mod, Nat.zero_div, if_neg (by omega)]
    rfl
  | k + 1, hk, x, hx => by
    have ih := stC_rk (p := p) hw0 (k := k) (by omega)
    obtain ⟨hm, hd⟩ := k_dm (w := w) (h := h) (k := k) (by omega)
    obtain ⟨n1, n2⟩ := k_next (w := w) (h := h) (k := k) (by omega)
    show nxC w h I k (stC w h I p k) (p k) x = _
    unfold nxC
    have hx0 := ih (k % w) hm
    rw [if_neg (Nat.lt_irrefl _), Nat.add_zero] at hx0
    by_cases hxk : x = k % w
    · subst hxk
      rw [if_pos rfl, hx0]
      have e : nxT I (h + k % w) (k / w) (rkL w h I (h + k % w) p (k / w)) (p k) = rkL w h I (h + k % w) p (k / w + 1) := by
        show _ = nxT I (h + k % w) (k / w) (rkL w h I (h + k % w) p (k / w)) (p (atN w h (h + k % w) (k / w)))
        rw [at_col]
      rw [e]
      by_cases h1 : k % w + 1 < w
      · rw [(n1 h1).1, (n1 h1).2, if_pos (by omega)]
      · rw [(n2 h1).1, (n2 h1).2, if_neg (by omega)]
    · rw [if_neg hxk, ih x hx]
      by_cases h1 : k % w + 1 < w
      · rw [(n1 h1).1, (n1 h1).2]
        by_cases h2 : x < k % w
        · rw [if_pos h2, if_pos (by omega)]
        · rw [if_neg h2, if_neg (by omega)]
      · rw [(n2 h1).1, (n2 h1).2, if_pos (by omega), if_neg (by omega)]
/-- all lines have their tables -/
def autA (w h : Nat) (f : Nat → Int32) (u : Nat → Nat) (I : fx_MI) : Prop := (1 ≤ w ∧ w ≤ 8) ∧ (1 ≤ h ∧ h ≤ 8) ∧ ∀ l, l < h + w → autT w h f u l I ∧ 0 < nmT I l 0
theorem aut_line {f : Nat → Int32} {u p : Nat → Nat} {l : Nat} (hA : autT w h f u l I) (h0 : 0 < nmT I l 0) (hp : ∀ i, i < cellsN w h l → p (atN w h l i) < 4) : ((∀ i, i < cellsN w h l → cnB w h u l (p (atN w h l i)) i) ∧ fitL w h f l p) ↔ ∀ i, i < cellsN w h l → okT I l i (rkL w h I l p i) (p (atN w h l i)) = true := by
  rw [hA.2.2.2 p hp]
  constructor
  · rintro ⟨-, k, hk0, hk⟩
    have e : ∀ i, i ≤ cellsN w h l → k i = rkL w h I l p i := by
      intro i
      induction i with
      | zero => exact fun _ => hk0
      | succ i ih =>
        intro hi
        rw [(hk i (by omega)).2, ih (by omega)]
        rfl
    intro i hi
    rw [← e i (by omega)]
    exact (hk i hi).1
  · intro hk
    exact ⟨h0, rkL w h I l p, rfl, fun i hi => ⟨hk i hi, rfl⟩⟩
/-- solutions are the pictures that the automata take -/
theorem sol_acc {f : Nat → Int32} {u p : Nat → Nat} (hu : ∀ k, k < w * h → u k < 16) (hA : autA w h f u I) : sol w h f u p ↔ ∀ k, k < w * h → okK w h I k (stC w h I p k) (stR w I p k) (p k) := by
  obtain ⟨hw, hh, hA⟩ := hA
  have hrow : ∀ y x, y < h → x < w → w * y + x < w * h := fun y x hy hx => cell_in hx hy
  constructor
  · intro hs k hk
    obtain ⟨hm, hd⟩ := k_dm hk
    have hp4 : ∀ k, k < w * h → p k < 4 := fun k hk => bit_lt (hu k hk) (hs.1 k hk)
    have hl : ∀ l, l < h + w → ∀ i, i < cellsN w h l → okT I l i (rkL w h I l p i) (p (atN w h l i)) = true := fun l hl => by
      have hat : ∀ i, i < cellsN w h l → atN w h l i < w * h := fun i hi => atN_lt hw.2 hh.2 hl hi
      exact (aut_line (hA l hl).1 (hA l hl).2 (fun i hi => hp4 _ (hat i hi))).mp ⟨fun i hi => ⟨hi, hs.1 _ (hat i hi)⟩, fun hn => hs.2 l hl hn⟩
    refine ⟨⟨?_, ?_⟩, hp4 k hk⟩
    · have := hl (h + k % w) (by omega) (k / w) (by unfold cellsN; rw [if_neg (by omega)]; exact hd)
      rw [at_col] at this
      rw [stC_rk (by omega) (by omega) _ hm, if_neg (Nat.lt_irrefl _), Nat.add_zero]
      exact this
    · have := hl (k / w) (by omega) (k % w) (by unfold cellsN; rw [if_pos hd]; exact hm)
      rw [at_row hk] at this
      rw [stR_rk hk]
      exact this
  · intro hk
    have hl : ∀ l, l < h + w → (∀ i, i < cellsN w h l → cnB w h u l (p (atN w h l i)) i) ∧ fitL w h f l p := fun l hl => by
      refine (aut_line (hA l hl).1 (hA l hl).2 (fun i hi => (hk _ (atN_lt hw.2 hh.2 hl hi)).2)).mpr fun i hi => ?_
      have hat := atN_lt hw.2 hh.2 hl hi
      obtain ⟨⟨o1, o2⟩, -⟩ := hk _ hat
      by_cases h1 : l < h
      · have hi' : i < w := by unfold cellsN at hi; rw [if_pos h1] at hi; exact hi
        have e : atN w h l i = w * l + i := if_pos h1
        have e2 := dm_ (w := w) (l := l) hi'
        rw [stR_rk hat, e, e2.1, e2.2] at o2
        rw [e]
        exact o2
      · have hi' : i < h := by unfold cellsN at hi; rw [if_neg h1] at hi; exact hi
        have e : atN w h l i = w * i + (l - h) := by
          unfold atN
          rw [if_neg h1]
          omega
        have e2 := dm_ (w := w) (l := i) (show l - h < w by omega)
        rw [stC_rk (by omega) (by omega) _ (by rw [e, e2.2]; omega), if_neg (Nat.lt_irrefl _), Nat.add_zero, e, e2.1, e2.2, show h + (l - h) = l by omega] at o1
        rw [e]
        exact o1
    refine ⟨fun k hkk => ?_, fun l hll hn => (hl l hll).2 hn⟩
    obtain ⟨hm, hd⟩ := k_dm hkk
    have := ((hl (k / w) (by omega)).1 (k % w) (by unfold cellsN; rw [if_pos hd]; exact hm)).2
    rw [at_row hkk] at this
    exact this
/-- ranks are below their numbers -/
def rkOK (w h : Nat) (I : fx_MI) (k : Nat) (C : Nat → Nat) (r : Nat) : Prop := r < nmT I (k / w) (k % w) ∧ ∀ x, x < w → C x < nmT I (h + x) (k / w + if x < k % w then 1 else 0)
theorem rk_0 {f : Nat → Int32} {u : Nat → Nat} (hA : autA w h f u I) : rkOK w h I 0 (fun _ => 0) 0 := by
  obtain ⟨hw, hh, hA⟩ := hA
  refine ⟨?_, fun x hx => ?_⟩
  · rw [Nat.zero_div, Nat.zero_mod]
    exact (hA 0 (by omega)).2
  · rw [Nat.zero_div, Nat.zero_mod, if_neg (by omega)]
    exact (hA (h + x) (by omega)).2
theorem rk_s {f : Nat → Int32} {u : Nat → Nat} {k r c : Nat} {C : Nat → Nat} (hA : autA w h f u I) (hk : k + 1 < w * h) (hr : rkOK w h I k C r) (hok : okK w h I k C r c) : rkOK w h I (k + 1) (nxC w h I k C c) (nxR w I k r c) := by
  obtain ⟨hw, hh, hA⟩ := hA
  obtain ⟨hm, hd⟩ := k_dm (w := w) (h := h) (k := k) (by omega)
  obtain ⟨n1, n2⟩ := k_next (w := w) (h := h) (k := k) (by omega)
  obtain ⟨r1, r2⟩ := hr
  obtain ⟨⟨o1, o2⟩, o3⟩ := hok
  have hc := r2 _ hm
  rw [if_neg (Nat.lt_irrefl _), Nat.add_zero] at hc
  have hcol := ((hA (h + k % w) (by omega)).1.2.2.1 (k / w) (by unfold cellsN; rw [if_neg (by omega)]; exact hd) _ hc).2 c o3 o1
  have hro := ((hA (k / w) (by omega)).1.2.2.1 (k % w) (by unfold cellsN; rw [if_pos hd]; exact hm) _ r1).2 c o3 o2
  refine ⟨?_, fun x hx => ?_⟩
  · unfold nxR
    by_cases h1 : k % w + 1 < w
    · rw [if_pos h1, (n1 h1).1, (n1 h1).2]
      exact hro.2
    · rw [if_neg h1, (n2 h1).1]
      have hd2 := (k_dm hk).2
      exact (hA _ (by omega)).2
  · unfold nxC
    by_cases hxk : x = k % w
    · subst hxk
      rw [if_pos rfl]
      by_cases h1 : k % w + 1 < w
      · rw [(n1 h1).1, (n1 h1).2, if_pos (by omega)]
        exact hcol.2
      · rw [(n2 h1).1, (n2 h1).2, if_neg (by omega)]
        exact hcol.2
    · rw [if_neg hxk]
      have := r2 x hx
      by_cases h1 : k % w + 1 < w
      · rw [(n1 h1).1, (n1 h1).2]
        by_cases h2 : x < k % w
        · rw [if_pos h2] at this
          rw [if_pos (by omega)]
          exact this
        · rw [if_neg h2] at this
          rw [if_neg (by omega)]
          exact this
      · rw [if_pos (by omega)] at this
        rw [(n2 h1).1, (n2 h1).2, if_neg (by omega)]
        exact this
end SE
