/-! the search: what holds between its steps (own work) -/
section SI_
variable {w h : Nat} {f : Nat → Int32} {u : Nat → Nat} {I : fx_MI}
/-- what is left to be found -/
def RemK (w h : Nat) (f : Nat → Int32) (u : Nat → Nat) (k : Nat) (g : Nat → Nat) (cl : Nat → Nat → Bool) (p : Nat → Nat) : Prop := sol w h f u p ∧ ∃ j, j ≤ k ∧ (∀ i, i < j → p i = g i) ∧ cl j (p j) = true
/-- dead bits tell the truth -/
def ddK (w h : Nat) (I : fx_MI) (dead : Nat → Bool) : Prop := ∀ k C r, k < w * h → rkOK w h I k C r → dead (bitK w h I k C r) = true → ∀ p, ¬ accK w h I p (w * h - k) k C r
/-- what can still follow from level j lies ahead -/
def ahK (w h : Nat) (I : fx_MI) (k : Nat) (g : Nat → Nat) (cl : Nat → Nat → Bool) (j : Nat) : Prop := ∀ p, accK w h I p (w * h - j) j (stC w h I g j) (stR w I g j) → ∃ i, j ≤ i ∧ i ≤ k ∧ (∀ t, j ≤ t → t < i → p t = g t) ∧ cl i (p i) = true
def SVK (w h : Nat) (f : Nat → Int32) (u : Nat → Nat) (I : fx_MI) (k : Nat) (g : Nat → Nat) (cl : Nat → Nat → Bool) (fb : Nat → Nat) (n : Nat) (dead : Nat → Bool) : Prop :=
  (k < w * h ∧ ∀ j, j < k → okK w h I j (stC w h I g j) (stR w I g j) (g j)) ∧
  (∀ j, j ≤ k → ∀ c, cl j c = true → okK w h I j (stC w h I g j) (stR w I g j) c ∧ (j < k → g j < c)) ∧
  (∀ j, j ≤ k → fb j ≤ n) ∧ (∀ j, j ≤ k → fb j = n → ahK w h I k g cl j) ∧ ddK w h I dead ∧
  (∀ j, j ≤ k → dead (bitK w h I j (stC w h I g j) (stR w I g j)) = false) ∧
  ENM (sol w h f u) (RemK w h f u k g cl) (fun c => c < w * h) n
def MSK (k : Nat) (cl : Nat → Nat → Bool) (fb : Nat → Nat) (n : Nat) (dead : Nat → Bool) (B most : Nat) : Nat := 5 * pop B (fun i => !dead i) + 5 * (64 - (k + 1)) + sm (fun j => pop 4 (cl j) + 1) (k + 1) + 5 * sm (fun j => if fb j = n then 0 else 1) (k + 1) + 320 * (most - n)
theorem st_rk {g : Nat → Nat} (hA : autA w h f u I) : ∀ {k : Nat}, k < w * h → (∀ j, j < k → okK w h I j (stC w h I g j) (stR w I g j) (g j)) → rkOK w h I k (stC w h I g k) (stR w I g k)
  | 0, _, _ => rk_0 hA
  | k + 1, hk, ho => rk_s hA hk (st_rk hA (by omega) (fun j hj => ho j (by omega))) (ho k (by omega))
theorem sol_from {p g : Nat → Nat} {j : Nat} (hu : ∀ k, k < w * h → u k < 16) (hA : autA w h f u I) (hj : j ≤ w * h) (hp : sol w h f u p) (he : ∀ i, i < j → p i = g i) : accK w h I p (w * h - j) j (stC w h I g j) (stR w I g j) := by
  have h1 := (sol_acc hu hA).mp hp
  obtain ⟨e1, e2⟩ := st_cong (w := w) (h := h) (I := I) he
  rw [← e1, ← e2]
  exact acc_self.mpr fun i h2 h3 => h1 i (by omega)
/-- a color taken -/
def g1K (k c : Nat) (g : Nat → Nat) : Nat → Nat := fun j => if j = k then c else g j
def cl1K (k c : Nat) (cl : Nat → Nat → Bool) : Nat → Nat → Bool := fun j d => if j = k then cl k d && !decide (d = c) else cl j d
theorem g1_lt {k c : Nat} {g : Nat → Nat} : ∀ j, j < k → g j = g1K k c g j := fun j hj => (if_neg (by omega)).symm
theorem g1_st {k c j : Nat} {g : Nat → Nat} (hj : j ≤ k) : stC w h I (g1K k c g) j = stC w h I g j ∧ stR w I (g1K k c g) j = stR w I g j := by
  obtain ⟨e1, e2⟩ := st_cong (w := w) (h := h) (I := I) (k := j) (g := g) (g' := g1K k c g) (fun i hi => g1_lt i (by omega))
  exact ⟨e1.symm, e2.symm⟩
theorem pop_c1 {k c : Nat} {cl : Nat → Nat → Bool} (hc : c < 4) (hcc : cl k c = true) : pop 4 (cl1K k c cl k) + 1 = pop 4 (cl k) := by
  have e : cl1K k c cl k = fun d => cl k d && !decide (d = c) := by
    funext d
    exact if_pos rfl
  rw [e]
  exact pop_clr hc hcc
theorem sm_last {F G : Nat → Nat} {k : Nat} (he : ∀ j, j < k → F j = G j) : sm F (k + 1) + G k = sm G (k + 1) + F k := by
  show sm F k + F k + G k = sm G k + G k + F k
  rw [sm_cong he]
  omega
/-- the color leads to a dead state -/
theorem SV_refuse {k c n : Nat} {g fb : Nat → Nat} {cl : Nat → Nat → Bool} {dead : Nat → Bool} {B most : Nat} (hu : ∀ k, k < w * h → u k < 16) (hA : autA w h f u I) (hV : SVK w h f u I k g cl fb n dead) (hk : k + 1 < w * h) (hcc : cl k c = true) (hd : dead (bitK w h I (k + 1) (stC w h I (g1K k c g) (k + 1)) (stR w I (g1K k c g) (k + 1))) = true) : SVK w h f u I k (g1K k c g) (cl1K k c cl) fb n dead ∧ MSK k (cl1K k c cl) fb n dead B most < MSK k cl fb n dead B most := by
  obtain ⟨⟨v1, v2⟩, v3, v4, v5, v6, v7, v8⟩ := hV
  have hok := (v3 k (Nat.le_refl k) c hcc).1
  have hg : g1K k c g k = c := if_pos rfl
  have hst := fun j (hj : j ≤ k) => g1_st (w := w) (h := h) (I := I) (c := c) (g := g) hj
  have hdead : ∀ p, ¬ accK w h I p (w * h - (k + 1)) (k + 1) (stC w h I (g1K k c g) (k + 1)) (stR w I (g1K k c g) (k + 1)) := by
    refine v6 (k + 1) _ _ hk (st_rk hA hk fun j hj => ?_) hd
    rw [(hst j (by omega)).1, (hst j (by omega)).2]
    by_cases hjk : j = k
    · rw [hjk, hg]
      exact hok
    · rw [← g1_lt j (by omega)]
      exact v2 j (by omega)
  refine ⟨⟨⟨v1, fun j hj => ?_⟩, fun j hj d hd => ?_, v4, fun j hj hfb p hp => ?_, v6, fun j hj => ?_, ENM_cong (fun p => ?_) v8⟩, ?_⟩
  · rw [(hst j (by omega)).1, (hst j (by omega)).2, ← g1_lt j hj]
    exact v2 j hj
  · rw [(hst j hj).1, (hst j hj).2]
    have hcl : cl j d = true := by
      unfold cl1K at hd
      split at hd
      · rename_i hjk
        rw [hjk]
        exact (Bool.and_eq_true _ _ ▸ hd).1
      · exact hd
    refine ⟨(v3 j hj d hcl).1, fun hjk => ?_⟩
    rw [← g1_lt j hjk]
    exact (v3 j hj d hcl).2 hjk
  · rw [(hst j hj).1, (hst j hj).2] at hp
    obtain ⟨i, h1, h2, h3, h4⟩ := v5 j hj hfb p hp
    refine ⟨i, h1, h2, fun t ht1 ht2 => by rw [← g1_lt t (by omega)]; exact h3 t ht1 ht2, ?_⟩
    unfold cl1K
    by_cases hik : i = k
    · rw [if_pos hik, ← hik, h4, Bool.true_and, Bool.not_eq_true', decide_eq_false_iff_not]
      intro hpc
      rw [← (hst j hj).1, ← (hst j hj).2, show w * h - j = (k + 1 - j) + (w * h - (k + 1)) by omega] at hp
      have := acc_along hp (fun t ht1 ht2 => by
        by_cases htk : t = k
        · rw [htk, hg, ← hpc, hik]
        · rw [← g1_lt t (by omega)]
          exact h3 t ht1 (by omega))
      rw [show j + (k + 1 - j) = k + 1 by omega] at this
      exact hdead p this
    · rw [if_neg hik]
      exact h4
  · rw [(hst j hj).1, (hst j hj).2]
    exact v7 j hj
  · constructor
    · rintro ⟨h1, j, h2, h3, h4⟩
      refine ⟨h1, j, h2, fun i hi => by rw [← g1_lt i (by omega)]; exact h3 i hi, ?_⟩
      unfold cl1K
      by_cases hjk : j = k
      · rw [if_pos hjk, ← hjk, h4, Bool.true_and, Bool.not_eq_true', decide_eq_false_iff_not]
        intro hpc
        refine hdead p (sol_from hu hA (by omega) h1 (fun i hi => ?_))
        by_cases hik : i = k
        · rw [hik, hg, ← hpc, hjk]
        · rw [← g1_lt i (by omega)]
          exact h3 i (by omega)
      · rw [if_neg hjk]
        exact h4
    · rintro ⟨h1, j, h2, h3, h4⟩
      refine ⟨h1, j, h2, fun i hi => by rw [g1_lt (g := g) (k := k) (c := c) i (by omega)]; exact h3 i hi, ?_⟩
      unfold cl1K at h4
      split at h4
      · rename_i hjk
        rw [hjk] at h4 ⊢
        exact (Bool.and_eq_true _ _ ▸ h4).1
      · exact h4
  · have e1 := sm_last (F := fun j => pop 4 (cl1K k c cl j) + 1) (G := fun j => pop 4 (cl j) + 1) (k := k) (fun j hj => by
      show pop 4 (cl1K k c cl j) + 1 = _
      have : cl1K k c cl j = cl j := by
        funext d
        exact if_neg (by omega)
      rw [this])
    have e2 := pop_c1 hok.2 hcc
    try dsimp only at e1
    unfold MSK
    omega
/-- the next cell is entered -/
def cl2K (w h : Nat) (I : fx_MI) (k c : Nat) (g : Nat → Nat) (cl : Nat → Nat → Bool) (ok : Nat → Bool) : Nat → Nat → Bool := fun j d => if j = k + 1 then ok d else cl1K k c cl j d
def fb2K (k n : Nat) (fb : Nat → Nat) : Nat → Nat := fun j => if j = k + 1 then n else fb j
theorem SV_enter {k c n : Nat} {g fb : Nat → Nat} {cl : Nat → Nat → Bool} {dead : Nat → Bool} {B most : Nat} {ok : Nat → Bool} (hu : ∀ k, k < w * h → u k < 16) (hA : autA w h f u I) (hV : SVK w h f u I k g cl fb n dead) (hk : k + 1 < w * h) (hk64 : k + 1 < 64) (hcc : cl k c = true) (hlow : ∀ d, cl k d = true → c ≤ d) (hd : dead (bitK w h I (k + 1) (stC w h I (g1K k c g) (k + 1)) (stR w I (g1K k c g) (k + 1))) = false) (hok2 : ∀ d, ok d = true ↔ okK w h I (k + 1) (stC w h I (g1K k c g) (k + 1)) (stR w I (g1K k c g) (k + 1)) d) : SVK w h f u I (k + 1) (g1K k c g) (cl2K w h I k c g cl ok) (fb2K k n fb) n dead ∧ MSK (k + 1) (cl2K w h I k c g cl ok) (fb2K k n fb) n dead B most < MSK k cl fb n dead B most := by
  obtain ⟨⟨v1, v2⟩, v3, v4, v5, v6, v7, v8⟩ := hV
  have hok := (v3 k (Nat.le_refl k) c hcc).1
  have hg : g1K k c g k = c := if_pos rfl
  have hst := fun j (hj : j ≤ k) => g1_st (w := w) (h := h) (I := I) (c := c) (g := g) hj
  have hcl2 : ∀ j, j ≤ k → cl2K w h I k c g cl ok j = cl1K k c cl j := fun j hj => by
    funext d
    exact if_neg (by omega)
  have hcl2n : ∀ d, cl2K w h I k c g cl ok (k + 1) d = ok d := fun d => if_pos rfl
  have hcl1 : ∀ j d, cl1K k c cl j d = true → cl j d = true := fun j d hd => by
    unfold cl1K at hd
    split at hd
    · rename_i hjk
      rw [hjk]
      exact (Bool.and_eq_true _ _ ▸ hd).1
    · exact hd
  have hok1 : ∀ j, j < k + 1 → okK w h I j (stC w h I (g1K k c g) j) (stR w I (g1K k c g) j) (g1K k c g j) := fun j hj => by
    rw [(hst j (by omega)).1, (hst j (by omega)).2]
    by_cases hjk : j = k
    · rw [hjk, hg]
      exact hok
    · rw [← g1_lt j (by omega)]
      exact v2 j (by omega)
  -- what was ahead of a level is ahead of it still
  have hwit : ∀ (p : Nat → Nat) (i : Nat), i ≤ k → cl i (p i) = true → (i = k → p k = c → ok (p (k + 1)) = true) → (∀ t, t < i → p t = g t → p t = g1K k c g t) → (∃ i', i ≤ i' ∧ i' ≤ k + 1 ∧ (∀ t, i ≤ t → t < i' → p t = g1K k c g t) ∧ cl2K w h I k c g cl ok i' (p i') = true) := fun p i hi hci hnext _ => by
    by_cases hsp : i = k ∧ p k = c
    · obtain ⟨rfl, hpc⟩ := hsp
      refine ⟨i + 1, by omega, Nat.le_refl _, fun t h1 h2 => ?_, ?_⟩
      · rw [show t = i by omega, hg, hpc]
      · rw [hcl2n]
        exact hnext rfl hpc
    · refine ⟨i, Nat.le_refl _, by omega, fun t h1 h2 => by omega, ?_⟩
      rw [hcl2 i hi]
      unfold cl1K
      by_cases hik : i = k
      · rw [if_pos hik, ← hik, hci, Bool.true_and, Bool.not_eq_true', decide_eq_false_iff_not]
        intro z
        exact hsp ⟨hik, by rw [← hik]; exact z⟩
      · rw [if_neg hik]
        exact hci
  refine ⟨⟨⟨hk, hok1⟩, fun j hj d hd => ?_, fun j hj => ?_, fun j hj hfb p hp => ?_, v6, fun j hj => ?_, ENM_cong (fun p => ?_) v8⟩, ?_⟩
  · by_cases hjk : j = k + 1
    · subst hjk
      rw [hcl2n] at hd
      exact ⟨(hok2 d).mp hd, fun z => absurd z (Nat.lt_irrefl _)⟩
    · rw [hcl2 j (by omega)] at hd
      have h1 := v3 j (by omega) d (hcl1 j d hd)
      rw [(hst j (by omega)).1, (hst j (by omega)).2]
      refine ⟨h1.1, fun _ => ?_⟩
      by_cases hjk2 : j = k
      · subst hjk2
        rw [hg]
        have h2 := hlow d (hcl1 j d hd)
        unfold cl1K at hd
        rw [if_pos rfl, Bool.and_eq_true, Bool.not_eq_true', decide_eq_false_iff_not] at hd
        have := hd.2
        omega
      · rw [← g1_lt j (by omega)]
        exact h1.2 (by omega)
  · unfold fb2K
    split
    · exact Nat.le_refl _
    · exact v4 j (by omega)
  · by_cases hjk : j = k + 1
    · subst hjk
      refine ⟨k + 1, Nat.le_refl _, Nat.le_refl _, fun t h1 h2 => by omega, ?_⟩
      rw [hcl2n]
      rw [show w * h - (k + 1) = (w * h - (k + 1) - 1) + 1 by omega] at hp
      exact (hok2 _).mpr hp.1
    · have hfb' : fb j = n := by
        unfold fb2K at hfb
        rw [if_neg hjk] at hfb
        exact hfb
      have hp' := hp
      rw [(hst j (by omega)).1, (hst j (by omega)).2] at hp
      obtain ⟨i, h1, h2, h3, h4⟩ := v5 j (by omega) hfb' p hp
      obtain ⟨i', q1, q2, q3, q4⟩ := hwit p i h2 h4 (fun hik hpc => by
        rw [show w * h - j = (k + 1 - j) + (w * h - (k + 1)) by omega] at hp'
        have := acc_along hp' (fun t ht1 ht2 => by
          by_cases htk : t = k
          · rw [htk, hg]
            exact hpc
          · rw [← g1_lt t (by omega)]
            exact h3 t ht1 (by omega))
        rw [show j + (k + 1 - j) = k + 1 by omega, show w * h - (k + 1) = (w * h - (k + 1) - 1) + 1 by omega] at this
        exact (hok2 _).mpr this.1) (fun t ht he => by rw [← g1_lt t (by omega)]; exact he)
      refine ⟨i', by omega, q2, fun t ht1 ht2 => ?_, q4⟩
      by_cases hti : t < i
      · rw [← g1_lt t (by omega)]
        exact h3 t ht1 hti
      · exact q3 t (by omega) ht2
  · by_cases hjk : j = k + 1
    · subst hjk
      exact hd
    · rw [(hst j (by omega)).1, (hst j (by omega)).2]
      exact v7 j (by omega)
  · constructor
    · rintro ⟨h1, j, h2, h3, h4⟩
      obtain ⟨i', q1, q2, q3, q4⟩ := hwit p j h2 h4 (fun hik hpc => by
        have := sol_from (j := k + 1) hu hA (by omega) h1 (g := g1K k c g) (fun i hi => by
          by_cases hik2 : i = k
          · rw [hik2, hg]
            exact hpc
          · rw [← g1_lt i (by omega)]
            exact h3 i (by omega))
        rw [show w * h - (k + 1) = (w * h - (k + 1) - 1) + 1 by omega] at this
        exact (hok2 _).mpr this.1) (fun t ht he => by rw [← g1_lt t (by omega)]; exact he)
      refine ⟨h1, i', q2, fun t ht => ?_, q4⟩
      by_cases htj : t < j
      · rw [← g1_lt t (by omega)]
        exact h3 t htj
      · exact q3 t (by omega) ht
    · rintro ⟨h1, j, h2, h3, h4⟩
      by_cases hjk : j = k + 1
      · subst hjk
        refine ⟨h1, k, Nat.le_refl _, fun i hi => by rw [g1_lt (g := g) (k := k) (c := c) i hi]; exact h3 i (by omega), ?_⟩
        rw [h3 k (by omega), hg]
        exact hcc
      · rw [hcl2 j (by omega)] at h4
        exact ⟨h1, j, by omega, fun i hi => by rw [g1_lt (g := g) (k := k) (c := c) i (by omega)]; exact h3 i hi, hcl1 j _ h4⟩
  · have e1 := sm_last (F := fun j => pop 4 (cl1K k c cl j) + 1) (G := fun j => pop 4 (cl j) + 1) (k := k) (fun j hj => by
      show pop 4 (cl1K k c cl j) + 1 = _
      have : cl1K k c cl j = cl j := by
        funext d
        exact if_neg (by omega)
      rw [this])
    have e2 := pop_c1 hok.2 hcc
    have e3 : sm (fun j => pop 4 (cl2K w h I k c g cl ok j) + 1) (k + 1) = sm (fun j => pop 4 (cl1K k c cl j) + 1) (k + 1) := sm_cong fun j hj => by rw [hcl2 j (by omega)]
    have e4 : sm (fun j => if fb2K k n fb j = n then 0 else 1) (k + 1) = sm (fun j => if fb j = n then 0 else 1) (k + 1) := sm_cong fun j hj => by
      have : fb2K k n fb j = fb j := if_neg (by omega)
      rw [this]
    have e5 : sm (fun j => pop 4 (cl2K w h I k c g cl ok j) + 1) (k + 1 + 1) = sm (fun j => pop 4 (cl2K w h I k c g cl ok j) + 1) (k + 1) + (pop 4 (cl2K w h I k c g cl ok (k + 1)) + 1) := rfl
    have e6 : sm (fun j => if fb2K k n fb j = n then 0 else 1) (k + 1 + 1) = sm (fun j => if fb2K k n fb j = n then 0 else 1) (k + 1) + (if fb2K k n fb (k + 1) = n then 0 else 1) := rfl
    have e7 : fb2K k n fb (k + 1) = n := if_pos rfl
    rw [if_pos e7] at e6
    have e8 := pop_le 4 (cl2K w h I k c g cl ok (k + 1))
    try dsimp only at e1
    unfold MSK
    omega
end SI_
