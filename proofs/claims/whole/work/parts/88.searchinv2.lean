/-! the search: a solution found, a cell left (own work) -/
section SJ_
variable {w h : Nat} {f : Nat → Int32} {u : Nat → Nat} {I : fx_MI}
theorem SV_found {k c n : Nat} {g fb : Nat → Nat} {cl : Nat → Nat → Bool} {dead : Nat → Bool} {B most : Nat} (hu : ∀ k, k < w * h → u k < 16) (hA : autA w h f u I) (hV : SVK w h f u I k g cl fb n dead) (hk : k + 1 = w * h) (hk64 : k < 64) (hn : n < most) (hcc : cl k c = true) (hlow : ∀ d, cl k d = true → c ≤ d) : SVK w h f u I k (g1K k c g) (cl1K k c cl) fb (n + 1) dead ∧ MSK k (cl1K k c cl) fb (n + 1) dead B most < MSK k cl fb n dead B most ∧ (n = 0 → lexF (w * h) (sol w h f u) (g1K k c g)) ∧ sol w h f u (g1K k c g) := by
  obtain ⟨⟨v1, v2⟩, v3, v4, v5, v6, v7, v8⟩ := hV
  have hok := (v3 k (Nat.le_refl k) c hcc).1
  have hg : g1K k c g k = c := if_pos rfl
  have hst := fun j (hj : j ≤ k) => g1_st (w := w) (h := h) (I := I) (c := c) (g := g) hj
  have hcl1 : ∀ j d, cl1K k c cl j d = true → cl j d = true := fun j d hd => by
    unfold cl1K at hd
    split at hd
    · rename_i hjk
      rw [hjk]
      exact (Bool.and_eq_true _ _ ▸ hd).1
    · exact hd
  have hok1 : ∀ j, j < w * h → okK w h I j (stC w h I (g1K k c g) j) (stR w I (g1K k c g) j) (g1K k c g j) := fun j hj => by
    rw [(hst j (by omega)).1, (hst j (by omega)).2]
    by_cases hjk : j = k
    · rw [hjk, hg]
      exact hok
    · rw [← g1_lt j (by omega)]
      exact v2 j (by omega)
  have hP : sol w h f u (g1K k c g) := (sol_acc hu hA).mpr hok1
  have hdep := depS_sol (f := f) (u := u) hA.1.2 hA.2.1.2
  have hall : ∀ p : Nat → Nat, (∀ i, i < k → p i = g i) → p k = c → ∀ i, i < w * h → g1K k c g i = p i := fun p h1 h2 i hi => by
    by_cases hik : i = k
    · rw [hik, hg, h2]
    · rw [← g1_lt i (by omega), h1 i (by omega)]
  have hsplit : ∀ p, RemK w h f u k g cl p ↔ (∀ i, i < w * h → g1K k c g i = p i) ∨ RemK w h f u k (g1K k c g) (cl1K k c cl) p := fun p => by
    constructor
    · rintro ⟨h1, j, h2, h3, h4⟩
      by_cases hsp : j = k ∧ p k = c
      · exact Or.inl (hall p (fun i hi => h3 i (by omega)) hsp.2)
      · refine Or.inr ⟨h1, j, h2, fun i hi => by rw [← g1_lt i (by omega)]; exact h3 i hi, ?_⟩
        unfold cl1K
        by_cases hjk : j = k
        · rw [if_pos hjk, ← hjk, h4, Bool.true_and, Bool.not_eq_true', decide_eq_false_iff_not]
          intro z
          exact hsp ⟨hjk, by rw [← hjk]; exact z⟩
        · rw [if_neg hjk]
          exact h4
    · rintro (h1 | ⟨h1, j, h2, h3, h4⟩)
      · refine ⟨hdep _ _ h1 hP, k, Nat.le_refl _, fun i hi => ?_, ?_⟩
        · rw [← h1 i (by omega), ← g1_lt i hi]
        · rw [← h1 k (by omega), hg]
          exact hcc
      · exact ⟨h1, j, h2, fun i hi => by rw [g1_lt (g := g) (k := k) (c := c) i (by omega)]; exact h3 i hi, hcl1 j _ h4⟩
  refine ⟨⟨⟨v1, fun j hj => hok1 j (by omega)⟩, fun j hj d hd => ?_, fun j hj => by have := v4 j hj; omega, fun j hj hfb => ?_, v6, fun j hj => ?_, ?_⟩, ?_, fun hn0 => ⟨hP, fun q hq => ?_⟩, hP⟩
  · rw [(hst j hj).1, (hst j hj).2]
    have hcl := hcl1 j d hd
    refine ⟨(v3 j hj d hcl).1, fun hjk => ?_⟩
    rw [← g1_lt j hjk]
    exact (v3 j hj d hcl).2 hjk
  · have := v4 j hj
    omega
  · rw [(hst j hj).1, (hst j hj).2]
    exact v7 j hj
  · have h1 := ENM_cong hsplit v8
    have hens : ENS (fun p => ∀ i, i < w * h → g1K k c g i = p i) (fun c => c < w * h) 1 (fun _ => g1K k c g) := ⟨fun _ _ _ _ => rfl, fun i j h1 h2 => by omega, fun p hp => ⟨0, by omega, hp⟩⟩
    obtain ⟨e, q1, q2, q3, q4⟩ := ENM_add (A := fun p => ∀ i, i < w * h → g1K k c g i = p i) (B := RemK w h f u k (g1K k c g) (cl1K k c cl)) (S := fun c => c < w * h) (r := 1) (fun p q he hp i hi => (hp i hi).trans (he i hi)) (fun p hp => hdep _ _ hp hP) (fun p hp hR => by
      obtain ⟨-, j, r2, r3, r4⟩ := hR
      rw [← hp j (by omega)] at r4
      by_cases hjk : j = k
      · subst hjk
        unfold cl1K at r4
        rw [if_pos rfl, hg] at r4
        simp at r4
      · rw [← g1_lt j (by omega)] at r4
        have := (v3 j r2 _ (hcl1 j _ r4)).2 (by omega)
        omega) hens h1 (Nat.le_refl 1)
    exact ⟨e, q1, q2, q3, q4 rfl⟩
  · have e1 := sm_last (F := fun j => pop 4 (cl1K k c cl j) + 1) (G := fun j => pop 4 (cl j) + 1) (k := k) (fun j hj => by
      show pop 4 (cl1K k c cl j) + 1 = _
      have : cl1K k c cl j = cl j := by
        funext d
        exact if_neg (by omega)
      rw [this])
    have e2 := pop_c1 hok.2 hcc
    have e3 : sm (fun j => if fb j = n + 1 then 0 else 1) (k + 1) ≤ (k + 1) * 1 := sm_le fun j hj => by split <;> omega
    try dsimp only at e1
    unfold MSK
    omega
  · obtain ⟨e, q1, q2, q3, q4⟩ := v8
    rcases q4 q hq with ⟨i, hi, -⟩ | ⟨-, j, h2, h3, h4⟩
    · omega
    · by_cases hjk : j = k
      · subst hjk
        have h5 := hlow _ h4
        by_cases hqc : q j = c
        · exact Or.inl (hall q h3 hqc)
        · refine Or.inr ⟨j, v1, fun i hi => ?_, ?_⟩
          · rw [← g1_lt i hi]
            exact (h3 i hi).symm
          · rw [hg]
            omega
      · refine Or.inr ⟨j, by omega, fun i hi => ?_, ?_⟩
        · rw [← g1_lt i (by omega)]
          exact (h3 i hi).symm
        · rw [← g1_lt j (by omega)]
          exact (v3 j h2 _ h4).2 (by omega)
/-- a cell left: its state is dead if nothing was found behind it -/
def ddL (b : Nat) (on : Bool) (dead : Nat → Bool) : Nat → Bool := fun i => dead i || (on && decide (i = b))
theorem SV_leave {k n : Nat} {g fb : Nat → Nat} {cl : Nat → Nat → Bool} {dead : Nat → Bool} {most : Nat} (hA : autA w h f u I) (hV : SVK w h f u I k g cl fb n dead) (hk64 : k < 64) (hno : ∀ d, cl k d = false) : (0 < k → SVK w h f u I (k - 1) g cl fb n (ddL (bitK w h I k (stC w h I g k) (stR w I g k)) (decide (fb k = n)) dead) ∧ MSK (k - 1) cl fb n (ddL (bitK w h I k (stC w h I g k) (stR w I g k)) (decide (fb k = n)) dead) (OFK w h I (w * h)) most < MSK k cl fb n dead (OFK w h I (w * h)) most) ∧ (k = 0 → ∀ p, ¬ RemK w h f u k g cl p) := by
  obtain ⟨⟨v1, v2⟩, v3, v4, v5, v6, v7, v8⟩ := hV
  have hrk := st_rk hA v1 v2
  refine ⟨fun hk0 => ⟨⟨⟨by omega, fun j hj => v2 j (by omega)⟩, fun j hj d hd => ⟨(v3 j (by omega) d hd).1, fun hjk => (v3 j (by omega) d hd).2 (by omega)⟩, fun j hj => v4 j (by omega), fun j hj hfb p hp => ?_, fun k' C r hk' hr hd p hp => ?_, fun j hj => ?_, ENM_cong (fun p => ?_) v8⟩, ?_⟩, fun hk0 p => ?_⟩
  · obtain ⟨i, h1, h2, h3, h4⟩ := v5 j (by omega) hfb p hp
    by_cases hik : i = k
    · rw [hik, hno] at h4
      cases h4
    · exact ⟨i, h1, by omega, h3, h4⟩
  · unfold ddL at hd
    rw [Bool.or_eq_true, Bool.and_eq_true, decide_eq_true_eq, decide_eq_true_eq] at hd
    rcases hd with hd | ⟨hd1, hd2⟩
    · exact v6 k' C r hk' hr hd p hp
    · obtain ⟨e1, e2, e3⟩ := bit_inj hk' v1 hr hrk hd2
      subst e1
      subst e2
      obtain ⟨i, h1, h2, h3, h4⟩ := v5 k' (Nat.le_refl _) hd1 p (acc_C (by have := hA.1; omega) e3 hp)
      rw [show i = k' by omega, hno] at h4
      cases h4
  · unfold ddL
    rw [v7 j (by omega), Bool.false_or, Bool.and_eq_false_iff]
    right
    refine decide_eq_false fun z => ?_
    obtain ⟨e1, -⟩ := bit_inj (by omega) v1 (st_rk hA (show j < w * h by omega) (fun i hi => v2 i (by omega))) hrk z
    omega
  · constructor
    · rintro ⟨h1, j, h2, h3, h4⟩
      by_cases hjk : j = k
      · rw [hjk, hno] at h4
        cases h4
      · exact ⟨h1, j, by omega, h3, h4⟩
    · rintro ⟨h1, j, h2, h3, h4⟩
      exact ⟨h1, j, by omega, h3, h4⟩
  · have hb : bitK w h I k (stC w h I g k) (stR w I g k) < OFK w h I (w * h) := by
      have h1 := bit_rg v1 hrk
      have h2 := OF_m (w := w) (h := h) (I := I) (k := k + 1) (d := w * h - (k + 1))
      rw [show k + 1 + (w * h - (k + 1)) = w * h by omega] at h2
      omega
    have hun := v7 k (Nat.le_refl k)
    generalize bitK w h I k (stC w h I g k) (stR w I g k) = b at *
    obtain ⟨k', rfl⟩ : ∃ k', k = k' + 1 := ⟨k - 1, by omega⟩
    have hp0 : pop 4 (cl (k' + 1)) = 0 := by
      have e : pop 4 (cl (k' + 1)) = pop 4 (fun _ => false) := pop_c fun i _ => hno i
      rw [e]
      rfl
    have e1 : sm (fun j => pop 4 (cl j) + 1) (k' + 1 + 1) = sm (fun j => pop 4 (cl j) + 1) (k' + 1) + (pop 4 (cl (k' + 1)) + 1) := rfl
    have e2 : sm (fun j => if fb j = n then 0 else 1) (k' + 1 + 1) = sm (fun j => if fb j = n then 0 else 1) (k' + 1) + (if fb (k' + 1) = n then 0 else 1) := rfl
    unfold MSK
    rw [Nat.add_sub_cancel, e1, e2, hp0]
    by_cases hfb : fb (k' + 1) = n
    · rw [if_pos hfb]
      have e3 : pop (OFK w h I (w * h)) (fun i => !ddL b (decide (fb (k' + 1) = n)) dead i) + 1 = pop (OFK w h I (w * h)) (fun i => !dead i) := by
        rw [pop_c (g := fun i => (!dead i) && !decide (i = b)) (fun i hi => by
          unfold ddL
          rw [decide_eq_true hfb, Bool.true_and, Bool.not_or])]
        exact pop_clr hb (by rw [hun]; rfl)
      omega
    · rw [if_neg hfb]
      have e3 : (fun i => !ddL b (decide (fb (k' + 1) = n)) dead i) = fun i => !dead i := by
        funext i
        unfold ddL
        rw [decide_eq_false hfb, Bool.false_and, Bool.or_false]
      rw [e3]
      omega
  · rintro ⟨h1, j, h2, h3, h4⟩
    rw [show j = k by omega, hno] at h4
    cases h4
/-- the beginning -/
theorem SV_0 {cl0 : Nat → Bool} {fb : Nat → Nat} {g : Nat → Nat} (hu : ∀ k, k < w * h → u k < 16) (hA : autA w h f u I) (hN : 0 < w * h) (hok : ∀ d, cl0 d = true ↔ okK w h I 0 (fun _ => 0) 0 d) (hfb : fb 0 = 0) : SVK w h f u I 0 g (fun _ => cl0) fb 0 (fun _ => false) := by
  refine ⟨⟨hN, fun j hj => absurd hj (Nat.not_lt_zero j)⟩, fun j hj d hd => ?_, fun j hj => by rw [show j = 0 by omega, hfb]; exact Nat.le_refl _, fun j hj _ p hp => ?_, fun _ _ _ _ _ hd => absurd hd Bool.false_ne_true, fun _ _ => rfl, ?_⟩
  · have e : j = 0 := by omega
    subst e
    exact ⟨(hok d).mp hd, fun z => absurd z (Nat.lt_irrefl _)⟩
  · have e : j = 0 := by omega
    subst e
    refine ⟨0, Nat.le_refl _, Nat.le_refl _, fun t h1 h2 => by omega, ?_⟩
    rw [show w * h - 0 = (w * h - 1) + 1 by omega] at hp
    exact (hok _).mpr hp.1
  · refine ⟨fun _ => g, fun k hk => by omega, fun i j h1 h2 => by omega, fun k hk => by omega, fun p hp => Or.inr ⟨hp, 0, Nat.le_refl _, fun i hi => absurd hi (Nat.not_lt_zero i), ?_⟩⟩
    have h1 := sol_from (j := 0) (g := g) hu hA (Nat.zero_le _) hp (fun i hi => absurd hi (Nat.not_lt_zero i))
    rw [show w * h - 0 = (w * h - 1) + 1 by omega] at h1
    exact (hok _).mpr h1.1
theorem SV_cap {k n most : Nat} {g fb : Nat → Nat} {cl : Nat → Nat → Bool} {dead : Nat → Bool} (hV : SVK w h f u I k g cl fb n dead) (hn : n ≤ most) (hend : n = most ∨ ∀ p, ¬ RemK w h f u k g cl p) : CAP (sol w h f u) (fun c => c < w * h) most n := by
  obtain ⟨-, -, -, -, -, -, v8⟩ := hV
  rcases hend with h1 | h1
  · obtain ⟨e, q1, q2, q3, q4⟩ := v8
    exact ⟨hn, e, q1, q2, fun z => by omega⟩
  · exact ENM_end hn h1 v8
end SJ_
