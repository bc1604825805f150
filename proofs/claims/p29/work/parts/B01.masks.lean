/-! constructors: masks of what is assigned (own work) -/
section MK_
variable {cA : Nat → ClassId} {al : Nat → Nat} {a k K j : Nat} {S : List Nat}
theorem mkS_0 : kW cA al mk0 a 1 = kW cA al (mkS a [] 1) a 1 := kW_cong fun i hi => ⟨rfl, fun j => by
  have : i = 0 := by omega
  subst this
  show (mR mk0 (a + 0) j).map al = (mR (mkS a [] 1) (a + 0) j).map al
  unfold mR mk0 mkS
  rw [if_pos (show a + 0 = a from rfl)]
  rfl⟩
theorem mkS_up {K' : Nat} (h : k ≤ K) (h' : k ≤ K') : ∀ q, a ≤ q → q < a + k → ∀ j, mkS a S K' q j = mkS a S K q j := fun q h1 h2 j => by
  unfold mkS
  split
  · rfl
  · rw [decide_eq_true (by omega), decide_eq_true (by omega)]
theorem mkS_in {len : Nat} (hk : 0 < k) : ∀ q, a + k ≤ q → q < a + k + len → ∀ j, mkS a S (k + len) q j = true := fun q h1 h2 j => by
  unfold mkS
  rw [if_neg (by omega), decide_eq_true (by omega)]
theorem mkS_no (hk : 0 < k) : ∀ j, mR (mkS a S k) (a + k) j = none := fun j => by
  unfold mR mkS
  rw [if_neg (show ¬ a + k = a by omega), decide_eq_false (by omega)]
  rfl
theorem mkS_ho : ∀ j', j' ≠ j → mkS a (j :: S) K a j' = mkS a S K a j' := fun j' h => by
  unfold mkS
  rw [if_pos rfl, if_pos rfl, List.contains_cons, beq_false_of_ne h, Bool.false_or]
theorem mkS_hk : ∀ q, a < q → q < a + k → ∀ j', mkS a (j :: S) K q j' = mkS a S K q j' := fun q h1 h2 j' => by
  unfold mkS
  rw [if_neg (by omega), if_neg (by omega)]
theorem mkS_hx {x : Nat} (h : R0C false a j = some x) : mR (mkS a (j :: S) K) a j = some x := by
  unfold mR mkS
  rw [if_pos rfl, List.contains_cons, BEq.rfl, Bool.true_or, if_pos rfl]
  exact h
def noB (q : Nat) : Bool := (List.range 20).all fun j => (R0C false q j).isNone
theorem no_of {mk : Nat → Nat → Bool} {q : Nat} (h : noB q = true) : ∀ j, mR mk q j = none := fun j => by
  unfold mR
  split
  · cases e : R0C false q j with
    | none => rfl
    | some x =>
      have := List.all_eq_true.mp h j (List.mem_range.mpr (R0C_lt e).2)
      rw [e] at this
      cases this
  · rfl
def cloB (mk : Nat → Nat → Bool) (a k : Nat) : Bool := (List.range k).all fun i => (List.range 20).all fun j => match mR mk (a + i) j with | some x => decide (x < a + k) | none => true
theorem clo_b {mk : Nat → Nat → Bool} (h : cloB mk a k = true) : clo mk a k := clo_of h
theorem clo_0 : clo (mkS a [] 1) a 1 := fun i hi j x hx => by
  have : i = 0 := by omega
  subst this
  unfold mR mkS at hx
  rw [if_pos (show a + 0 = a from rfl)] at hx
  cases hx
def fulB (a : Nat) (S : List Nat) : Bool := (List.range 20).all fun j => S.contains j || (R0C false a j).isNone
theorem mkS_full (h : fulB a S = true) : kW cA al (mkS a S k) a k = kW cA al mk1 a k := kW_cong fun i hi => ⟨rfl, fun j => by
  congr 1
  show (if mkS a S k (a + i) j = true then R0C false (a + i) j else none) = R0C false (a + i) j
  by_cases h0 : i = 0
  · subst h0
    have e : mkS a S k (a + 0) j = S.contains j := by
      unfold mkS
      rw [if_pos (show a + 0 = a from rfl)]
    rw [e]
    by_cases hc : S.contains j = true
    · rw [if_pos hc]
    · rw [if_neg hc]
      cases e : R0C false (a + 0) j with
      | none => rfl
      | some x =>
        have := List.all_eq_true.mp h j (List.mem_range.mpr (R0C_lt e).2)
        rw [show R0C false a j = some x from e, Bool.eq_false_iff.mpr hc] at this
        cases this
  · have hm : mkS a S k (a + i) j = true := by
      unfold mkS
      rw [if_neg (by omega), decide_eq_true (by omega)]
    rw [hm, if_pos rfl]⟩
theorem exA_out {len h : Nat} {al0 : Nat → Nat} (hk : 0 < k) (hl : k < len) (ho : ∀ q, q ≤ a ∨ a + len ≤ q → al q = al0 q) : ∀ q, q ≤ a ∨ a + len ≤ q → exA al (a + k) h q = al0 q := fun q hq => by
  unfold exA
  rw [if_neg (by omega)]
  exact ho q hq
theorem al_out {len n : Nat} {al0 al' : Nat → Nat} (hk : 0 < k) (hl : k + n ≤ len) (hal : ∀ q, q ≤ a + k ∨ a + k + n ≤ q → al' q = al q) (ho : ∀ q, q ≤ a ∨ a + len ≤ q → al q = al0 q) : ∀ q, q ≤ a ∨ a + len ≤ q → al' q = al0 q := fun q hq => (hal q (by omega)).trans (ho q hq)
end MK_
/-! what lies around a layer, clues, a situation, for the constructors -/
def lgB (a : Nat) : Bool := noB (a + 1) && fulB a [0]
theorem lay_b {a : Nat} (h : isK 4 a) : noB (a + 1) = true ∧ fulB a [0] = true := by
  have key : ∀ a, a < 140 → fx_nth plL a = some (.inl 4) → lgB a = true := by decide +kernel
  have hq := isK_lt h
  unfold isK pl_C at h
  rw [if_neg hq.2] at h
  have := key a hq.1 h
  unfold lgB at this
  rw [Bool.and_eq_true] at this
  exact this
theorem lay_no {a : Nat} (h : isK 4 a) : noB (a + 1) = true := (lay_b h).1
theorem lay_ful {a : Nat} (h : isK 4 a) : fulB a [0] = true := (lay_b h).2
def cgB (a : Nat) : Bool := (noB (a + 1) && noB (a + 2)) && (noB (a + 3) && noB (a + 4)) && ((cloB (mkS a [1] 2) a 2 && cloB (mkS a [2, 1] 3) a 3) && (cloB (mkS a [3, 2, 1] 4) a 4 && fulB a [4, 3, 2, 1]))
theorem clu_no {a : Nat} (h : isK 3 a) : noB (a + 1) = true ∧ noB (a + 2) = true ∧ noB (a + 3) = true ∧ noB (a + 4) = true ∧ clo (mkS a [1] 2) a 2 ∧ clo (mkS a [2, 1] 3) a 3 ∧ clo (mkS a [3, 2, 1] 4) a 4 ∧ fulB a [4, 3, 2, 1] = true := by
  have key : ∀ a, a < 140 → fx_nth plL a = some (.inl 3) → cgB a = true := by decide +kernel
  have hq := isK_lt h
  unfold isK pl_C at h
  rw [if_neg hq.2] at h
  have := key a hq.1 h
  unfold cgB at this
  simp only [Bool.and_eq_true] at this
  obtain ⟨⟨⟨h1, h2⟩, h3, h4⟩, ⟨h5, h6⟩, h7, h8⟩ := this
  exact ⟨h1, h2, h3, h4, clo_b h5, clo_b h6, clo_b h7, h8⟩
def sgB (a : Nat) : Bool := cloB (mkS a [0] 6) a 6 && cloB (mkS a [1, 0] 8) a 8 && fulB a [2, 1, 0]
theorem sit_no {a : Nat} (h : isK 2 a) : clo (mkS a [0] 6) a 6 ∧ clo (mkS a [1, 0] 8) a 8 ∧ fulB a [2, 1, 0] = true := by
  have key : ∀ a, a < 140 → fx_nth plL a = some (.inl 2) → sgB a = true := by decide +kernel
  have hq := isK_lt h
  unfold isK pl_C at h
  rw [if_neg hq.2] at h
  have := key a hq.1 h
  unfold sgB at this
  simp only [Bool.and_eq_true] at this
  exact ⟨clo_b this.1.1, clo_b this.1.2, this.2⟩
/-! the ring's masks -/
def mkT (S : List Nat) (K i : Nat) : Nat → Nat → Bool := fun q j => if q = 12 then S.contains j else if q = 13 then decide (j < i) else decide (q < 12 + K)
section MT_
variable {cA : Nat → ClassId} {al : Nat → Nat} {k K i j : Nat} {S : List Nat}
theorem mkT_up0 : ∀ q, 12 ≤ q → q < 12 + 1 → ∀ j, mkT [] 2 0 q j = mkS 12 [] 1 q j := fun q h1 h2 j => by
  have : q = 12 := by omega
  subst this
  rfl
theorem mkT_ring0 {S : List Nat} : ∀ j, mR (mkT S 2 0) (12 + 1) j = none := fun j => by
  unfold mR mkT
  rw [if_neg (show ¬ 12 + 1 = 12 by decide), if_pos (show 12 + 1 = 13 from rfl), decide_eq_false (Nat.not_lt_zero j)]
  rfl
theorem mkT_hx : mR (mkT [0] 2 0) 12 0 = some 13 := rfl
theorem mkT_ho : ∀ j', j' ≠ 0 → mkT [0] 2 0 12 j' = mkT [] 2 0 12 j' := fun j' h => by
  unfold mkT
  rw [if_pos rfl, if_pos rfl, List.contains_cons, beq_false_of_ne h, Bool.false_or]
theorem mkT_hk : ∀ q, 12 < q → q < 12 + 2 → ∀ j', mkT [0] 2 0 q j' = mkT [] 2 0 q j' := fun q h1 h2 j' => by
  unfold mkT
  rw [if_neg (show ¬ q = 12 by omega), if_neg (show ¬ q = 12 by omega)]
theorem mkT_get : mR (mkT [0] K i) (12 + 0) 0 = some 13 := rfl
theorem mkT_no (hk : 2 ≤ K) : ∀ j, mR (mkT [0] K i) (12 + K) j = none := fun j => by
  unfold mR mkT
  rw [if_neg (show ¬ 12 + K = 12 by omega), if_neg (show ¬ 12 + K = 13 by omega), decide_eq_false (by omega)]
  rfl
theorem mkT_up {K' : Nat} (h : k ≤ K) (h' : k ≤ K') : ∀ q, 12 ≤ q → q < 12 + k → ∀ j, mkT S K' i q j = mkT S K i q j := fun q h1 h2 j => by
  unfold mkT
  split
  · rfl
  · split
    · rfl
    · rw [decide_eq_true (by omega), decide_eq_true (by omega)]
theorem mkT_in {len : Nat} (hk : 2 ≤ k) : ∀ q, 12 + k ≤ q → q < 12 + k + len → ∀ j, mkT S (k + len) i q j = true := fun q h1 h2 j => by
  unfold mkT
  rw [if_neg (by omega), if_neg (by omega), decide_eq_true (by omega)]
theorem mkT_ro : ∀ j, j ≠ i → mkT S K (i + 1) (12 + 1) j = mkT S K i (12 + 1) j := fun j h => by
  unfold mkT
  rw [if_neg (show ¬ 12 + 1 = 12 by decide), if_pos (show 12 + 1 = 13 from rfl), if_neg (show ¬ 12 + 1 = 12 by decide), if_pos (show 12 + 1 = 13 from rfl)]
  by_cases h1 : j < i
  · rw [decide_eq_true h1, decide_eq_true (by omega)]
  · rw [decide_eq_false h1, decide_eq_false (by omega)]
theorem mkT_rk : ∀ q, 12 ≤ q → q < 12 + k → q ≠ 12 + 1 → ∀ j, mkT S K (i + 1) q j = mkT S K i q j := fun q h1 h2 h3 j => by
  unfold mkT
  rw [if_neg (show ¬ q = 13 by omega), if_neg (show ¬ q = 13 by omega)]
theorem ring_ref : ∀ q, q < 94 → 14 ≤ q → ∀ j, j < 20 → (match R0C false q j with | some x => decide (x < 14 + 10 * ((q - 14) / 10 + 1)) | none => true) = true := by decide +kernel
theorem ring_13 : ∀ j, j < 20 → (match R0C false 13 j with | some x => decide (x = 14 + 10 * j) | none => true) = true := by decide +kernel
theorem clT (hi : i ≤ 8) (hK : K = 2 + 10 * i) : clo (mkT [0] K i) 12 K := by
  intro u hu j x hx
  unfold mR at hx
  split at hx
  · rename_i hm
    have hj := (R0C_lt hx).2
    by_cases h0 : u = 0
    · subst h0
      have h2 : R0C false 12 j = some x := hx
      have : j = 0 := by
        unfold mkT at hm
        rw [if_pos (show 12 + 0 = 12 from rfl)] at hm
        simpa using hm
      subst this
      have h3 : R0C false 12 0 = some 13 := rfl
      rw [h3] at h2
      have := Option.some.inj h2
      omega
    · by_cases h1 : u = 1
      · subst h1
        have hji : j < i := by
          unfold mkT at hm
          rw [if_neg (show ¬ 12 + 1 = 12 by decide), if_pos (show 12 + 1 = 13 from rfl)] at hm
          exact of_decide_eq_true hm
        have h2 := ring_13 j hj
        rw [show R0C false 13 j = some x from hx] at h2
        have := of_decide_eq_true h2
        omega
      · have h2 := ring_ref (12 + u) (by omega) (by omega) j hj
        rw [hx] at h2
        have := of_decide_eq_true h2
        omega
  · cases hx
theorem mkT_full : kW cA al (mkT [0] 82 8) 12 82 = kW cA al mk1 12 82 := kW_cong fun u hu => ⟨rfl, fun j => by
  congr 1
  show (if mkT [0] 82 8 (12 + u) j = true then R0C false (12 + u) j else none) = R0C false (12 + u) j
  cases e : R0C false (12 + u) j with
  | none => split <;> rfl
  | some x =>
    have hj := (R0C_lt e).2
    have hm : mkT [0] 82 8 (12 + u) j = true := by
      unfold mkT
      by_cases h0 : u = 0
      · subst h0
        rw [if_pos (show 12 + 0 = 12 from rfl)]
        have key : ∀ j, j < 20 → (R0C false 12 j).isSome = true → [0].contains j = true := by decide +kernel
        exact key j hj (by rw [show R0C false 12 j = some x from e]; rfl)
      · rw [if_neg (by omega)]
        by_cases h1 : u = 1
        · subst h1
          rw [if_pos (show 12 + 1 = 13 from rfl)]
          have key : ∀ j, j < 20 → (R0C false 13 j).isSome = true → decide (j < 8) = true := by decide +kernel
          exact key j hj (by rw [show R0C false 13 j = some x from e]; rfl)
        · rw [if_neg (by omega), decide_eq_true (by omega)]
    rw [hm, if_pos rfl]⟩
end MT_
