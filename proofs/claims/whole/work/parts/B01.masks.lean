/-! constructors: masks of what is assigned (own work) -/
section MK_
variable {cA : Nat → ClassId} {al : Nat → Nat} {a k K j : Nat} {S : List Nat}
theorem mkS_0 : kW cA al mk0 a 1 = kW cA al (mkS a [] 1) a 1 := kW_cong fun i hi => ⟨rfl, fun j => by
  have : i = 0 := by omega
  subst this
  show (mR mk0 (a + 0) j).map al = (mR (mkS a [] 1) (a + 0) j).map al
  unfold mR mk0 mkS
  rw [if_pos (show a + 0 = a from rfl)]
  rfl⟩
theorem mkS_up {K' : Nat} (h : k ≤ K) (h' : k ≤ K') : ∀ q, a ≤ q → q < a + k → ∀ j, mkS a S K' q j = mkS a S K q j := fun q h1 h2 j => by
  unfold mkS
  split
  · rfl
  · rw [decide_eq_true (by omega), decide_eq_true (by omega)]
theorem mkS_in {len : Nat} (hk : 0 < k) : ∀ q, a + k ≤ q → q < a + k + len → ∀ j, mkS a S (k + len) q j = true := fun q h1 h2 j => by
  unfold mkS
  rw [if_neg (by omega), decide_eq_true (by omega)]
theorem mkS_no (hk : 0 < k) : ∀ j, mR (mkS a S k) (a + k) j = none := fun j => by
  unfold mR mkS
  rw [if_neg (show ¬ a + k = a by omega), decide_eq_false (by omega)]
  rfl
theorem mkS_ho : ∀ j', j' ≠ j → mkS a (j :: S) K a j' = mkS a S K a j' := fun j' h => by
  unfold mkS
  rw [if_pos rfl, if_pos rfl, List.contains_cons, beq_false_of_ne h, Bool.false_or]
theorem mkS_hk : ∀ q, a < q → q < a + k → ∀ j', mkS a (j :: S) K q j' = mkS a S K q j' := fun q h1 h2 j' => by
  unfold mkS
  rw [if_neg (by omega), if_neg (by omega)]
theorem mkS_hx {x : Nat} (h : R0C false a j = some x) : mR (mkS a (j :: S) K) a j = some x := by
  unfold mR mkS
  rw [if_pos rfl, List.contains_cons, BEq.rfl, Bool.true_or, if_pos rfl]
  exact h
def noB (q : Nat) : Bool := (List.range 20).all fun j => (R0C false q j).isNone
theorem no_of {mk : Nat → Nat → Bool} {q : Nat} (h : noB q = true) : ∀ j, mR mk q j = none := fun j => by
  unfold mR
  split
  · cases e : R0C false q j with
    | none => rfl
    | some x =>
      have := List.all_eq_true.mp h j (List.mem_range.mpr (R0C_lt e).2)
      rw [e] at this
      cases this
  · rfl
def cloB (mk : Nat → Nat → Bool) (a k : Nat) : Bool := (List.range k).all fun i => (List.range 20).all fun j => match mR mk (a + i) j with | some x => decide (x < a + k) | none => true
theorem clo_b {mk : Nat → Nat → Bool} (h : cloB mk a k = true) : clo mk a k := clo_of h
theorem clo_0 : clo (mkS a [] 1) a 1 := fun i hi j x hx => by
  have : i = 0 := by omega
  subst this
  unfold mR mkS at hx
  rw [if_pos (show a + 0 = a from rfl)] at hx
  cases hx
def fulB (a : Nat) (S : List Nat) : Bool := (List.range 20).all fun j => S.contains j || (R0C false a j).isNone
theorem mkS_full (h : fulB a S = true) : kW cA al (mkS a S k) a k = kW cA al mk1 a k := kW_cong fun i hi => ⟨rfl, fun j => by
  congr 1
  unfold mR mk1
  rw [if_pos rfl]
  by_cases h0 : i = 0
  · subst h0
    show (if mkS a S k a j = true then _ else _) = R0C false a j
    unfold mkS
    rw [if_pos rfl]
    by_cases hc : S.contains j = true
    · rw [if_pos hc]
    · rw [if_neg hc]
      cases e : R0C false a j with
      | none => rfl
      | some x =>
        have := List.all_eq_true.mp h j (List.mem_range.mpr (R0C_lt e).2)
        rw [e, Bool.eq_false_iff.mpr hc] at this
        cases this
  · unfold mkS
    rw [if_neg (by omega), decide_eq_true (by omega), if_pos rfl]⟩
theorem exA_out {len h : Nat} {al0 : Nat → Nat} (hk : 0 < k) (hl : k < len) (ho : ∀ q, q ≤ a ∨ a + len ≤ q → al q = al0 q) : ∀ q, q ≤ a ∨ a + len ≤ q → exA al (a + k) h q = al0 q := fun q hq => by
  unfold exA
  rw [if_neg (by omega)]
  exact ho q hq
theorem al_out {len n : Nat} {al0 al' : Nat → Nat} (hk : 0 < k) (hl : k + n ≤ len) (hal : ∀ q, q ≤ a + k ∨ a + k + n ≤ q → al' q = al q) (ho : ∀ q, q ≤ a ∨ a + len ≤ q → al q = al0 q) : ∀ q, q ≤ a ∨ a + len ≤ q → al' q = al0 q := fun q hq => (hal q (by omega)).trans (ho q hq)
end MK_
