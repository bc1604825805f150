/-! constants and small rules for runs (own work) -/
theorem fx_all4 {x : Option Value} {I0 : fx_MI} {J0 : fx_MJ} {R0 : fx_MR} {Q : Option Value → fx_MI → fx_MJ → fx_MR → Prop} : (∀ r I' J' R', (r = x ∧ I' = I0 ∧ J' = J0 ∧ R' = R0) → Q r I' J' R') ↔ Q x I0 J0 R0 := ⟨fun h => h _ _ _ _ ⟨rfl, rfl, rfl, rfl⟩, fun h r I' J' R' ⟨h1, h2, h3, h4⟩ => by rw [h1, h2, h3, h4]; exact h⟩
theorem fx_narI (x : Int32) : narrow .int (.int x) = .int x := rfl
theorem fx_narZ0 : narrow .boolean (.int 0) = .int 0 := rfl
theorem fx_narZ1 : narrow .boolean (.int 1) = .int 1 := rfl
/-- a truth value as an int -/
def zb (b : Bool) : Int32 := if b then 1 else 0
theorem fx_narZb (b : Bool) : narrow .boolean (.int (zb b)) = .int (zb b) := by cases b <;> rfl
theorem zb_e (b : Bool) : zb b = 0 ↔ b = false := by cases b <;> decide
theorem zb_ne (b : Bool) : ¬ zb b = 0 ↔ b = true := by cases b <;> decide
/-! loops: one head at the place hd, of whose locals the first b are known -/
abbrev fx_I : Type := List (Option Value) → List Value → fx_MI → fx_MJ → fx_MR → Prop
section FL
variable {nL : Nat} {M : fx_M} {ev : fx_Env} {ret : Option FieldType} {P : fx_P} {pr : fx_Pr} {pc : Nat} {L : List (Option Value)} {st : List Value} {I : fx_MI} {J : fx_MJ} {R : fx_MR}
/-- a loop with a measure, within a run that may also stop elsewhere (K0) -/
theorem fx_whileK {stops : List (Nat × Nat)} {K0 : fx_K} (hK0 : ∀ pc L st I J R, K0 pc L st I J R → fx_R nL M ev ret P pr pc L st I J R) (hd n2 : Nat) (Inv : Nat → fx_I)
    (h1 : ∀ (a : Nat) (X : Nat → fx_K), fx_isX nL M ev ret P pr stops (fun pc L st I J R => (pc = hd ∧ ∃ a', a' < a ∧ Inv a' L st I J R) ∨ K0 pc L st I J R) X → ∀ L st I J R, Inv a L st I J R → fx_go nL M ev ret P pr (X n2) hd L st I J R) :
    ∀ a L st I J R, Inv a L st I J R → fx_R nL M ev ret P pr hd L st I J R := by
  have h := fx_loopN (nL := nL) (M := M) (ev := ev) (ret := ret) (P := P) (pr := pr) (stops := stops) (K0 := K0) (Inv := fun a pc L st I J R => pc = hd ∧ Inv a L st I J R) n2 hK0 (by
    rintro a X hX pc L st I J R ⟨rfl, hi⟩
    refine h1 a X ?_ L st I J R hi
    have e : (fun pc' L st I J R => (pc' = pc ∧ ∃ a', a' < a ∧ Inv a' L st I J R) ∨ K0 pc' L st I J R) = (fun pc' L st I J R => (∃ b, b < a ∧ pc' = pc ∧ Inv b L st I J R) ∨ K0 pc' L st I J R) := by
      funext pc' L st I J R
      apply propext
      constructor
      · rintro (⟨h1, a', h2, h3⟩ | h)
        · exact Or.inl ⟨a', h2, h1, h3⟩
        · exact Or.inr h
      · rintro (⟨a', h2, h1, h3⟩ | h)
        · exact Or.inl ⟨h1, a', h2, h3⟩
        · exact Or.inr h
    rw [e]
    exact hX)
  exact fun a L st I J R hi => h a hd L st I J R ⟨rfl, hi⟩
/-- a run from a head -/
theorem fx_run1 {stops : List (Nat × Nat)} {K : fx_K} (hK : ∀ pc L st I J R, K pc L st I J R → fx_R nL M ev ret P pr pc L st I J R) (n : Nat) (h : ∀ X : Nat → fx_K, fx_isX nL M ev ret P pr stops K X → fx_go nL M ev ret P pr (X n) pc L st I J R) : fx_R nL M ev ret P pr pc L st I J R := fx_X1_R hK (h _ fx_X_is)
/-- a place, with what holds there -/
def fx_at (q : Nat) (A : fx_I) : fx_K := fun pc L st I J R => pc = q ∧ A L st I J R
theorem fx_at_i {q : Nat} {A : fx_I} (h : A L st I J R) : fx_at q A q L st I J R := ⟨rfl, h⟩
/-- the next turn of a loop over k to N -/
def fx_kf (hd N k : Nat) (Inv : Nat → fx_I) : fx_K := fun pc L st I J R => pc = hd ∧ ∃ a', a' < N - k ∧ ∃ k', a' = N - k' ∧ k' ≤ N ∧ Inv k' L st I J R
theorem fx_kf_i {hd N k : Nat} {Inv : Nat → fx_I} (h : k < N) (hi : Inv (k + 1) L st I J R) : fx_kf hd N k Inv hd L st I J R := ⟨rfl, N - (k + 1), by omega, k + 1, rfl, by omega, hi⟩
theorem fx_forK {stops : List (Nat × Nat)} {K0 : fx_K} (hK0 : ∀ pc L st I J R, K0 pc L st I J R → fx_R nL M ev ret P pr pc L st I J R) (hd n2 N : Nat) (Inv : Nat → fx_I)
    (h1 : ∀ (k : Nat) (X : Nat → fx_K), k ≤ N → fx_isX nL M ev ret P pr stops (fun pc L st I J R => fx_kf hd N k Inv pc L st I J R ∨ K0 pc L st I J R) X → ∀ L st I J R, Inv k L st I J R → fx_go nL M ev ret P pr (X n2) hd L st I J R) : ∀ L st I J R, Inv 0 L st I J R → fx_R nL M ev ret P pr hd L st I J R := by
  have h := fx_whileK (nL := nL) (M := M) (ev := ev) (ret := ret) (P := P) (pr := pr) (stops := stops) (K0 := K0) hK0 hd n2 (fun a L st I J R => ∃ k, a = N - k ∧ k ≤ N ∧ Inv k L st I J R) (by
    rintro a X hX L st I J R ⟨k, rfl, hk, hi⟩
    exact h1 k _ hk hX L st I J R hi)
  exact fun L st I J R hi => h N L st I J R ⟨0, rfl, Nat.zero_le _, hi⟩
theorem fx_for (hd b n1 n2 N : Nat) (Inv : Nat → fx_I)
    (h0 : ∀ X : Nat → fx_K, fx_isX nL M ev ret P pr [(hd, b)] (fun pc L st I J R => pc = hd ∧ Inv 0 L st I J R) X → X n1 pc L st I J R)
    (h1 : ∀ (k : Nat) (X : Nat → fx_K), k ≤ N → fx_isX nL M ev ret P pr [(hd, b)] (fx_kf hd N k Inv) X → ∀ L st I J R, Inv k L st I J R → fx_go nL M ev ret P pr (X n2) hd L st I J R) : fx_R nL M ev ret P pr pc L st I J R := by
  have h := fx_whileK (nL := nL) (M := M) (ev := ev) (ret := ret) (P := P) (pr := pr) (stops := [(hd, b)]) (K0 := fun _ _ _ _ _ _ => False) (fun _ _ _ _ _ _ h => h.elim) hd n2 (fun a L st I J R => ∃ k, a = N - k ∧ k ≤ N ∧ Inv k L st I J R) (by
    rintro a X hX L st I J R ⟨k, rfl, hk, hi⟩
    simp only [or_false] at hX
    exact h1 k _ hk hX L st I J R hi)
  refine fx_run (stops := [(hd, b)]) ?_ n1 h0
  rintro pc L st I J R ⟨rfl, hi⟩
  exact h N L st I J R ⟨0, rfl, Nat.zero_le _, hi⟩
end FL
/-! numbers: ints that are small naturals -/
def nv (x : Int32) : Nat := x.toNatClampNeg
theorem nv_nI {n : Nat} (h : n < 2 ^ 31) : nv (nI n) = n := nI_clamp h
/-- an int from 0 to N - 1 -/
def rg (x : Int32) (N : Nat) : Prop := ∃ n, n < N ∧ x = nI n
theorem rg_eq {x : Int32} {N : Nat} (h : rg x N) (hN : N ≤ 2 ^ 31) : x = nI (nv x) ∧ nv x < N := by
  obtain ⟨n, h1, rfl⟩ := h
  rw [nv_nI (by omega)]
  exact ⟨rfl, h1⟩
theorem nI_in' {n N : Nat} (h : n < N) (hN : N < 2 ^ 31) : vp_in (nI n) N = True := eq_true (nI_in h hN)
theorem nI_sub' {a b : Nat} (h : b ≤ a) : nI a - nI b = nI (a - b) := by
  have h2 : nI a = nI (a - b) + nI b := by rw [nI_add]; congr 1; omega
  rw [h2, Int32.add_sub_cancel]
theorem nI_mul' (a b : Nat) : nI a * nI b = nI (a * b) := (Int32.ofNat_mul a b).symm
theorem nI_lt' {a b : Nat} (ha : a < 2 ^ 31) (hb : b < 2 ^ 31) : (nI a < nI b) = (a < b) := propext (nI_ltI ha hb)
theorem nI_le' {a b : Nat} (ha : a < 2 ^ 31) (hb : b < 2 ^ 31) : (nI a ≤ nI b) = (a ≤ b) := propext (nI_leI ha hb)
theorem nI_eq' {a b : Nat} (ha : a < 2 ^ 31) (hb : b < 2 ^ 31) : (nI a = nI b) = (a = b) := propext (nI_eq ha hb)
theorem lit (n : Nat) : (OfNat.ofNat n : Int32) = nI (OfNat.ofNat n) := rfl
theorem zb_n0 (b : Bool) : (zb b = nI 0) = (b = false) := propext (zb_e b)
theorem bnf {x : Bool} (h : ¬ x = false) : x = true := by cases x <;> first | rfl | exact absurd rfl h
theorem bnt {x : Bool} (h : ¬ x = true) : x = false := by cases x <;> first | rfl | exact absurd rfl h
theorem nI_div' {a b : Nat} (ha : a < 2 ^ 31) (hb0 : 0 < b) (hb : b < 2 ^ 31) : nI a / nI b = nI (a / b) := pk_div ha hb0 hb
theorem nI_rem2 {a b : Nat} : nI a - nI (a / b * b) = nI (a % b) := by
  rw [nI_sub' (Nat.div_mul_le_self a b)]
  congr 1
  have := Nat.div_add_mod a b
  rw [Nat.mul_comm] at this
  omega
theorem idec (x : Int32) : x + Int32.ofInt (-1) = x - nI 1 := by
  rw [Int32.sub_eq_add_neg]
  congr 1
theorem iinc1 (n : Nat) : nI n + Int32.ofInt 1 = nI (n + 1) := nI_1 n
/-! a row filled from a place on -/
def fill (I : fx_MI) (q a n : Nat) (v : Nat → Int32) : fx_MI := fun q' j => if q' = q ∧ a ≤ j ∧ j < a + n then v (j - a) else I q' j
theorem fill_0 {I : fx_MI} {q a : Nat} {v : Nat → Int32} : fill I q a 0 v = I := by
  funext q' j
  exact if_neg (by omega)
theorem fill_s {I : fx_MI} {q a n : Nat} {v : Nat → Int32} {x : Int32} (h : x = v n) : fx_up (fill I q a n v) q (a + n) x = fill I q a (n + 1) v := by
  funext q' j
  simp only [fx_up, fill]
  by_cases h1 : q' = q ∧ j = a + n
  · rw [if_pos h1, if_pos ⟨h1.1, by omega, by omega⟩, h, show j - a = n by omega]
  · rw [if_neg h1]
    by_cases h2 : q' = q ∧ a ≤ j ∧ j < a + n
    · rw [if_pos h2, if_pos ⟨h2.1, h2.2.1, by omega⟩]
    · rw [if_neg h2, if_neg (by omega)]
theorem fill_s0 {I : fx_MI} {q n : Nat} {v : Nat → Int32} {x : Int32} (h : x = v n) : fx_up (fill I q 0 n v) q n x = fill I q 0 (n + 1) v := by
  have := fill_s (I := I) (q := q) (a := 0) h
  rwa [Nat.zero_add] at this
theorem fill_ne {I : fx_MI} {q a n q' j : Nat} {v : Nat → Int32} (h : q' ≠ q) : fill I q a n v q' j = I q' j := if_neg (fun z => h z.1)
theorem fill_out {I : fx_MI} {q a n q' j : Nat} {v : Nat → Int32} (h : j < a ∨ a + n ≤ j) : fill I q a n v q' j = I q' j := if_neg (by omega)
theorem up_ne {I : fx_MI} {q j q' j' : Nat} {x : Int32} (h : q' ≠ q ∨ j' ≠ j) : fx_up I q j x q' j' = I q' j' := if_neg (by omega)
theorem up_eq {I : fx_MI} {q j : Nat} {x : Int32} : fx_up I q j x q j = x := if_pos ⟨rfl, rfl⟩
theorem upJ_eq {J : fx_MJ} {q j : Nat} {x : Int64} : fx_up J q j x q j = x := if_pos ⟨rfl, rfl⟩
