/-! more of the same (own work) -/
section FL
variable {nL : Nat} {M : fx_M} {ev : fx_Env} {ret : Option FieldType} {P : fx_P} {pr : fx_Pr} {pc : Nat} {L : List (Option Value)} {st : List Value} {I : fx_MI} {J : fx_MJ} {R : fx_MR}
end FL
theorem nI_rem' {a b : Nat} (ha : a < 2 ^ 31) (hb0 : 0 < b) (hb : b < 2 ^ 31) : nI a - nI a / nI b * nI b = nI (a % b) := pk_rem ha hb0 hb
theorem cb_9 : (Int8.ofInt (9)).toInt32 = 9 := by decide +kernel
theorem lt_3_7 : (3 < 7) = True := eq_true (by decide)
theorem cb_12 : (Int8.ofInt (12)).toInt32 = 12 := by decide +kernel
theorem cb_13 : (Int8.ofInt (13)).toInt32 = 13 := by decide +kernel
theorem cb_14 : (Int8.ofInt (14)).toInt32 = 14 := by decide +kernel
theorem cb_15 : (Int8.ofInt (15)).toInt32 = 15 := by decide +kernel
theorem lt_4_14 : (4 < 14) = True := eq_true (by decide)
theorem lt_5_14 : (5 < 14) = True := eq_true (by decide)
theorem lt_6_14 : (6 < 14) = True := eq_true (by decide)
theorem lt_7_14 : (7 < 14) = True := eq_true (by decide)
theorem lt_8_14 : (8 < 14) = True := eq_true (by decide)
theorem lt_9_14 : (9 < 14) = True := eq_true (by decide)
theorem lt_10_14 : (10 < 14) = True := eq_true (by decide)
theorem lt_11_14 : (11 < 14) = True := eq_true (by decide)
theorem lt_12_14 : (12 < 14) = True := eq_true (by decide)
theorem lt_13_14 : (13 < 14) = True := eq_true (by decide)
theorem wrN_le {w h : Nat} {f : Nat → Int32} {l : Nat} : wrN w h f l ≤ 1 := by
  unfold wrN
  split <;> omega
theorem fx_X_V {nL : Nat} {M : fx_M} {ev : fx_Env} {ret : Option FieldType} {P : fx_P} {pr : fx_Pr} {V : fx_K} (hV : fx_cl nL M ev ret P pr V) {stops : List (Nat × Nat)} {K : fx_K} (hK : ∀ pc L st I J R, K pc L st I J R → V pc L st I J R) : ∀ (n pc : Nat) (L : List (Option Value)) (st : List Value) (I : fx_MI) (J : fx_MJ) (R : fx_MR), fx_X nL M ev ret P pr stops K n pc L st I J R → V pc L st I J R := by
  intro n
  induction n with
  | zero => intro pc L st I J R h; exact hK _ _ _ _ _ _ h
  | succ n ih =>
    intro pc L st I J R h
    unfold fx_X at h
    split at h
    · exact hV.2 _ _ _ _ _ _ _ (hK _ _ _ _ _ _ h)
    · split at h
      · rename_i hp
        exact hV.1 _ _ _ _ _ _ _ _ _ hp h ih
      · cases h
/-- a run with stops, to anything closed under steps -/
theorem fx_runV {nL : Nat} {M : fx_M} {ev : fx_Env} {ret : Option FieldType} {P : fx_P} {pr : fx_Pr} {V : fx_K} (hV : fx_cl nL M ev ret P pr V) {stops : List (Nat × Nat)} {K : fx_K} {pc : Nat} {L : List (Option Value)} {st : List Value} {I : fx_MI} {J : fx_MJ} {R : fx_MR} (hK : ∀ pc L st I J R, K pc L st I J R → V pc L st I J R) (n : Nat) (h : ∀ X : Nat → fx_K, fx_isX nL M ev ret P pr stops K X → X n pc L st I J R) : V pc L st I J R := fx_X_V hV hK n _ _ _ _ _ _ (h _ fx_X_is)
section GW
variable {p : Program} {l : Launch} {e : Env} {Rm : Room} {s : State} {m : MethodId} {args : Array Value} {below : List Frame} {meth : Method} {c : Code} {D : va_G} {A : Nat → Prop} {H0 : Heap} {M : fx_M} {cA : Nat → ClassId} {al : Nat → Nat} {nL kc ks : Nat} {cc : ByteArray} {Qc : State → Prop} {Qd : Array Value → State → Outcome → State → Prop}
end GW
section GN
variable {n n' h : Nat} {cA : Nat → ClassId} {al : Nat → Nat} {I : fx_MI} {J : fx_MJ} {b : Bool} {D : va_G} {A : Nat → Prop} {H : Heap}
end GN
