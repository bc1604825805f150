/-! the class's frame: places of a kind, calls across classes, arraylength, arraycopy, references put (own work) -/
def isK (ci q : Nat) : Prop := pl_C 0 q = some (.inl ci)
theorem isK_pl {ci q : Nat} (h : isK ci q) (n : Nat) : (MC n).2.2.1 q = some (.inl ci) := by
  show pl_C n q = _
  unfold isK pl_C at h
  unfold pl_C
  split
  · rename_i h1
    rw [if_pos h1] at h
    cases h
  · rename_i h1
    rw [if_neg h1] at h
    exact h
theorem isK_lt {ci q : Nat} (h : isK ci q) : q < 140 ∧ q ≠ 120 := by
  refine ⟨(MC_ok 0).1 q _ (isK_pl h 0), fun z => ?_⟩
  rw [z] at h
  cases h
theorem R0C_ex {b : Bool} : (∃ b', R0C b = R0C b') = True := eq_true ⟨b, rfl⟩
/-- what lies around a layer, clues, a situation -/
theorem lay_at {q : Nat} (h : isK 4 q) : (∀ b, R0C b q 0 = some (q + 1)) ∧ ∀ n, (MC n).2.2.1 (q + 1) = some (.inr (1, 4)) := by
  have key : ∀ q, q < 140 → fx_nth plL q = some (.inl 4) → q ≠ 101 ∧ q + 1 ≠ 120 ∧ ((fx_nth rfL q).bind (fun l => fx_nth l 0)).join = some (q + 1) ∧ fx_nth plL (q + 1) = some (.inr (1, 4)) := by decide +kernel
  have hq := isK_lt h
  unfold isK pl_C at h
  rw [if_neg hq.2] at h
  obtain ⟨h1, h2, h3, h4⟩ := key q hq.1 h
  refine ⟨fun b => ?_, fun n => ?_⟩
  · unfold R0C
    rw [if_neg (by omega), if_neg (by omega)]
    exact h3
  · show pl_C n (q + 1) = _
    unfold pl_C
    rw [if_neg h2]
    exact h4
theorem clu_at {q : Nat} (h : isK 3 q) : (∀ b, R0C b q 1 = some (q + 1) ∧ R0C b q 2 = some (q + 2) ∧ R0C b q 3 = some (q + 3) ∧ R0C b q 4 = some (q + 4)) ∧ ∀ n, (MC n).2.2.1 (q + 1) = some (.inr (0, 16)) ∧ (MC n).2.2.1 (q + 2) = some (.inr (0, 16)) ∧ (MC n).2.2.1 (q + 3) = some (.inr (0, 128)) ∧ (MC n).2.2.1 (q + 4) = some (.inr (0, 128)) := by
  have k1 : ∀ q, q < 140 → fx_nth plL q = some (.inl 3) → q ≠ 101 ∧ q + 1 ≠ 120 ∧ q + 2 ≠ 120 ∧ q + 3 ≠ 120 ∧ q + 4 ≠ 120 := by decide +kernel
  have k2 : ∀ q, q < 140 → fx_nth plL q = some (.inl 3) → ((fx_nth rfL q).bind (fun l => fx_nth l 1)).join = some (q + 1) ∧ ((fx_nth rfL q).bind (fun l => fx_nth l 2)).join = some (q + 2) := by decide +kernel
  have k3 : ∀ q, q < 140 → fx_nth plL q = some (.inl 3) → ((fx_nth rfL q).bind (fun l => fx_nth l 3)).join = some (q + 3) ∧ ((fx_nth rfL q).bind (fun l => fx_nth l 4)).join = some (q + 4) := by decide +kernel
  have k4 : ∀ q, q < 140 → fx_nth plL q = some (.inl 3) → fx_nth plL (q + 1) = some (.inr (0, 16)) ∧ fx_nth plL (q + 2) = some (.inr (0, 16)) := by decide +kernel
  have k5 : ∀ q, q < 140 → fx_nth plL q = some (.inl 3) → fx_nth plL (q + 3) = some (.inr (0, 128)) ∧ fx_nth plL (q + 4) = some (.inr (0, 128)) := by decide +kernel
  have hq := isK_lt h
  unfold isK pl_C at h
  rw [if_neg hq.2] at h
  obtain ⟨h0, h1, h2, h3, h4⟩ := k1 q hq.1 h
  obtain ⟨r1, r2⟩ := k2 q hq.1 h
  obtain ⟨r3, r4⟩ := k3 q hq.1 h
  obtain ⟨p1, p2⟩ := k4 q hq.1 h
  obtain ⟨p3, p4⟩ := k5 q hq.1 h
  refine ⟨fun b => ?_, fun n => ?_⟩
  · unfold R0C
    simp only [h0, false_and, if_false]
    exact ⟨r1, r2, r3, r4⟩
  · refine ⟨?_, ?_, ?_, ?_⟩
    · show pl_C n (q + 1) = _
      unfold pl_C
      rw [if_neg h1]
      exact p1
    · show pl_C n (q + 2) = _
      unfold pl_C
      rw [if_neg h2]
      exact p2
    · show pl_C n (q + 3) = _
      unfold pl_C
      rw [if_neg h3]
      exact p3
    · show pl_C n (q + 4) = _
      unfold pl_C
      rw [if_neg h4]
      exact p4
theorem sit_at {q : Nat} (h : isK 2 q) : (∀ b, R0C b q 0 = some (q + 1) ∧ R0C b q 1 = some (q + 6) ∧ R0C b q 2 = some (q + 8)) ∧ isK 3 (q + 1) ∧ isK 4 (q + 6) ∧ isK 4 (q + 8) := by
  have k1 : ∀ q, q < 140 → fx_nth plL q = some (.inl 2) → q ≠ 101 ∧ q + 1 ≠ 120 ∧ q + 6 ≠ 120 ∧ q + 8 ≠ 120 := by decide +kernel
  have k2 : ∀ q, q < 140 → fx_nth plL q = some (.inl 2) → ((fx_nth rfL q).bind (fun l => fx_nth l 0)).join = some (q + 1) ∧ ((fx_nth rfL q).bind (fun l => fx_nth l 1)).join = some (q + 6) ∧ ((fx_nth rfL q).bind (fun l => fx_nth l 2)).join = some (q + 8) := by decide +kernel
  have k3 : ∀ q, q < 140 → fx_nth plL q = some (.inl 2) → fx_nth plL (q + 1) = some (.inl 3) := by decide +kernel
  have k4 : ∀ q, q < 140 → fx_nth plL q = some (.inl 2) → fx_nth plL (q + 6) = some (.inl 4) := by decide +kernel
  have k5 : ∀ q, q < 140 → fx_nth plL q = some (.inl 2) → fx_nth plL (q + 8) = some (.inl 4) := by decide +kernel
  have hq := isK_lt h
  unfold isK pl_C at h
  rw [if_neg hq.2] at h
  obtain ⟨h0, h1, h2, h3⟩ := k1 q hq.1 h
  obtain ⟨r1, r2, r3⟩ := k2 q hq.1 h
  have p1 := k3 q hq.1 h
  have p2 := k4 q hq.1 h
  have p3 := k5 q hq.1 h
  refine ⟨fun b => ?_, ?_, ?_, ?_⟩
  · unfold R0C
    simp only [h0, false_and, if_false]
    exact ⟨r1, r2, r3⟩
  · unfold isK pl_C
    rw [if_neg h1]
    exact p1
  · unfold isK pl_C
    rw [if_neg h2]
    exact p2
  · unfold isK pl_C
    rw [if_neg h3]
    exact p3
/-! calls of a static method of any class; the length of an array; copying ints; the smaller and the greater; references put -/
section FS2
variable {l : Launch} {Rm : Room} {M : fx_M} {nL : Nat} {cc : ByteArray}
theorem fx_callS2 {own : String} {ws ws0 ws0' : List Cond} {rm0 : Room} {y : MethodName} {bytes : ByteArray} {maxL idx n : Nat} {ret : Option FieldType} {Pre : fx_Pre} {Post : fx_Post} (hM : fx_Met l y ws0 rm0 M Pre Post) (hG : GoodIn ws (va_wsS own idx y ws0)) (hw : ws0 = Cond.code y bytes maxL ret :: ws0') (hr0 : rm0.cells = 0 ∧ rm0.slots = 0)
    (hd : y.cls ≠ "java/lang/invoke/MethodHandle" ∧ y.cls ≠ "java/lang/invoke/VarHandle" ∧ (parseMethodDescriptor y.desc).map (fun d => d.parameters.length) = some n) (hR : rm0.frames + 1 ≤ Rm.frames ∧ 8 + (maxL + 11) + rm0.locals ≤ Rm.locals)
    (hp : ∀ st I J R, Pre st I J R → st.length = n) : fx_E1 l own ws Rm M nL cc (.invokestatic idx) (fx_tcall n Pre Post) := by
  intro p e s m args below meth c Qc D A H0 cA al kc ks hx hb hml hown hts hK hN hA hkk pc L st I J R k hdg ht hk H locs ls hl hP hD hS
  obtain ⟨h1, h2, h3, h4⟩ := ht
  have e3 := hp _ _ _ _ h3
  have hm := hM D cA al _ I J R H.size h3
  have hst : st.map (fx_v al) = (((st.take n).reverse).map (fx_v al)).reverse ++ (st.drop n).map (fx_v al) := by
    rw [← List.map_reverse, List.reverse_reverse, ← List.map_append, List.take_append_drop]
  have hpc : ∀ U : State, U.heap = H → s.WarmedH U.vm → fx_Pc M D cA al (st.take n).reverse I J R H.size (((st.take n).reverse).map (fx_v al)).toArray U := by
    intro U hU hW
    exact ⟨rfl, by rw [hU], by rw [hU]; exact hP, va_K.moved hW.alike hK, hD.weaken (fun _ _ _ _ => trivial), hN.warm hW⟩
  have hrun := va_runS (e := e) (meth := meth) (below := below) (As := ((st.take n).reverse).map (fx_v al)) (rest := (st.drop n).map (fx_v al)) (g := F0 m pc ls (st.map (fx_v al))) (cells := kc) (slots := ks) (locs := locs) ⟨hx, hb, hml, hown, hts⟩ hm (va_cwS n hts hG hw hr0.1 hr0.2 hd hR) ⟨fx_blind, hpc⟩ rfl (by rw [List.length_map, e3]) hl.1 hst (lv_room (by rw [fx_cat_map]; exact h2)) hdg hkk
  refine fx_callx hrun hS (fun q' _ h => fx_A_in hD hS hA q' h) (fun q' h => fx_A_in hD hS hA q' h) ?_
  intro r' I' J' R' H1 locs1 hp1 hP1 hD1 hS1
  have h9 := hk _ _ _ _ (h4 r' I' J' R' hp1) H1 locs1 ls hl hP1 (fx_w_D hD hD1) hS1
  rw [List.map_append] at h9
  cases r' <;> exact h9
def fx_tlen (M : fx_M) : fx_T := fun st I J R k => match st with
  | .ref q :: r => match M.2.2.1 q with
    | some (.inr (_, n)) => k (.int (Int32.ofNat n) :: r) I J R
    | _ => False
  | _ => False
theorem fx_alen {own : String} {ws : List Cond} (hok : fx_ok M) (hTy : fx_tys M) : fx_E1 l own ws Rm M nL cc .arraylength (fx_tlen M) := by
  intro p e s m args below meth c Qc D A H0 cA al kc ks hx hb hml hown hts hK hN hA hkk pc L st I J R k hdg ht hk H locs ls hl hP hD hS
  unfold fx_tlen at ht
  split at ht
  · rename_i q r
    split at ht
    · rename_i t n h2
      have hq := hok.1 _ _ h2
      have h9 := hk _ _ _ _ ht H locs ls hl hP hD hS
      rcases hTy _ _ _ h2 with ⟨rfl, y⟩ | ⟨rfl, y⟩ | ⟨rfl, y⟩ | ⟨rfl, C, y⟩
      · exact va_alen (x := (n, .inl (I q))) hx hb hK hP q 0 (by rw [fx_w_at hq, fx_e, h2]; rfl) (fx_ty_at y) rfl hdg h9
      · exact va_alen (x := (n, .inr (.inl (J q)))) hx hb hK hP q 1 (by rw [fx_w_at hq, fx_e, h2]; rfl) (fx_ty_at y) rfl hdg h9
      · exact va_alen (x := (n, .inl (I q))) hx hb hK hP q 2 (by rw [fx_w_at hq, fx_e, h2]; rfl) (fx_ty_at y) rfl hdg h9
      · exact va_alen (x := (n, .inr (.inr (.inr (.inr (fun j => (R q j).map al)))))) hx hb hK hP q 3 (by rw [fx_w_at hq, fx_e, h2]; rfl) (fx_ty_at y) rfl hdg h9
    · cases ht
  · cases ht
/-- the ints of a row, some copied from another row -/
def fx_cpy (I : fx_MI) (a a0 sp dp n : Nat) : fx_MI := fun k j => if k = a then va_cpy (I a0) (I a) sp dp n j else I k j
theorem fx_cpy_row {I : fx_MI} {a a0 sp dp n : Nat} : fx_cpy I a a0 sp dp n a = va_cpy (I a0) (I a) sp dp n := by
  funext j
  simp [fx_cpy]
theorem fx_cpy_ne {I : fx_MI} {a a0 sp dp n k : Nat} (h : k ≠ a) : fx_cpy I a a0 sp dp n k = I k := by
  funext j
  simp [fx_cpy, h]
def fx_cok (M : fx_M) (a a0 : Nat) (sp dp n : Int32) : Prop := ∃ n0 n1, M.2.2.1 a0 = some (.inr (0, n0)) ∧ M.2.2.1 a = some (.inr (0, n1)) ∧ ¬ sp < 0 ∧ ¬ dp < 0 ∧ ¬ n < 0 ∧ sp.toNatClampNeg + n.toNatClampNeg ≤ n0 ∧ dp.toNatClampNeg + n.toNatClampNeg ≤ n1
def fx_tcopy (M : fx_M) : fx_T := fun st I J R k => match st with
  | .int n :: .int dp :: .ref a :: .int sp :: .ref a0 :: r => fx_cok M a a0 sp dp n ∧ fx_cat r ≤ 8 ∧ k r (fx_cpy I a a0 sp.toNatClampNeg dp.toNatClampNeg n.toNatClampNeg) J R
  | _ => False
theorem fx_copy {own : String} {ws : List Cond} {idx : Nat} (h1 : Cond.methodLink own idx arraycopyName ∈ ws) (h2 : Cond.native arraycopyName ∈ ws) (h3 : Cond.static arraycopyName ∈ ws) (h4 : Cond.initialized "java/lang/System" ∈ ws) (hok : fx_ok M) (hTy : fx_tys M) (hR : 1 ≤ Rm.frames ∧ 60 ≤ Rm.locals) : fx_E1 l own ws Rm M nL cc (.invokestatic idx) (fx_tcopy M) := by
  intro p e s m args below meth c Qc D A H0 cA al kc ks hx hb hml hown hts hK hN hA hkk pc L st I J R k hdg ht hk H locs ls hl hP hD hS
  unfold fx_tcopy at ht
  split at ht
  · rename_i n dp a sp a0 r
    obtain ⟨⟨n0, n1, p0, p1, g1, g2, g3, g4, g5⟩, hc, ht⟩ := ht
    have hq0 := hok.1 _ _ p0
    have hq1 := hok.1 _ _ p1
    refine va_copyi hx hb (hml.trans hl.1.symm) hown (hts _ h1) (hts _ h2) (hts _ h3) (hts _ h4) hK hP hD hS a0 a 0 0 (by rw [fx_w_at hq0, fx_e, p0]; rfl) (by rw [fx_w_at hq1, fx_e, p1]; rfl) (fx_ty_at hok.2) (fx_ty_at hok.2) rfl g1 g2 g3 g4 g5 (fun _ _ => rfl) hR.1 ?_ hdg ?_
    · rw [fx_cat_map]
      have : nativeFrameWords "java/lang/System" "arraycopy" 5 ≤ 20 := by decide +kernel
      omega
    · intro H1 locs1 hP1 hD1 hS1
      have hw := fx_w_set (M := M) (cA := cA) (al := al) (I := I) (I' := fx_cpy I a a0 sp.toNatClampNeg dp.toNatClampNeg n.toNatClampNeg) (J := J) (J' := J) (R := R) (R' := R) (q := a) rfl (fun k hk => by unfold fx_e; split <;> (try unfold fx_o fx_fv) <;> (try unfold fx_a) <;> simp only [fx_cpy_ne hk])
      simp only [fx_e, p1, fx_a, fx_cpy_row] at hw
      rw [hw] at hP1 hD1
      exact hk _ _ _ _ ht H1 locs1 ls hl hP1 hD1 hS1
  · cases ht
def fx_tmin : fx_T := fun st I J R k => match st with
  | .int y :: .int x :: r => fx_cat r ≤ 8 ∧ k (.int (if y < x then y else x) :: r) I J R
  | _ => False
theorem fx_mmin {own : String} {ws : List Cond} {idx : Nat} (h1 : Cond.methodLink own idx Lib.Math.min.name ∈ ws) (h2 : Cond.static Lib.Math.min.name ∈ ws) (h3 : Cond.initialized "java/lang/Math" ∈ ws) (h4 : Cond.code Lib.Math.min.name Lib.Math.min.code 2 (some .int) ∈ ws) (hR : 1 ≤ Rm.frames ∧ 60 ≤ Rm.locals) : fx_E1 l own ws Rm M nL cc (.invokestatic idx) fx_tmin := by
  intro p e s m args below meth c Qc D A H0 cA al kc ks hx hb hml hown hts hK hN hA hkk pc L st I J R k hdg ht hk H locs ls hl hP hD hS
  unfold fx_tmin at ht
  split at ht
  · rename_i y x r
    obtain ⟨hc, ht⟩ := ht
    refine va_mmin hx hb (hml.trans hl.1.symm) hown (hts _ h1) (hts _ h2) (hts _ h3) (hts _ h4) hR.1 ?_ hkk.1 hkk.2 hdg (hk _ _ _ _ ht H locs ls hl hP hD hS)
    rw [fx_cat_map]
    omega
  · cases ht
theorem fx_putR {own C : String} {ws : List Cond} {ci idx j : Nat} {T : u_T} {N : Nat} (hC : M.1[ci]? = some (C, T, N)) (hin : ∀ w ∈ u_ws C T N, w ∈ ws) (ty0 : Nat → FieldType) (hty : ∀ k, k < N → parseFieldDescriptor (T k).2.2.1 = some (ty0 k)) (hnm : ∀ a, a < N → ∀ b, b < N → a ≠ b → (T a).2.1 ≠ (T b).2.1) (hj : j < N) (hlink : Cond.fieldLink own idx C (T j).2.1 (T j).2.2.1 ∈ ws) (hsame : (T j).1 = C) (hfin : (T j).2.2.2 = false) (hkd : M.2.1 ci j = 2) {ty : FieldType} (hd : parseFieldDescriptor (T j).2.2.1 = some ty) (hn : ∀ a, narrow ty (.ref a) = .ref a) (hf : ∀ a, fits ty (.ref a) = true) (hok : fx_ok M) : fx_E1 l own ws Rm M nL cc (.putfield idx) (fx_tput M ci j) := by
  intro p e s m args below meth c Qc D A H0 cA al kc ks hx hb hml hown hts hK hN hA hkk pc L st I J R k hdg ht hk H locs ls hl hP hD hS
  unfold fx_tput at ht
  split at ht
  · rename_i v q r
    obtain ⟨h1, h2⟩ := ht
    rw [hkd] at h2
    have hq := hok.1 _ _ h1
    cases v <;> try exact absurd h2 (fun z => z)
    rename_i x
    have he : (fx_w M cA al I J R)[q]? = some (al q, .inr (ci, fx_o M al I J R ci q)) := by rw [fx_w_at hq, fx_e, h1]
    refine va_put hx hb hts hin ty0 hty hnm hown hK hP hD hS q he hC j hj (hts _ hlink) (fun x hx => by rw [← hsame]; exact hx) hfin hd (v := .ref (al x)) (hn _) (hf _) (by simp [fx_o, fx_nf, hC, hj]) hdg ?_
    intro H1 locs1 hP1 hD1 hS1
    have hw := fx_w_set (M := M) (cA := cA) (al := al) (I := I) (I' := I) (J := J) (J' := J) (R := R) (R' := fx_up R q j (some x)) (q := q) (x := .inr (ci, (fx_o M al I J R ci q).set j (.ref (al x)))) (by
      rw [fx_e, h1]
      dsimp only
      rw [fx_o_set (M := M) (al := al) (I := I) (I' := I) (J := J) (J' := J) (R := R) (R' := fx_up R q j (some x)) (v := .ref x) hC hj (by rw [hkd]; simp [fx_fv, fx_up, va_rf]) (fun j' hj' => by
        unfold fx_fv
        split <;> simp [fx_up, hj'])]
      rfl) (fun k hk => by unfold fx_e; split <;> (try unfold fx_o fx_fv) <;> (try unfold fx_a) <;> simp only [fx_up_ne hk])
    rw [hw] at hP1 hD1
    exact hk _ _ _ _ h2 H1 locs1 ls hl hP1 hD1 hS1
  · cases ht
end FS2
theorem fs_arraylength {nL : Nat} {M : fx_M} {ev : fx_Env} {ret : Option FieldType} {P : fx_P} {tgt pc : Nat} {L : List (Option Value)} {st : List Value} {I : fx_MI} {J : fx_MJ} {R : fx_MR} {k : fx_K} : fx_S nL M ev ret P (.arraylength) tgt pc L st I J R k = fx_do (fx_lk ev (.arraylength)) st I J R (fun st' I' J' R' => k (pc + 1) L st' I' J' R') := id rfl
theorem fs_ldc_w {nL : Nat} {M : fx_M} {ev : fx_Env} {ret : Option FieldType} {P : fx_P} {tgt pc : Nat} {L : List (Option Value)} {st : List Value} {I : fx_MI} {J : fx_MJ} {R : fx_MR} {k : fx_K} {i : Nat} : fx_S nL M ev ret P (.ldc_w i) tgt pc L st I J R k = fx_do (fx_lk ev (.ldc_w i)) st I J R (fun st' I' J' R' => k (pc + 3) L st' I' J' R') := id rfl
theorem fx_ldcwI {l : Launch} {Rm : Room} {M : fx_M} {nL : Nat} {cc : ByteArray} {own : String} {ws : List Cond} {idx : Nat} {v : Int32} (h : Cond.constant own idx v ∈ ws) : fx_E1 l own ws Rm M nL cc (.ldc_w idx) (fx_tldc (.int v)) := by
  intro p e s m args below meth c Qc D A H0 cA al kc ks hx hb hml hown hts hK hN hA hkk pc L st I J R k hdg ht hk H locs ls hl hP hD hS
  exact lv_ldcw hx hb hown (hts _ h) hdg (hk _ _ _ _ ht H locs ls hl hP hD hS)
/-! nest mates: fields got and put, static calls -/
section FS3
variable {l : Launch} {Rm : Room} {M : fx_M} {nL : Nat} {cc : ByteArray}
theorem fx_getfN {own C : String} {ws : List Cond} {ci idx j : Nat} {T : u_T} {N : Nat} (hC : M.1[ci]? = some (C, T, N)) (hin : ∀ w ∈ u_ws C T N, w ∈ ws) (hj : j < N) (hlink : (own, idx, C, (T j).2.1, (T j).2.2.1) ∈ fx_NF) (hsame : (T j).1 = C) (hok : fx_ok M) : fx_E1 l own ws Rm M nL cc (.getfield idx) (fx_tget M ci j) := by
  intro p e s m args below meth c Qc D A H0 cA al kc ks hx hb hml hown hts hK hN hA hkk pc L st I J R k hdg ht hk H locs ls hl hP hD hS
  unfold fx_tget at ht
  split at ht
  · rename_i q r
    have hq := hok.1 _ _ ht.1
    have h9 := hk _ _ _ _ ht.2 H locs ls hl hP hD hS
    exact va_getN hx hb hts hin hown hK hP q (by rw [fx_w_at hq, fx_e, ht.1]) hC j hj (va_Nw.use rfl (hN.1 _ hlink)) (fun x hx => by rw [← hsame]; exact hx) (fx_o_at hC hj) hdg h9
  · cases ht
theorem fx_putIN {own C : String} {ws : List Cond} {ci idx j : Nat} {T : u_T} {N : Nat} (hC : M.1[ci]? = some (C, T, N)) (hin : ∀ w ∈ u_ws C T N, w ∈ ws) (ty0 : Nat → FieldType) (hty : ∀ k, k < N → parseFieldDescriptor (T k).2.2.1 = some (ty0 k)) (hnm : ∀ a, a < N → ∀ b, b < N → a ≠ b → (T a).2.1 ≠ (T b).2.1) (hj : j < N) (hlink : (own, idx, C, (T j).2.1, (T j).2.2.1) ∈ fx_NF) (hsame : (T j).1 = C) (hfin : (T j).2.2.2 = false) (hkd : M.2.1 ci j = 0) (hd : parseFieldDescriptor (T j).2.2.1 = some .int) (hok : fx_ok M) : fx_E1 l own ws Rm M nL cc (.putfield idx) (fx_tput M ci j) := by
  intro p e s m args below meth c Qc D A H0 cA al kc ks hx hb hml hown hts hK hN hA hkk pc L st I J R k hdg ht hk H locs ls hl hP hD hS
  unfold fx_tput at ht
  split at ht
  · rename_i v q r
    obtain ⟨h1, h2⟩ := ht
    rw [hkd] at h2
    have hq := hok.1 _ _ h1
    cases v <;> try exact absurd h2 (fun z => z)
    rename_i x
    have he : (fx_w M cA al I J R)[q]? = some (al q, .inr (ci, fx_o M al I J R ci q)) := by rw [fx_w_at hq, fx_e, h1]
    refine va_putN hx hb hts hin ty0 hty hnm hown hK hP hD hS q he hC j hj (va_Nw.use rfl (hN.1 _ hlink)) (fun x hx => by rw [← hsame]; exact hx) hfin hd (v := .int x) rfl rfl (by simp [fx_o, fx_nf, hC, hj]) hdg ?_
    intro H1 locs1 hP1 hD1 hS1
    have hw := fx_w_set (M := M) (cA := cA) (al := al) (I := I) (I' := fx_up I q j x) (J := J) (J' := J) (R := R) (R' := R) (q := q) (x := .inr (ci, (fx_o M al I J R ci q).set j (.int x))) (by
      rw [fx_e, h1]
      dsimp only
      rw [fx_o_set (M := M) (al := al) (I := I) (I' := fx_up I q j x) (J := J) (J' := J) (R := R) (R' := R) (v := .int x) hC hj (by rw [hkd]; simp [fx_fv, fx_up]) (fun j' hj' => by
        unfold fx_fv
        split <;> simp [fx_up, hj'])]
      rfl) (fun k hk => fx_up_e hk)
    rw [hw] at hP1 hD1
    exact hk _ _ _ _ h2 H1 locs1 ls hl hP1 hD1 hS1
  · cases ht
theorem fx_callSN {own : String} {ws ws0 ws0' : List Cond} {rm0 : Room} {y : MethodName} {bytes : ByteArray} {maxL idx n : Nat} {ret : Option FieldType} {Pre : fx_Pre} {Post : fx_Post} (hM : fx_Met l y ws0 rm0 M Pre Post) (hG : GoodIn ws ws0) (hlink : (own, idx, y) ∈ fx_NM) (hst0 : Cond.static y ∈ ws) (hin0 : Cond.initialized y.cls ∈ ws) (hw : ws0 = Cond.code y bytes maxL ret :: ws0') (hr0 : rm0.cells = 0 ∧ rm0.slots = 0)
    (hd : y.cls ≠ "java/lang/invoke/MethodHandle" ∧ y.cls ≠ "java/lang/invoke/VarHandle" ∧ (parseMethodDescriptor y.desc).map (fun d => d.parameters.length) = some n) (hR : rm0.frames + 1 ≤ Rm.frames ∧ 8 + (maxL + 11) + rm0.locals ≤ Rm.locals)
    (hp : ∀ st I J R, Pre st I J R → st.length = n) : fx_E1 l own ws Rm M nL cc (.invokestatic idx) (fx_tcall n Pre Post) := by
  intro p e s m args below meth c Qc D A H0 cA al kc ks hx hb hml hown hts hK hN hA hkk pc L st I J R k hdg ht hk H locs ls hl hP hD hS
  obtain ⟨h1, h2, h3, h4⟩ := ht
  have e3 := hp _ _ _ _ h3
  have hm := hM D cA al _ I J R H.size h3
  have hst : st.map (fx_v al) = (((st.take n).reverse).map (fx_v al)).reverse ++ (st.drop n).map (fx_v al) := by
    rw [← List.map_reverse, List.reverse_reverse, ← List.map_append, List.take_append_drop]
  have hpc : ∀ U : State, U.heap = H → s.WarmedH U.vm → fx_Pc M D cA al (st.take n).reverse I J R H.size (((st.take n).reverse).map (fx_v al)).toArray U := by
    intro U hU hW
    exact ⟨rfl, by rw [hU], by rw [hU]; exact hP, va_K.moved hW.alike hK, hD.weaken (fun _ _ _ _ => trivial), hN.warm hW⟩
  have hrun := va_runSN (e := e) (meth := meth) (below := below) (As := ((st.take n).reverse).map (fx_v al)) (rest := (st.drop n).map (fx_v al)) (g := F0 m pc ls (st.map (fx_v al))) (cells := kc) (slots := ks) (locs := locs) ⟨hx, hb, hml, hown, hts⟩ hm ⟨va_cnB n hts hG hw hr0.1 hr0.2 (hN.2 _ hlink) (hts _ hin0) hd hR, hts _ hst0, trivial⟩ ⟨fx_blind, hpc⟩ rfl (by rw [List.length_map, e3]) hl.1 hst (lv_room (by rw [fx_cat_map]; exact h2)) hdg hkk
  refine fx_callx hrun hS (fun q' _ h => fx_A_in hD hS hA q' h) (fun q' h => fx_A_in hD hS hA q' h) ?_
  intro r' I' J' R' H1 locs1 hp1 hP1 hD1 hS1
  have h9 := hk _ _ _ _ (h4 r' I' J' R' hp1) H1 locs1 ls hl hP1 (fx_w_D hD hD1) hS1
  rw [List.map_append] at h9
  cases r' <;> exact h9
end FS3
theorem w_C_GN {c0 : Cond} {y : MethodName} {b : ByteArray} {m : Nat} {r : Option FieldType} (h5 : Cond.code y b m r ∈ w_C) : GoodIn (c0 :: w_C) (Cond.code y b m r :: w_C) := by
  intro w hw
  have hm : w ∈ w_C := by
    rcases List.mem_cons.mp hw with rfl | h
    · exact h5
    · exact h
  exact ⟨List.mem_cons_of_mem _ hm, good_of_word (List.all_eq_true.mp w_C_good w hm)⟩
