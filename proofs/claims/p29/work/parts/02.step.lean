/-! THE STEP: what an instruction asks, and how it goes on (own work) -/
abbrev fx_K : Type := Nat → List (Option Value) → List Value → fx_MI → fx_MJ → fx_MR → Prop
abbrev fx_T : Type := List Value → fx_MI → fx_MJ → fx_MR → (List Value → fx_MI → fx_MJ → fx_MR → Prop) → Prop
abbrev fx_Env : Type := List (Instr × fx_T)
abbrev fx_P : Type := Option Value → fx_MI → fx_MJ → fx_MR → Prop
def fx_lk : fx_Env → Instr → Option fx_T
  | [], _ => none
  | (i, t) :: l, j => if i = j then some t else fx_lk l j
/-- the link-dependent instructions: a field read, a field written, a call, a constant -/
def fx_tget (M : fx_M) (ci j : Nat) : fx_T := fun st I J R k => match st with
  | .ref q :: r => M.2.2.1 q = some (.inl ci) ∧ k (fx_fv I J R (M.2.1 ci j) q j :: r) I J R
  | _ => False
def fx_tput (M : fx_M) (ci j : Nat) : fx_T := fun st I J R k => match st with
  | v :: .ref q :: r => M.2.2.1 q = some (.inl ci) ∧ (match M.2.1 ci j, v with
    | 0, .int x => k r (fx_up I q j x) J R
    | 1, .long x => k r I (fx_up J q j x) R
    | 2, .ref a => k r I J (fx_up R q j (some a))
    | _, _ => False)
  | _ => False
abbrev fx_Pre : Type := List Value → fx_MI → fx_MJ → fx_MR → Prop
abbrev fx_Post : Type := List Value → fx_MI → fx_MJ → fx_MR → Option Value → fx_MI → fx_MJ → fx_MR → Prop
def fx_cat (st : List Value) : Nat := (st.map fun v => v.category).sum
def fx_tcall (n : Nat) (Pre : fx_Pre) (Post : fx_Post) : fx_T := fun st I J R k =>
  n ≤ st.length ∧ fx_cat (st.drop n) ≤ 8 ∧ Pre (st.take n).reverse I J R ∧ ∀ r I' J' R', Post (st.take n).reverse I J R r I' J' R' → k (r.toList ++ st.drop n) I' J' R'
def fx_tldc (v : Value) : fx_T := fun st I J R k => k (v :: st) I J R
/-- the length of an instruction in bytes (a tableswitch apart) -/
def fx_len : Instr → Nat
  | .aload _ | .astore _ | .bipush _ | .iload _ | .istore _ | .lload _ | .lstore _ | .ldc _ | .newarray _ => 2
  | .getfield _ | .putfield _ | .getstatic _ | .goto _ | .if_icmp _ _ | .ifCond _ _ | .iinc _ _ | .ldc_w _ | .new _ | .anewarray _ | .invokespecial _ | .invokestatic _ | .invokevirtual _ | .sipush _ | .ldc2_w _ | .ifnull _ | .ifnonnull _ => 3
  | _ => 1
def fx_isSw : Instr → Bool
  | .tableswitch _ _ _ _ => true
  | _ => false
def fx_dec (cc : ByteArray) (pc : Nat) (i : Instr) : Prop := (fx_isSw i = false ∧ decode cc pc = .ok (i, fx_len i)) ∨ (fx_isSw i = true ∧ ∃ n, decode cc pc = .ok (i, n))
def fx_in (M : fx_M) (q ty : Nat) (i : Int32) : Prop := match M.2.2.1 q with
  | some (.inr (t, n)) => t = ty ∧ vp_in i n
  | _ => False
def fx_cnd (c : Jvm.ClassFile.Cond) (x y : Int32) : Prop := match c with
  | .eq => x = y
  | .ne => ¬ x = y
  | .lt => x < y
  | .ge => y ≤ x
  | .gt => y < x
  | .le => x ≤ y
/-- a switch: the place of each case -/
def fx_sw (pc : Nat) (x : Int) (lo : Int) : List Int → (Nat → Prop) → Prop
  | [], _ => True
  | o :: r, k => (x = lo → 0 ≤ (pc : Int) + o ∧ k ((pc : Int) + o).toNat) ∧ fx_sw pc x (lo + 1) r k
def fx_S (nL : Nat) (M : fx_M) (ev : fx_Env) (ret : Option FieldType) (P : fx_P) (ins : Instr) (tgt pc : Nat) (L : List (Option Value)) (st : List Value) (I : fx_MI) (J : fx_MJ) (R : fx_MR) (k : fx_K) : Prop := match ins with
  | .iconst n => k (pc + 1) L (.int (Int32.ofInt n) :: st) I J R
  | .bipush n => k (pc + 2) L (.int (Int8.ofInt n).toInt32 :: st) I J R
  | .sipush n => k (pc + 3) L (.int (Int16.ofInt n).toInt32 :: st) I J R
  | .lconst n => k (pc + 1) L (.long (Int64.ofNat (n : Nat)) :: st) I J R
  | .iload_n n => match fx_lg L n with
    | some (.int x) => k (pc + 1) L (.int x :: st) I J R
    | _ => False
  | .lload_n n => match fx_lg L n with
    | some (.long x) => k (pc + 1) L (.long x :: st) I J R
    | _ => False
  | .aload_n n => match fx_lg L n with
    | some (.ref x) => k (pc + 1) L (.ref x :: st) I J R
    | _ => False
  | .istore_n n => match st with
    | .int x :: r => (n < nL ∧ fx_nl L n = true) ∧ k (pc + 1) (fx_ls L n (some (.int x))) r I J R
    | _ => False
  | .astore_n n => match st with
    | .ref x :: r => (n < nL ∧ fx_nl L n = true) ∧ k (pc + 1) (fx_ls L n (some (.ref x))) r I J R
    | _ => False
  | .lstore_n n => match st with
    | .long x :: r => (n + 1 < nL ∧ fx_nl L n = true) ∧ k (pc + 1) (fx_ls (fx_ls L n (some (.long x))) (n + 1) none) r I J R
    | _ => False
  | .iload n => match fx_lg L n with
    | some (.int x) => k (pc + 2) L (.int x :: st) I J R
    | _ => False
  | .lload n => match fx_lg L n with
    | some (.long x) => k (pc + 2) L (.long x :: st) I J R
    | _ => False
  | .aload n => match fx_lg L n with
    | some (.ref x) => k (pc + 2) L (.ref x :: st) I J R
    | _ => False
  | .istore n => match st with
    | .int x :: r => (n < nL ∧ fx_nl L n = true) ∧ k (pc + 2) (fx_ls L n (some (.int x))) r I J R
    | _ => False
  | .astore n => match st with
    | .ref x :: r => (n < nL ∧ fx_nl L n = true) ∧ k (pc + 2) (fx_ls L n (some (.ref x))) r I J R
    | _ => False
  | .lstore n => match st with
    | .long x :: r => (n + 1 < nL ∧ fx_nl L n = true) ∧ k (pc + 2) (fx_ls (fx_ls L n (some (.long x))) (n + 1) none) r I J R
    | _ => False
  | .iinc i n => match fx_lg L i with
    | some (.int x) => (i < nL ∧ fx_nl L i = true) ∧ k (pc + 3) (fx_ls L i (some (.int (x + Int32.ofInt n)))) st I J R
    | _ => False
  | .iadd => match st with
    | .int y :: .int x :: r => k (pc + 1) L (.int (x + y) :: r) I J R
    | _ => False
  | .isub => match st with
    | .int y :: .int x :: r => k (pc + 1) L (.int (x - y) :: r) I J R
    | _ => False
  | .imul => match st with
    | .int y :: .int x :: r => k (pc + 1) L (.int (x * y) :: r) I J R
    | _ => False
  | .iand => match st with
    | .int y :: .int x :: r => k (pc + 1) L (.int (x &&& y) :: r) I J R
    | _ => False
  | .ior => match st with
    | .int y :: .int x :: r => k (pc + 1) L (.int (x ||| y) :: r) I J R
    | _ => False
  | .ixor => match st with
    | .int y :: .int x :: r => k (pc + 1) L (.int (x ^^^ y) :: r) I J R
    | _ => False
  | .ishl => match st with
    | .int y :: .int x :: r => k (pc + 1) L (.int (x <<< (y &&& 31)) :: r) I J R
    | _ => False
  | .ishr => match st with
    | .int y :: .int x :: r => k (pc + 1) L (.int (x >>> (y &&& 31)) :: r) I J R
    | _ => False
  | .iushr => match st with
    | .int y :: .int x :: r => k (pc + 1) L (.int ((x.toUInt32 >>> (y.toUInt32 &&& Int32.toUInt32 31)).toInt32) :: r) I J R
    | _ => False
  | .idiv => match st with
    | .int y :: .int x :: r => ¬ y = 0 ∧ k (pc + 1) L (.int (x / y) :: r) I J R
    | _ => False
  | .irem => match st with
    | .int y :: .int x :: r => ¬ y = 0 ∧ k (pc + 1) L (.int (x - x / y * y) :: r) I J R
    | _ => False
  | .ladd => match st with
    | .long y :: .long x :: r => k (pc + 1) L (.long (x + y) :: r) I J R
    | _ => False
  | .lsub => match st with
    | .long y :: .long x :: r => k (pc + 1) L (.long (x - y) :: r) I J R
    | _ => False
  | .lmul => match st with
    | .long y :: .long x :: r => k (pc + 1) L (.long (x * y) :: r) I J R
    | _ => False
  | .land => match st with
    | .long y :: .long x :: r => k (pc + 1) L (.long (x &&& y) :: r) I J R
    | _ => False
  | .lor => match st with
    | .long y :: .long x :: r => k (pc + 1) L (.long (x ||| y) :: r) I J R
    | _ => False
  | .lxor => match st with
    | .long y :: .long x :: r => k (pc + 1) L (.long (x ^^^ y) :: r) I J R
    | _ => False
  | .lshl => match st with
    | .int y :: .long x :: r => k (pc + 1) L (.long (x <<< (y.toInt64 &&& 63)) :: r) I J R
    | _ => False
  | .lshr => match st with
    | .int y :: .long x :: r => k (pc + 1) L (.long (x >>> (y.toInt64 &&& 63)) :: r) I J R
    | _ => False
  | .lushr => match st with
    | .int y :: .long x :: r => k (pc + 1) L (.long ((x.toUInt64 >>> (y.toInt64.toUInt64 &&& Int64.toUInt64 63)).toInt64) :: r) I J R
    | _ => False
  | .lcmp => match st with
    | .long y :: .long x :: r => k (pc + 1) L (.int (lg_cmp x y) :: r) I J R
    | _ => False
  | .ineg => match st with
    | .int x :: r => k (pc + 1) L (.int (-x) :: r) I J R
    | _ => False
  | .lneg => match st with
    | .long x :: r => k (pc + 1) L (.long (-x) :: r) I J R
    | _ => False
  | .i2l => match st with
    | .int x :: r => k (pc + 1) L (.long x.toInt64 :: r) I J R
    | _ => False
  | .l2i => match st with
    | .long x :: r => k (pc + 1) L (.int x.toInt32 :: r) I J R
    | _ => False
  | .i2b => match st with
    | .int x :: r => k (pc + 1) L (.int x.toInt8.toInt32 :: r) I J R
    | _ => False
  | .dup => match st with
    | v :: r => v.category = 1 ∧ k (pc + 1) L (v :: v :: r) I J R
    | _ => False
  | .pop => match st with
    | v :: r => v.category = 1 ∧ k (pc + 1) L r I J R
    | _ => False
  | .dup2 => match st with
    | .long x :: r => k (pc + 1) L (.long x :: .long x :: r) I J R
    | v :: w :: r => (v.category = 1 ∧ w.category = 1) ∧ k (pc + 1) L (v :: w :: v :: w :: r) I J R
    | _ => False
  | .goto off => (pc : Int) + off = (tgt : Int) ∧ k tgt L st I J R
  | .ifCond c off => match st with
    | .int x :: r => (pc : Int) + off = (tgt : Int) ∧ (fx_cnd c x 0 → k tgt L r I J R) ∧ (¬ fx_cnd c x 0 → k (pc + 3) L r I J R)
    | _ => False
  | .if_icmp c off => match st with
    | .int y :: .int x :: r => (pc : Int) + off = (tgt : Int) ∧ (fx_cnd c x y → k tgt L r I J R) ∧ (¬ fx_cnd c x y → k (pc + 3) L r I J R)
    | _ => False
  | .tableswitch d lo hi offs => match st with
    | .int x :: r => ((pc : Int) + d = (tgt : Int) ∧ (offs.toList.length : Int) = hi - lo + 1) ∧ (x.toInt < lo ∨ hi < x.toInt → k tgt L r I J R) ∧ fx_sw pc x.toInt lo offs.toList (fun q => k q L r I J R)
    | _ => False
  | .iaload => match st with
    | .int i :: .ref q :: r => fx_in M q 0 i ∧ k (pc + 1) L (.int (I q i.toNatClampNeg) :: r) I J R
    | _ => False
  | .baload => match st with
    | .int i :: .ref q :: r => fx_in M q 2 i ∧ k (pc + 1) L (.int (I q i.toNatClampNeg) :: r) I J R
    | _ => False
  | .laload => match st with
    | .int i :: .ref q :: r => fx_in M q 1 i ∧ k (pc + 1) L (.long (J q i.toNatClampNeg) :: r) I J R
    | _ => False
  | .aaload => match st with
    | .int i :: .ref q :: r => fx_in M q 3 i ∧ k (pc + 1) L (va_rf (R q i.toNatClampNeg) :: r) I J R
    | _ => False
  | .iastore => match st with
    | .int x :: .int i :: .ref q :: r => fx_in M q 0 i ∧ k (pc + 1) L r (fx_up I q i.toNatClampNeg x) J R
    | _ => False
  | .bastore => match st with
    | .int x :: .int i :: .ref q :: r => fx_in M q 2 i ∧ k (pc + 1) L r (fx_up I q i.toNatClampNeg (vp_nar .byte x)) J R
    | _ => False
  | .lastore => match st with
    | .long x :: .int i :: .ref q :: r => fx_in M q 1 i ∧ k (pc + 1) L r I (fx_up J q i.toNatClampNeg x) R
    | _ => False
  | .ireturn => match st with
    | [.int x] => (match ret with
      | some ty => narrow ty (.int x) = .int x
      | none => False) ∧ P (some (.int x)) I J R
    | _ => False
  | .lreturn => match st with
    | [.long x] => ret = some .long ∧ P (some (.long x)) I J R
    | _ => False
  | .return_ => match st with
    | [] => ret = none ∧ P none I J R
    | _ => False
  | _ => match fx_lk ev ins with
    | some t => t st I J R (fun st' I' J' R' => k (pc + fx_len ins) L st' I' J' R')
    | none => False
def fx_stop : List (Nat × Nat) → Nat → Option Nat
  | [], _ => none
  | (a, b) :: l, pc => if a = pc then some b else fx_stop l pc
/-- a program: place, instruction, target -/
abbrev fx_Pr : Type := Nat → Option (Instr × Nat)
def fx_X (nL : Nat) (M : fx_M) (ev : fx_Env) (ret : Option FieldType) (P : fx_P) (pr : fx_Pr) (stops : List (Nat × Nat)) (K : fx_K) : Nat → fx_K
  | 0 => K
  | n + 1 => fun pc L st I J R => match fx_stop stops pc with
    | some b => K pc (L.take b) st I J R
    | none => match pr pc with
      | some (ins, tgt) => fx_S nL M ev ret P ins tgt pc L st I J R (fx_X nL M ev ret P pr stops K n)
      | none => False
/-- the first step, from a stop too -/
def fx_X1 (nL : Nat) (M : fx_M) (ev : fx_Env) (ret : Option FieldType) (P : fx_P) (pr : fx_Pr) (stops : List (Nat × Nat)) (K : fx_K) (n : Nat) : fx_K := fun pc L st I J R => match pr pc with
  | some (ins, tgt) => fx_S nL M ev ret P ins tgt pc L st I J R (fx_X nL M ev ret P pr stops K n)
  | none => False
/-- a program out of a list, and that a method's bytes hold it -/
def fx_pr (l : List (Nat × Instr × Nat)) : fx_Pr := fun pc => (l.find? (fun q => q.1 == pc)).map (fun q => q.2)
def fx_chk (cc : ByteArray) (q : Nat × Instr × Nat) : Bool := match q.2.1 with
  | .tableswitch a b c d => (match decode cc q.1 with
    | .ok (j, _) => decide (j = .tableswitch a b c d)
    | _ => false)
  | i => decide (decode cc q.1 = .ok (i, fx_len i))
def fx_prOK (cc : ByteArray) (pr : fx_Pr) : Prop := ∀ pc ins tgt, pr pc = some (ins, tgt) → fx_dec cc pc ins
theorem fx_pr_ok {cc : ByteArray} {l : List (Nat × Instr × Nat)} (h : l.all (fx_chk cc) = true) : fx_prOK cc (fx_pr l) := by
  intro pc ins tgt hp
  simp only [fx_pr, Option.map_eq_some_iff] at hp
  obtain ⟨q, h1, h2⟩ := hp
  have h3 := List.all_eq_true.mp h q (List.mem_of_find?_eq_some h1)
  have h4 : (q.1 == pc) = true := by simpa using List.find?_some h1
  have h5 : q.1 = pc := by simpa using h4
  obtain ⟨q1, q2, q3⟩ := q
  cases h2
  dsimp only at h5
  subst h5
  unfold fx_chk at h3
  dsimp only at h3
  split at h3
  · split at h3
    · rename_i j n e
      refine Or.inr ⟨rfl, n, ?_⟩
      rw [e, of_decide_eq_true h3]
    · cases h3
  · rename_i hne
    refine Or.inl ⟨?_, of_decide_eq_true h3⟩
    unfold fx_isSw
    split
    · exact absurd rfl (hne _ _ _ _)
    · rfl
