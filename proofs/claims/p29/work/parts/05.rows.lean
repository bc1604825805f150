/-! THE STEP, an instruction a rule: for simp (own work) -/
section FSR
variable {nL : Nat} {M : fx_M} {ev : fx_Env} {ret : Option FieldType} {P : fx_P} {pr : fx_Pr} {tgt pc : Nat} {L : List (Option Value)} {st r : List Value} {I : fx_MI} {J : fx_MJ} {R : fx_MR} {k : fx_K} {stops : List (Nat × Nat)} {K : fx_K}
theorem fx_stop_nil : fx_stop [] pc = none := id rfl
/-- a run as a variable (so that no check unfolds it) -/
def fx_isX (nL : Nat) (M : fx_M) (ev : fx_Env) (ret : Option FieldType) (P : fx_P) (pr : fx_Pr) (stops : List (Nat × Nat)) (K : fx_K) (X : Nat → fx_K) : Prop :=
  (∀ (n pc : Nat) (ins : Instr) (tgt : Nat) (L : List (Option Value)) (st : List Value) (I : fx_MI) (J : fx_MJ) (R : fx_MR), pr pc = some (ins, tgt) → fx_stop stops pc = none → X (n + 1) pc L st I J R = fx_S nL M ev ret P ins tgt pc L st I J R (X n)) ∧
  (∀ (n pc b : Nat) (L : List (Option Value)) (st : List Value) (I : fx_MI) (J : fx_MJ) (R : fx_MR), fx_stop stops pc = some b → X (n + 1) pc L st I J R = K pc (L.take b) st I J R)
theorem fx_X_is : fx_isX nL M ev ret P pr stops K (fx_X nL M ev ret P pr stops K) := by
  refine ⟨fun n pc ins tgt L st I J R hp hs => ?_, fun n pc b L st I J R hs => ?_⟩
  · simp only [fx_X, hs, hp]
  · simp only [fx_X, hs]
def fx_go (nL : Nat) (M : fx_M) (ev : fx_Env) (ret : Option FieldType) (P : fx_P) (pr : fx_Pr) (X : fx_K) : fx_K := fun pc L st I J R => match pr pc with
  | some (ins, tgt) => fx_S nL M ev ret P ins tgt pc L st I J R X
  | none => False
theorem fx_go_at {ins : Instr} {X : fx_K} (hp : pr pc = some (ins, tgt)) : fx_go nL M ev ret P pr X pc L st I J R = fx_S nL M ev ret P ins tgt pc L st I J R X := by
  simp only [fx_go, hp]
theorem fx_run {K : fx_K} (hK : ∀ pc L st I J R, K pc L st I J R → fx_R nL M ev ret P pr pc L st I J R) (n : Nat) (h : ∀ X : Nat → fx_K, fx_isX nL M ev ret P pr stops K X → X n pc L st I J R) : fx_R nL M ev ret P pr pc L st I J R := fx_X_R hK n _ _ _ _ _ _ (h _ fx_X_is)
/-- a run without loops -/
theorem fx_run0 (n : Nat) (h : ∀ X : Nat → fx_K, fx_isX nL M ev ret P pr [] (fun _ _ _ _ _ _ => False) X → X n pc L st I J R) : fx_R nL M ev ret P pr pc L st I J R := fx_run (fun _ _ _ _ _ _ h => h.elim) n h
theorem fx_loop {α : Type} {lt : α → α → Prop} (hwf : WellFounded lt) {K0 : fx_K} {Inv : α → fx_K} (n : Nat) (hK0 : ∀ pc L st I J R, K0 pc L st I J R → fx_R nL M ev ret P pr pc L st I J R)
    (h : ∀ (a : α) (X : Nat → fx_K), fx_isX nL M ev ret P pr stops (fun pc L st I J R => (∃ b, lt b a ∧ Inv b pc L st I J R) ∨ K0 pc L st I J R) X → ∀ pc L st I J R, Inv a pc L st I J R → fx_go nL M ev ret P pr (X n) pc L st I J R) :
    ∀ a pc L st I J R, Inv a pc L st I J R → fx_R nL M ev ret P pr pc L st I J R := fx_cut hwf (stops := stops) n hK0 (fun a pc L st I J R hi => h a _ fx_X_is pc L st I J R hi)
theorem fx_loopN {K0 : fx_K} {Inv : Nat → fx_K} (n : Nat) (hK0 : ∀ pc L st I J R, K0 pc L st I J R → fx_R nL M ev ret P pr pc L st I J R)
    (h : ∀ (a : Nat) (X : Nat → fx_K), fx_isX nL M ev ret P pr stops (fun pc L st I J R => (∃ b, b < a ∧ Inv b pc L st I J R) ∨ K0 pc L st I J R) X → ∀ pc L st I J R, Inv a pc L st I J R → fx_go nL M ev ret P pr (X n) pc L st I J R) :
    ∀ a pc L st I J R, Inv a pc L st I J R → fx_R nL M ev ret P pr pc L st I J R := fx_loop (stops := stops) (lt := fun a b : Nat => a < b) Nat.lt_wfRel.wf n hK0 h
theorem fx_q_goto {X : Nat → fx_K} {n : Nat} {off : Int} (hX : fx_isX nL M ev ret P pr stops K X) (hp : pr pc = some (.goto off, tgt)) (hs : fx_stop stops pc = none) (ha : (pc : Int) + off = (tgt : Int)) : X (n + 1) pc L st I J R = X n tgt L st I J R := by
  rw [hX.1 _ _ _ _ _ _ _ _ _ hp hs]
  exact propext ⟨fun h => h.2, fun h => ⟨ha, h⟩⟩
theorem fx_q_if {X : Nat → fx_K} {n : Nat} {c : Jvm.ClassFile.Cond} {off : Int} {x : Int32} (hX : fx_isX nL M ev ret P pr stops K X) (hp : pr pc = some (.ifCond c off, tgt)) (hs : fx_stop stops pc = none) (ha : (pc : Int) + off = (tgt : Int)) : X (n + 1) pc L (.int x :: st) I J R = ((fx_cnd c x 0 → X n tgt L st I J R) ∧ (¬ fx_cnd c x 0 → X n (pc + 3) L st I J R)) := by
  rw [hX.1 _ _ _ _ _ _ _ _ _ hp hs]
  exact propext ⟨fun h => h.2, fun h => ⟨ha, h⟩⟩
theorem fx_q_icmp {X : Nat → fx_K} {n : Nat} {c : Jvm.ClassFile.Cond} {off : Int} {x y : Int32} (hX : fx_isX nL M ev ret P pr stops K X) (hp : pr pc = some (.if_icmp c off, tgt)) (hs : fx_stop stops pc = none) (ha : (pc : Int) + off = (tgt : Int)) : X (n + 1) pc L (.int y :: .int x :: st) I J R = ((fx_cnd c x y → X n tgt L st I J R) ∧ (¬ fx_cnd c x y → X n (pc + 3) L st I J R)) := by
  rw [hX.1 _ _ _ _ _ _ _ _ _ hp hs]
  exact propext ⟨fun h => h.2, fun h => ⟨ha, h⟩⟩
theorem fx_q_ifne {X : Nat → fx_K} {n : Nat} {off : Int} {x : Int32} (hX : fx_isX nL M ev ret P pr stops K X) (hp : pr pc = some (.ifCond .ne off, tgt)) (hs : fx_stop stops pc = none) (ha : (pc : Int) + off = (tgt : Int)) : X (n + 1) pc L (.int x :: st) I J R = ((¬ x = 0 → X n tgt L st I J R) ∧ (x = 0 → X n (pc + 3) L st I J R)) := by
  rw [fx_q_if hX hp hs ha]
  exact propext ⟨fun h => ⟨h.1, fun z => h.2 (fun w => w z)⟩, fun h => ⟨h.1, fun z => h.2 (Classical.not_not.mp z)⟩⟩
theorem fx_q_icmpne {X : Nat → fx_K} {n : Nat} {off : Int} {x y : Int32} (hX : fx_isX nL M ev ret P pr stops K X) (hp : pr pc = some (.if_icmp .ne off, tgt)) (hs : fx_stop stops pc = none) (ha : (pc : Int) + off = (tgt : Int)) : X (n + 1) pc L (.int y :: .int x :: st) I J R = ((¬ x = y → X n tgt L st I J R) ∧ (x = y → X n (pc + 3) L st I J R)) := by
  rw [fx_q_icmp hX hp hs ha]
  exact propext ⟨fun h => ⟨h.1, fun z => h.2 (fun w => w z)⟩, fun h => ⟨h.1, fun z => h.2 (Classical.not_not.mp z)⟩⟩
theorem fx_q_sw {X : Nat → fx_K} {n : Nat} {d hi : Int} {offs : Array Int} {x : Int32} (hX : fx_isX nL M ev ret P pr stops K X) (hp : pr pc = some (.tableswitch d 0 hi offs, tgt)) (hs : fx_stop stops pc = none) (ha : (pc : Int) + d = (tgt : Int)) (hn : (offs.toList.length : Int) = hi - 0 + 1) : X (n + 1) pc L (.int x :: st) I J R = ((x.toInt < 0 ∨ hi < x.toInt → X n tgt L st I J R) ∧ fx_sw pc x.toInt 0 offs.toList (fun q => X n q L st I J R)) := by
  rw [hX.1 _ _ _ _ _ _ _ _ _ hp hs]
  exact propext ⟨fun h => ⟨h.2.1, h.2.2⟩, fun h => ⟨⟨ha, hn⟩, h.1, h.2⟩⟩
/-- readers that no check opens -/
def fx_oi (o : Option Value) (f : Int32 → Prop) : Prop := match o with
  | some (.int x) => f x
  | _ => False
def fx_ol (o : Option Value) (f : Int64 → Prop) : Prop := match o with
  | some (.long x) => f x
  | _ => False
def fx_or (o : Option Value) (f : Nat → Prop) : Prop := match o with
  | some (.ref x) => f x
  | _ => False
theorem fx_oi_s {x : Int32} {f : Int32 → Prop} : fx_oi (some (.int x)) f = f x := id rfl
theorem fx_ol_s {x : Int64} {f : Int64 → Prop} : fx_ol (some (.long x)) f = f x := id rfl
theorem fx_or_s {x : Nat} {f : Nat → Prop} : fx_or (some (.ref x)) f = f x := id rfl
def fx_do (o : Option fx_T) (st : List Value) (I : fx_MI) (J : fx_MJ) (R : fx_MR) (k : List Value → fx_MI → fx_MJ → fx_MR → Prop) : Prop := match o with
  | some t => t st I J R k
  | none => False
theorem fx_do_s {t : fx_T} {st : List Value} {I : fx_MI} {J : fx_MJ} {R : fx_MR} {k : List Value → fx_MI → fx_MJ → fx_MR → Prop} : fx_do (some t) st I J R k = t st I J R k := id rfl
theorem fx_lg_0 {a : Option Value} {l : List (Option Value)} : fx_lg (a :: l) 0 = a := id rfl
theorem fx_lg_s {a : Option Value} {l : List (Option Value)} {n : Nat} : fx_lg (a :: l) (n + 1) = fx_lg l n := id rfl
theorem fx_ls_0 {a v : Option Value} {l : List (Option Value)} : fx_ls (a :: l) 0 v = v :: l := id rfl
theorem fx_ls_s {a v : Option Value} {l : List (Option Value)} {n : Nat} : fx_ls (a :: l) (n + 1) v = a :: fx_ls l n v := id rfl
theorem fx_ls_n0 {v : Option Value} : fx_ls [] 0 v = [v] := id rfl
theorem fx_ls_ns {v : Option Value} {n : Nat} : fx_ls [] (n + 1) v = none :: fx_ls [] n v := id rfl
theorem fs_iconst {n : Int} : fx_S nL M ev ret P (.iconst n) tgt pc L st I J R k = k (pc + 1) L (.int (Int32.ofInt n) :: st) I J R := id rfl
theorem fs_bipush {n : Int} : fx_S nL M ev ret P (.bipush n) tgt pc L st I J R k = k (pc + 2) L (.int (Int8.ofInt n).toInt32 :: st) I J R := id rfl
theorem fs_sipush {n : Int} : fx_S nL M ev ret P (.sipush n) tgt pc L st I J R k = k (pc + 3) L (.int (Int16.ofInt n).toInt32 :: st) I J R := id rfl
theorem fs_lconst {n : _} : fx_S nL M ev ret P (.lconst n) tgt pc L st I J R k = k (pc + 1) L (.long (Int64.ofNat (n : Nat)) :: st) I J R := id rfl
theorem fs_iload_n0 : fx_S nL M ev ret P (.iload_n 0) tgt pc L st I J R k = match fx_lg L 0 with
    | some (.int x) => k (pc + 1) L (.int x :: st) I J R
    | _ => False := id rfl
theorem fs_iload_n1 : fx_S nL M ev ret P (.iload_n 1) tgt pc L st I J R k = match fx_lg L 1 with
    | some (.int x) => k (pc + 1) L (.int x :: st) I J R
    | _ => False := id rfl
theorem fs_iload_n2 : fx_S nL M ev ret P (.iload_n 2) tgt pc L st I J R k = match fx_lg L 2 with
    | some (.int x) => k (pc + 1) L (.int x :: st) I J R
    | _ => False := id rfl
theorem fs_iload_n3 : fx_S nL M ev ret P (.iload_n 3) tgt pc L st I J R k = match fx_lg L 3 with
    | some (.int x) => k (pc + 1) L (.int x :: st) I J R
    | _ => False := id rfl
theorem fs_lload_n0 : fx_S nL M ev ret P (.lload_n 0) tgt pc L st I J R k = match fx_lg L 0 with
    | some (.long x) => k (pc + 1) L (.long x :: st) I J R
    | _ => False := id rfl
theorem fs_lload_n1 : fx_S nL M ev ret P (.lload_n 1) tgt pc L st I J R k = match fx_lg L 1 with
    | some (.long x) => k (pc + 1) L (.long x :: st) I J R
    | _ => False := id rfl
theorem fs_lload_n2 : fx_S nL M ev ret P (.lload_n 2) tgt pc L st I J R k = match fx_lg L 2 with
    | some (.long x) => k (pc + 1) L (.long x :: st) I J R
    | _ => False := id rfl
theorem fs_lload_n3 : fx_S nL M ev ret P (.lload_n 3) tgt pc L st I J R k = match fx_lg L 3 with
    | some (.long x) => k (pc + 1) L (.long x :: st) I J R
    | _ => False := id rfl
theorem fs_aload_n0 : fx_S nL M ev ret P (.aload_n 0) tgt pc L st I J R k = match fx_lg L 0 with
    | some (.ref x) => k (pc + 1) L (.ref x :: st) I J R
    | _ => False := id rfl
theorem fs_aload_n1 : fx_S nL M ev ret P (.aload_n 1) tgt pc L st I J R k = match fx_lg L 1 with
    | some (.ref x) => k (pc + 1) L (.ref x :: st) I J R
    | _ => False := id rfl
theorem fs_aload_n2 : fx_S nL M ev ret P (.aload_n 2) tgt pc L st I J R k = match fx_lg L 2 with
    | some (.ref x) => k (pc + 1) L (.ref x :: st) I J R
    | _ => False := id rfl
theorem fs_aload_n3 : fx_S nL M ev ret P (.aload_n 3) tgt pc L st I J R k = match fx_lg L 3 with
    | some (.ref x) => k (pc + 1) L (.ref x :: st) I J R
    | _ => False := id rfl
theorem fs_istore_n0 {x : Int32} : fx_S nL M ev ret P (.istore_n 0) tgt pc L (.int x :: r) I J R k = ((0 < nL ∧ fx_nl L 0 = true) ∧ k (pc + 1) (fx_ls L 0 (some (.int x))) r I J R) := id rfl
theorem fs_istore_n1 {x : Int32} : fx_S nL M ev ret P (.istore_n 1) tgt pc L (.int x :: r) I J R k = ((1 < nL ∧ fx_nl L 1 = true) ∧ k (pc + 1) (fx_ls L 1 (some (.int x))) r I J R) := id rfl
theorem fs_istore_n2 {x : Int32} : fx_S nL M ev ret P (.istore_n 2) tgt pc L (.int x :: r) I J R k = ((2 < nL ∧ fx_nl L 2 = true) ∧ k (pc + 1) (fx_ls L 2 (some (.int x))) r I J R) := id rfl
theorem fs_istore_n3 {x : Int32} : fx_S nL M ev ret P (.istore_n 3) tgt pc L (.int x :: r) I J R k = ((3 < nL ∧ fx_nl L 3 = true) ∧ k (pc + 1) (fx_ls L 3 (some (.int x))) r I J R) := id rfl
theorem fs_astore_n0 {x : Nat} : fx_S nL M ev ret P (.astore_n 0) tgt pc L (.ref x :: r) I J R k = ((0 < nL ∧ fx_nl L 0 = true) ∧ k (pc + 1) (fx_ls L 0 (some (.ref x))) r I J R) := id rfl
theorem fs_astore_n1 {x : Nat} : fx_S nL M ev ret P (.astore_n 1) tgt pc L (.ref x :: r) I J R k = ((1 < nL ∧ fx_nl L 1 = true) ∧ k (pc + 1) (fx_ls L 1 (some (.ref x))) r I J R) := id rfl
theorem fs_astore_n2 {x : Nat} : fx_S nL M ev ret P (.astore_n 2) tgt pc L (.ref x :: r) I J R k = ((2 < nL ∧ fx_nl L 2 = true) ∧ k (pc + 1) (fx_ls L 2 (some (.ref x))) r I J R) := id rfl
theorem fs_astore_n3 {x : Nat} : fx_S nL M ev ret P (.astore_n 3) tgt pc L (.ref x :: r) I J R k = ((3 < nL ∧ fx_nl L 3 = true) ∧ k (pc + 1) (fx_ls L 3 (some (.ref x))) r I J R) := id rfl
theorem fs_lstore_n0 {x : Int64} : fx_S nL M ev ret P (.lstore_n 0) tgt pc L (.long x :: r) I J R k = ((0 + 1 < nL ∧ fx_nl L 0 = true) ∧ k (pc + 1) (fx_ls (fx_ls L 0 (some (.long x))) (0 + 1) none) r I J R) := id rfl
theorem fs_lstore_n1 {x : Int64} : fx_S nL M ev ret P (.lstore_n 1) tgt pc L (.long x :: r) I J R k = ((1 + 1 < nL ∧ fx_nl L 1 = true) ∧ k (pc + 1) (fx_ls (fx_ls L 1 (some (.long x))) (1 + 1) none) r I J R) := id rfl
theorem fs_lstore_n2 {x : Int64} : fx_S nL M ev ret P (.lstore_n 2) tgt pc L (.long x :: r) I J R k = ((2 + 1 < nL ∧ fx_nl L 2 = true) ∧ k (pc + 1) (fx_ls (fx_ls L 2 (some (.long x))) (2 + 1) none) r I J R) := id rfl
theorem fs_lstore_n3 {x : Int64} : fx_S nL M ev ret P (.lstore_n 3) tgt pc L (.long x :: r) I J R k = ((3 + 1 < nL ∧ fx_nl L 3 = true) ∧ k (pc + 1) (fx_ls (fx_ls L 3 (some (.long x))) (3 + 1) none) r I J R) := id rfl
theorem fs_iload {n : Nat} : fx_S nL M ev ret P (.iload n) tgt pc L st I J R k = match fx_lg L n with
    | some (.int x) => k (pc + 2) L (.int x :: st) I J R
    | _ => False := id rfl
theorem fs_lload {n : Nat} : fx_S nL M ev ret P (.lload n) tgt pc L st I J R k = match fx_lg L n with
    | some (.long x) => k (pc + 2) L (.long x :: st) I J R
    | _ => False := id rfl
theorem fs_aload {n : Nat} : fx_S nL M ev ret P (.aload n) tgt pc L st I J R k = match fx_lg L n with
    | some (.ref x) => k (pc + 2) L (.ref x :: st) I J R
    | _ => False := id rfl
theorem fs_istore {n : Nat} {x : Int32} : fx_S nL M ev ret P (.istore n) tgt pc L (.int x :: r) I J R k = ((n < nL ∧ fx_nl L n = true) ∧ k (pc + 2) (fx_ls L n (some (.int x))) r I J R) := id rfl
theorem fs_astore {n : Nat} {x : Nat} : fx_S nL M ev ret P (.astore n) tgt pc L (.ref x :: r) I J R k = ((n < nL ∧ fx_nl L n = true) ∧ k (pc + 2) (fx_ls L n (some (.ref x))) r I J R) := id rfl
theorem fs_lstore {n : Nat} {x : Int64} : fx_S nL M ev ret P (.lstore n) tgt pc L (.long x :: r) I J R k = ((n + 1 < nL ∧ fx_nl L n = true) ∧ k (pc + 2) (fx_ls (fx_ls L n (some (.long x))) (n + 1) none) r I J R) := id rfl
theorem fs_iinc {i : Nat} {n : Int} : fx_S nL M ev ret P (.iinc i n) tgt pc L st I J R k = match fx_lg L i with
    | some (.int x) => (i < nL ∧ fx_nl L i = true) ∧ k (pc + 3) (fx_ls L i (some (.int (x + Int32.ofInt n)))) st I J R
    | _ => False := id rfl
theorem fs_iadd {y : Int32} {x : Int32} : fx_S nL M ev ret P (.iadd) tgt pc L (.int y :: .int x :: r) I J R k = k (pc + 1) L (.int (x + y) :: r) I J R := id rfl
theorem fs_isub {y : Int32} {x : Int32} : fx_S nL M ev ret P (.isub) tgt pc L (.int y :: .int x :: r) I J R k = k (pc + 1) L (.int (x - y) :: r) I J R := id rfl
theorem fs_imul {y : Int32} {x : Int32} : fx_S nL M ev ret P (.imul) tgt pc L (.int y :: .int x :: r) I J R k = k (pc + 1) L (.int (x * y) :: r) I J R := id rfl
theorem fs_iand {y : Int32} {x : Int32} : fx_S nL M ev ret P (.iand) tgt pc L (.int y :: .int x :: r) I J R k = k (pc + 1) L (.int (x &&& y) :: r) I J R := id rfl
theorem fs_ior {y : Int32} {x : Int32} : fx_S nL M ev ret P (.ior) tgt pc L (.int y :: .int x :: r) I J R k = k (pc + 1) L (.int (x ||| y) :: r) I J R := id rfl
theorem fs_ixor {y : Int32} {x : Int32} : fx_S nL M ev ret P (.ixor) tgt pc L (.int y :: .int x :: r) I J R k = k (pc + 1) L (.int (x ^^^ y) :: r) I J R := id rfl
theorem fs_ishl {y : Int32} {x : Int32} : fx_S nL M ev ret P (.ishl) tgt pc L (.int y :: .int x :: r) I J R k = k (pc + 1) L (.int (x <<< (y &&& 31)) :: r) I J R := id rfl
theorem fs_ishr {y : Int32} {x : Int32} : fx_S nL M ev ret P (.ishr) tgt pc L (.int y :: .int x :: r) I J R k = k (pc + 1) L (.int (x >>> (y &&& 31)) :: r) I J R := id rfl
theorem fs_iushr {y : Int32} {x : Int32} : fx_S nL M ev ret P (.iushr) tgt pc L (.int y :: .int x :: r) I J R k = k (pc + 1) L (.int ((x.toUInt32 >>> (y.toUInt32 &&& Int32.toUInt32 31)).toInt32) :: r) I J R := id rfl
theorem fs_idiv {y : Int32} {x : Int32} : fx_S nL M ev ret P (.idiv) tgt pc L (.int y :: .int x :: r) I J R k = (¬ y = 0 ∧ k (pc + 1) L (.int (x / y) :: r) I J R) := id rfl
theorem fs_irem {y : Int32} {x : Int32} : fx_S nL M ev ret P (.irem) tgt pc L (.int y :: .int x :: r) I J R k = (¬ y = 0 ∧ k (pc + 1) L (.int (x - x / y * y) :: r) I J R) := id rfl
theorem fs_ladd {y : Int64} {x : Int64} : fx_S nL M ev ret P (.ladd) tgt pc L (.long y :: .long x :: r) I J R k = k (pc + 1) L (.long (x + y) :: r) I J R := id rfl
theorem fs_lsub {y : Int64} {x : Int64} : fx_S nL M ev ret P (.lsub) tgt pc L (.long y :: .long x :: r) I J R k = k (pc + 1) L (.long (x - y) :: r) I J R := id rfl
theorem fs_lmul {y : Int64} {x : Int64} : fx_S nL M ev ret P (.lmul) tgt pc L (.long y :: .long x :: r) I J R k = k (pc + 1) L (.long (x * y) :: r) I J R := id rfl
theorem fs_land {y : Int64} {x : Int64} : fx_S nL M ev ret P (.land) tgt pc L (.long y :: .long x :: r) I J R k = k (pc + 1) L (.long (x &&& y) :: r) I J R := id rfl
theorem fs_lor {y : Int64} {x : Int64} : fx_S nL M ev ret P (.lor) tgt pc L (.long y :: .long x :: r) I J R k = k (pc + 1) L (.long (x ||| y) :: r) I J R := id rfl
theorem fs_lxor {y : Int64} {x : Int64} : fx_S nL M ev ret P (.lxor) tgt pc L (.long y :: .long x :: r) I J R k = k (pc + 1) L (.long (x ^^^ y) :: r) I J R := id rfl
theorem fs_lshl {y : Int32} {x : Int64} : fx_S nL M ev ret P (.lshl) tgt pc L (.int y :: .long x :: r) I J R k = k (pc + 1) L (.long (x <<< (y.toInt64 &&& 63)) :: r) I J R := id rfl
theorem fs_lshr {y : Int32} {x : Int64} : fx_S nL M ev ret P (.lshr) tgt pc L (.int y :: .long x :: r) I J R k = k (pc + 1) L (.long (x >>> (y.toInt64 &&& 63)) :: r) I J R := id rfl
theorem fs_lushr {y : Int32} {x : Int64} : fx_S nL M ev ret P (.lushr) tgt pc L (.int y :: .long x :: r) I J R k = k (pc + 1) L (.long ((x.toUInt64 >>> (y.toInt64.toUInt64 &&& Int64.toUInt64 63)).toInt64) :: r) I J R := id rfl
theorem fs_lcmp {y : Int64} {x : Int64} : fx_S nL M ev ret P (.lcmp) tgt pc L (.long y :: .long x :: r) I J R k = k (pc + 1) L (.int (lg_cmp x y) :: r) I J R := id rfl
theorem fs_ineg {x : Int32} : fx_S nL M ev ret P (.ineg) tgt pc L (.int x :: r) I J R k = k (pc + 1) L (.int (-x) :: r) I J R := id rfl
theorem fs_lneg {x : Int64} : fx_S nL M ev ret P (.lneg) tgt pc L (.long x :: r) I J R k = k (pc + 1) L (.long (-x) :: r) I J R := id rfl
theorem fs_i2l {x : Int32} : fx_S nL M ev ret P (.i2l) tgt pc L (.int x :: r) I J R k = k (pc + 1) L (.long x.toInt64 :: r) I J R := id rfl
theorem fs_l2i {x : Int64} : fx_S nL M ev ret P (.l2i) tgt pc L (.long x :: r) I J R k = k (pc + 1) L (.int x.toInt32 :: r) I J R := id rfl
theorem fs_i2b {x : Int32} : fx_S nL M ev ret P (.i2b) tgt pc L (.int x :: r) I J R k = k (pc + 1) L (.int x.toInt8.toInt32 :: r) I J R := id rfl
theorem fs_dup {v : Value} : fx_S nL M ev ret P (.dup) tgt pc L (v :: r) I J R k = (v.category = 1 ∧ k (pc + 1) L (v :: v :: r) I J R) := id rfl
theorem fs_pop {v : Value} : fx_S nL M ev ret P (.pop) tgt pc L (v :: r) I J R k = (v.category = 1 ∧ k (pc + 1) L r I J R) := id rfl
theorem fs_dup2 {x : Int64} : fx_S nL M ev ret P (.dup2) tgt pc L (.long x :: r) I J R k = k (pc + 1) L (.long x :: .long x :: r) I J R := id rfl
theorem fs_dup2_i {x : Int32} {y : Int32} : fx_S nL M ev ret P .dup2 tgt pc L (.int x :: .int y :: r) I J R k = (((Value.int x).category = 1 ∧ (Value.int y).category = 1) ∧ k (pc + 1) L (.int x :: .int y :: .int x :: .int y :: r) I J R) := id rfl
theorem fs_dup2_r {x : Int32} {y : Nat} : fx_S nL M ev ret P .dup2 tgt pc L (.int x :: .ref y :: r) I J R k = (((Value.int x).category = 1 ∧ (Value.ref y).category = 1) ∧ k (pc + 1) L (.int x :: .ref y :: .int x :: .ref y :: r) I J R) := id rfl
theorem fs_goto {off : Int} : fx_S nL M ev ret P (.goto off) tgt pc L st I J R k = ((pc : Int) + off = (tgt : Int) ∧ k tgt L st I J R) := id rfl
theorem fs_ifCond {c : Jvm.ClassFile.Cond} {off : Int} {x : Int32} : fx_S nL M ev ret P (.ifCond c off) tgt pc L (.int x :: r) I J R k = ((pc : Int) + off = (tgt : Int) ∧ (fx_cnd c x 0 → k tgt L r I J R) ∧ (¬ fx_cnd c x 0 → k (pc + 3) L r I J R)) := id rfl
theorem fs_if_icmp {c : Jvm.ClassFile.Cond} {off : Int} {y : Int32} {x : Int32} : fx_S nL M ev ret P (.if_icmp c off) tgt pc L (.int y :: .int x :: r) I J R k = ((pc : Int) + off = (tgt : Int) ∧ (fx_cnd c x y → k tgt L r I J R) ∧ (¬ fx_cnd c x y → k (pc + 3) L r I J R)) := id rfl
theorem fs_tableswitch {d : Int} {lo : Int} {hi : Int} {offs : Array Int} {x : Int32} : fx_S nL M ev ret P (.tableswitch d lo hi offs) tgt pc L (.int x :: r) I J R k = (((pc : Int) + d = (tgt : Int) ∧ (offs.toList.length : Int) = hi - lo + 1) ∧ (x.toInt < lo ∨ hi < x.toInt → k tgt L r I J R) ∧ fx_sw pc x.toInt lo offs.toList (fun q => k q L r I J R)) := id rfl
theorem fs_iaload {i : Int32} {q : Nat} : fx_S nL M ev ret P (.iaload) tgt pc L (.int i :: .ref q :: r) I J R k = (fx_in M q 0 i ∧ k (pc + 1) L (.int (I q i.toNatClampNeg) :: r) I J R) := id rfl
theorem fs_baload {i : Int32} {q : Nat} : fx_S nL M ev ret P (.baload) tgt pc L (.int i :: .ref q :: r) I J R k = (fx_in M q 2 i ∧ k (pc + 1) L (.int (I q i.toNatClampNeg) :: r) I J R) := id rfl
theorem fs_laload {i : Int32} {q : Nat} : fx_S nL M ev ret P (.laload) tgt pc L (.int i :: .ref q :: r) I J R k = (fx_in M q 1 i ∧ k (pc + 1) L (.long (J q i.toNatClampNeg) :: r) I J R) := id rfl
theorem fs_aaload {i : Int32} {q : Nat} : fx_S nL M ev ret P (.aaload) tgt pc L (.int i :: .ref q :: r) I J R k = (fx_in M q 3 i ∧ k (pc + 1) L (va_rf (R q i.toNatClampNeg) :: r) I J R) := id rfl
theorem fs_iastore {x : Int32} {i : Int32} {q : Nat} : fx_S nL M ev ret P (.iastore) tgt pc L (.int x :: .int i :: .ref q :: r) I J R k = (fx_in M q 0 i ∧ k (pc + 1) L r (fx_up I q i.toNatClampNeg x) J R) := id rfl
theorem fs_bastore {x : Int32} {i : Int32} {q : Nat} : fx_S nL M ev ret P (.bastore) tgt pc L (.int x :: .int i :: .ref q :: r) I J R k = (fx_in M q 2 i ∧ k (pc + 1) L r (fx_up I q i.toNatClampNeg (vp_nar .byte x)) J R) := id rfl
theorem fs_lastore {x : Int64} {i : Int32} {q : Nat} : fx_S nL M ev ret P (.lastore) tgt pc L (.long x :: .int i :: .ref q :: r) I J R k = (fx_in M q 1 i ∧ k (pc + 1) L r I (fx_up J q i.toNatClampNeg x) R) := id rfl
theorem fs_ireturn {x : Int32} : fx_S nL M ev ret P (.ireturn) tgt pc L [.int x] I J R k = (((match ret with | some ty => narrow ty (.int x) = .int x | none => False) ∧ P (some (.int x)) I J R)) := id rfl
theorem fs_lreturn {x : Int64} : fx_S nL M ev ret P (.lreturn) tgt pc L [.long x] I J R k = (ret = some .long ∧ P (some (.long x)) I J R) := id rfl
theorem fs_return_ : fx_S nL M ev ret P (.return_) tgt pc L [] I J R k = (ret = none ∧ P none I J R) := id rfl
theorem fs_getfield {i : Nat} : fx_S nL M ev ret P (.getfield i) tgt pc L st I J R k = fx_do (fx_lk ev (.getfield i)) st I J R (fun st' I' J' R' => k (pc + 3) L st' I' J' R') := id rfl
theorem fs_putfield {i : Nat} : fx_S nL M ev ret P (.putfield i) tgt pc L st I J R k = fx_do (fx_lk ev (.putfield i)) st I J R (fun st' I' J' R' => k (pc + 3) L st' I' J' R') := id rfl
theorem fs_invokevirtual {i : Nat} : fx_S nL M ev ret P (.invokevirtual i) tgt pc L st I J R k = fx_do (fx_lk ev (.invokevirtual i)) st I J R (fun st' I' J' R' => k (pc + 3) L st' I' J' R') := id rfl
theorem fs_invokestatic {i : Nat} : fx_S nL M ev ret P (.invokestatic i) tgt pc L st I J R k = fx_do (fx_lk ev (.invokestatic i)) st I J R (fun st' I' J' R' => k (pc + 3) L st' I' J' R') := id rfl
theorem fs_invokespecial {i : Nat} : fx_S nL M ev ret P (.invokespecial i) tgt pc L st I J R k = fx_do (fx_lk ev (.invokespecial i)) st I J R (fun st' I' J' R' => k (pc + 3) L st' I' J' R') := id rfl
theorem fs_getstatic {i : Nat} : fx_S nL M ev ret P (.getstatic i) tgt pc L st I J R k = fx_do (fx_lk ev (.getstatic i)) st I J R (fun st' I' J' R' => k (pc + 3) L st' I' J' R') := id rfl
theorem fs_ldc {i : Nat} : fx_S nL M ev ret P (.ldc i) tgt pc L st I J R k = fx_do (fx_lk ev (.ldc i)) st I J R (fun st' I' J' R' => k (pc + 2) L st' I' J' R') := id rfl
theorem fs_ldc2_w {i : Nat} : fx_S nL M ev ret P (.ldc2_w i) tgt pc L st I J R k = fx_do (fx_lk ev (.ldc2_w i)) st I J R (fun st' I' J' R' => k (pc + 3) L st' I' J' R') := id rfl
end FSR
