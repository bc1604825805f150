/-! contracts of methods that may make a new dead table (own work) -/
/-- where a method's body stands -/
def fx_Cx (own : String) (ws : List Cond) (cc : ByteArray) (nL : Nat) (ret : Option FieldType) (p : Program) (s : State) (m : MethodId) (args : Array Value) (meth : Method) (c : Code) : Prop :=
  p.tables.exec = Jvm.exec ∧ c.code = cc ∧ c.maxLocals = nL ∧ s.vm.findClass own = some m.cls ∧ (∀ w ∈ ws, w.before args s = true) ∧ meth.sig.returnType = ret ∧ meth.locks = false ∧ fx_Nw s
section GM
variable {p : Program} {l : Launch} {e : Env} {rm : Room} {s : State} {m : MethodId} {args : Array Value} {below : List Frame} {meth : Method} {c : Code} {n0 n : Nat} {D : va_G} {cA : Nat → ClassId} {al0 al : Nat → Nat} {A : Nat → Prop} {Post : Nat → Option Value → fx_MI → fx_MJ → fx_MR → Prop} {nL kc ks : Nat} {own : String} {ws : List Cond} {cc : ByteArray} {ret : Option FieldType} {ev : fx_Env} {P : fx_P} {pr : fx_Pr}
end GM
