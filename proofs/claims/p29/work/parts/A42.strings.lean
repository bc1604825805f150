/-! the JDK's length and charAt over the two words (own work) -/
def sx_len : List Nat := [3, 4]
def sx_byt : List (List Int32) := [[97, 110, 121], [110, 111, 110, 101]]
def sx_St (ad adV : Nat → Nat) (A : Nat → Prop) (U : State) (H : Heap) : Prop := vk_S 2 sx_len sx_byt ad adV A U H ∧ va_Z "java/lang/String" "COMPACT_STRINGS" "Z" (.int 1) A U H ∧ va_Zq "jdk/internal/util/Preconditions" "SIOOBE_FORMATTER" "Ljava/util/function/BiFunction;" A U H
section SX_
variable {ad adV : Nat → Nat} {A B : Nat → Prop} {u U : State} {H H1 : Heap}
theorem sx_St.moved (hvm : u.vm.Alike U.vm) (h : sx_St ad adV A u H) : sx_St ad adV A U H := ⟨vk_S.moved hvm h.1, va_Z.moved hvm h.2.1, va_Zq.moved hvm h.2.2⟩
theorem sx_St.kept (h : sx_St ad adV A U H) (hq : ∀ a : Nat, a < H.size → ¬ A a → H1[a]? = H[a]?) : sx_St ad adV A U H1 := ⟨h.1.kept hq, h.2.1.kept hq, h.2.2.kept hq⟩
end SX_
