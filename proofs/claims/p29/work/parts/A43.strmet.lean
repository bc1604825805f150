/-! contracts of methods that meet the two words, at the pseudo-places 140 and 141 (own work) -/
def fx_St (al : Nat → Nat) (A : Nat → Prop) (U : State) (H : Heap) : Prop := (∃ adV, sx_St (fun i => al (140 + i)) adV A U H) ∧ vk_R R_ClueText 57 "any" (al 140) U ∧ vk_R R_ClueText 63 "none" (al 141) U
section FT_
variable {al : Nat → Nat} {A B : Nat → Prop} {s u U : State} {H H1 : Heap}
theorem fx_St.warm (hW : s.WarmedH U.vm) (h : fx_St al A s H) : fx_St al A U H := by
  obtain ⟨⟨adV, h1⟩, h2, h3⟩ := h
  exact ⟨⟨adV, h1.moved hW.alike⟩, h2.warm hW, h3.warm hW⟩
theorem fx_St.same (hv : U.vm = u.vm) (h : fx_St al A u H) : fx_St al A U H := by
  obtain ⟨⟨adV, h1⟩, h2, h3⟩ := h
  exact ⟨⟨adV, h1.moved (by rw [hv]; exact Vm.Alike.refl _)⟩, h2.same hv, h3.same hv⟩
theorem fx_St.kept (h : fx_St al A U H) (hq : ∀ a : Nat, a < H.size → ¬ A a → H1[a]? = H[a]?) : fx_St al A U H1 := by
  obtain ⟨⟨adV, h1⟩, h2⟩ := h
  exact ⟨⟨adV, h1.kept hq⟩, h2⟩
end FT_
section FS_
variable {l : Launch} {Rm : Room} {M : fx_M} {nL : Nat} {cc : ByteArray} {own : String} {ws : List Cond}
end FS_
/-! the words' own instructions: the constants, their lengths, their letters -/
section SI_
variable {l : Launch} {c0 : Cond} {rm : Room} {n nL : Nat} {cc : ByteArray}
end SI_
