/-! the reference: the answers of line and block as functions; digest -/
noncomputable def cntF (w h : Nat) (f : Nat → Int32) (l : Nat) : Nat := @dite Nat (∃ N, CNT w h f l N) (Classical.propDecidable _) (fun x => x.choose) (fun _ => 0)
theorem cntF_eq {w h : Nat} {f : Nat → Int32} {l N : Nat} (hc : CNT w h f l N) : cntF w h f l = N := by
  have hx : ∃ N, CNT w h f l N := ⟨N, hc⟩
  unfold cntF
  rw [dif_pos hx]
  exact CNT_one hx.choose_spec hc
noncomputable def esF (w h : Nat) (f : Nat → Int32) (l b : Nat) : Nat := @dite Nat (∃ a, Es w h f (mkN f) l b a) (Classical.propDecidable _) (fun x => x.choose) (fun _ => 0)
theorem esF_eq {w h : Nat} {f : Nat → Int32} {l b a : Nat} (hc : Es w h f (mkN f) l b a) : esF w h f l b = a := by
  have hx : ∃ a, Es w h f (mkN f) l b a := ⟨a, hc⟩
  unfold esF
  rw [dif_pos hx]
  obtain ⟨⟨s, h1, h2⟩, h3⟩ := hx.choose_spec
  obtain ⟨⟨t, g1, g2⟩, g3⟩ := hc
  have := h3 t g1
  have := g3 s h1
  omega
noncomputable def lsF (w h : Nat) (f : Nat → Int32) (l b : Nat) : Nat := @dite Nat (∃ a, Ls w h f (mkN f) l b a) (Classical.propDecidable _) (fun x => x.choose) (fun _ => 0)
theorem lsF_eq {w h : Nat} {f : Nat → Int32} {l b a : Nat} (hc : Ls w h f (mkN f) l b a) : lsF w h f l b = a := by
  have hx : ∃ a, Ls w h f (mkN f) l b a := ⟨a, hc⟩
  unfold lsF
  rw [dif_pos hx]
  obtain ⟨⟨s, h1, h2⟩, h3⟩ := hx.choose_spec
  obtain ⟨⟨t, g1, g2⟩, g3⟩ := hc
  have := h3 t g1
  have := g3 s h1
  omega
noncomputable def lineV (w h : Nat) (f : Nat → Int32) (l k : Nat) : Int32 := match k with
  | 0 => if f l = nI 1 then nI (manyN f l) else -nI 1
  | 1 => nI (roomN f l (manyN f l))
  | 2 => if f l = nI 1 then nI (cntF w h f l) else nI (prN w h f l (cellsN w h l))
  | 3 => nI (knownN w h f l (cellsN w h l))
  | _ => nI (wrN w h f l)
noncomputable def blockV (w h : Nat) (f : Nat → Int32) (l b k : Nat) : Int32 := match k with
  | 0 => nI (lenN f l b)
  | 1 => nI (colN f l b)
  | 2 => if wrN w h f l = 1 then -nI 1 else nI (esF w h f l b)
  | _ => if wrN w h f l = 1 then -nI 1 else nI (lsF w h f l b)
theorem lineV_2 {w h : Nat} {f : Nat → Int32} {l : Nat} : lineV w h f l 2 = if f l = nI 1 then nI (cntF w h f l) else nI (prN w h f l (cellsN w h l)) := rfl
theorem blockV_2 {w h : Nat} {f : Nat → Int32} {l b : Nat} : blockV w h f l b 2 = if wrN w h f l = 1 then -nI 1 else nI (esF w h f l b) := rfl
theorem blockV_3 {w h : Nat} {f : Nat → Int32} {l b : Nat} : blockV w h f l b 3 = if wrN w h f l = 1 then -nI 1 else nI (lsF w h f l b) := rfl
