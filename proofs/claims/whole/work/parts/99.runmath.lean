/-! the search as a whole, as mathematics (own work) -/
theorem sol_NTc {w h : Nat} {f : Nat → Int32} {u v p : Nat → Nat} (hok : ∀ l, l < 16 → okl 3 f l) (hw : w ≤ 8) (hh : h ≤ 8) (hu : ∀ k, k < w * h → u k < 16) (hv : ∀ k, k < w * h → v k < 16) (hN : NTc w h f 2 u v) : sol w h f u p ↔ sol w h f v p := by
  constructor
  · intro hs
    obtain ⟨r, h1, h2, h3⟩ := sol_good hok hw hh hu hs
    refine ⟨fun k hk => ?_, hs.2⟩
    have hp4 := bit_lt (hu k hk) (hs.1 k hk)
    refine hN.2.2 r (fun k _ => h1 k) h2 k hk _ hp4 ?_
    rw [h3 k hk, bit_p2 _ hp4 _ hp4]
  · exact fun hs => ⟨fun k hk => hN.1 k hk _ (bit_lt (hv k hk) (hs.1 k hk)) (hs.1 k hk), hs.2⟩
theorem sol_NFc {w h : Nat} {f : Nat → Int32} {u p : Nat → Nat} (hok : ∀ l, l < 16 → okl 3 f l) (hw : w ≤ 8) (hh : h ≤ 8) (hu : ∀ k, k < w * h → u k < 16) (hN : NFc w h f 2 u) : ¬ sol w h f u p := fun hs => by
  obtain ⟨r, h1, h2, -⟩ := sol_good hok hw hh hu hs
  exact hN r (fun k _ => h1 k) h2
