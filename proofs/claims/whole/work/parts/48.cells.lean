/-! narrowing, of the cells of the puzzle alone -/
theorem PF_uc {w h : Nat} {f : Nat → Int32} {u u' : Nat → Nat} {l : Nat} {s : Nat → Nat} (hw : w ≤ 8) (hh : h ≤ 8) (hl : l < h + w) (he : ∀ k, k < w * h → u k = u' k) : PF w h f u l s ↔ PF w h f u' l s := by
  unfold PF
  refine and_congr Iff.rfl ⟨fun g i hi => ?_, fun g i hi => ?_⟩
  · rw [← he _ (atN_lt hw hh hl hi)]
    exact g i hi
  · rw [he _ (atN_lt hw hh hl hi)]
    exact g i hi
theorem BT_uc {w h lev : Nat} {f : Nat → Int32} {u u' : Nat → Nat} {l i x : Nat} (hw : w ≤ 8) (hh : h ≤ 8) (hl : l < h + w) (hi : i < cellsN w h l) (he : ∀ k, k < w * h → u k = u' k) : BT w h f lev u l i x ↔ BT w h f lev u' l i x := by
  unfold BT B1 B2 Es Ls
  rw [he _ (atN_lt hw hh hl hi)]
  simp only [PF_uc hw hh hl he]
theorem good_uc {w h lev : Nat} {f : Nat → Int32} {u u' : Nat → Nat} (hw : w ≤ 8) (hh : h ≤ 8) (he : ∀ k, k < w * h → u k = u' k) : good w h f lev u ↔ good w h f lev u' := by
  have key : ∀ {u u' : Nat → Nat}, (∀ k, k < w * h → u k = u' k) → good w h f lev u → good w h f lev u' := by
    intro u u' he g l hl hn
    obtain ⟨⟨s, hs⟩, g2⟩ := g l hl hn
    refine ⟨⟨s, (PF_uc hw hh hl he).mp hs⟩, fun i hi => ?_⟩
    rw [← he _ (atN_lt hw hh hl hi)]
    exact (BT_uc hw hh hl hi he).mp (g2 i hi)
  exact ⟨key he, key (fun k hk => (he k hk).symm)⟩
/-- zero beyond the cells -/
def cutU (n : Nat) (u : Nat → Nat) : Nat → Nat := fun k => if k < n then u k else 0
theorem cutU_eq {n : Nat} {u : Nat → Nat} : ∀ k, k < n → cutU n u k = u k := fun k hk => if_pos hk
theorem cutU_sub {n : Nat} {r u : Nat → Nat} (h : ∀ k, k < n → sub (r k) (u k)) : ∀ k, sub (cutU n r k) (u k) := fun k => by
  unfold cutU
  by_cases hk : k < n
  · rw [if_pos hk]
    exact h k hk
  · rw [if_neg hk]
    intro c hc hb
    rw [Nat.zero_div] at hb
    cases hb
theorem cutU_16 {n : Nat} {u : Nat → Nat} (h : ∀ k, k < n → u k < 16) : ∀ k, cutU n u k < 16 := fun k => by
  unfold cutU
  by_cases hk : k < n
  · rw [if_pos hk]
    exact h k hk
  · rw [if_neg hk]
    omega
def NTc (w h : Nat) (f : Nat → Int32) (lev : Nat) (u v : Nat → Nat) : Prop := (∀ k, k < w * h → sub (v k) (u k)) ∧ good w h f lev v ∧ ∀ r, (∀ k, k < w * h → sub (r k) (u k)) → good w h f lev r → ∀ k, k < w * h → sub (r k) (v k)
def NFc (w h : Nat) (f : Nat → Int32) (lev : Nat) (u : Nat → Nat) : Prop := ∀ r, (∀ k, k < w * h → sub (r k) (u k)) → ¬ good w h f lev r
theorem NT_c {w h lev : Nat} {f : Nat → Int32} {u v : Nat → Nat} (hw : w ≤ 8) (hh : h ≤ 8) (hN : NT w h f lev u v) : NTc w h f lev u v := ⟨fun k _ => hN.1 k, hN.2.1, fun r hr hg k hk => by
  have := hN.2.2.1 (cutU (w * h) r) (cutU_sub hr) ((good_uc hw hh cutU_eq).mpr hg) k
  rw [cutU_eq k hk] at this
  exact this⟩
theorem NF_c {w h lev : Nat} {f : Nat → Int32} {u : Nat → Nat} (hw : w ≤ 8) (hh : h ≤ 8) : NF w h f lev u ↔ NFc w h f lev u := ⟨fun hN r hr hg => hN (cutU (w * h) r) (cutU_sub hr) ((good_uc hw hh cutU_eq).mpr hg), fun hN r hr hg => hN r (fun k _ => hr k) hg⟩
theorem NFc_uc {w h lev : Nat} {f : Nat → Int32} {u u' : Nat → Nat} (he : ∀ k, k < w * h → u k = u' k) : NFc w h f lev u ↔ NFc w h f lev u' := by
  constructor
  · intro hN r hr hg
    exact hN r (fun k hk => by rw [he k hk]; exact hr k hk) hg
  · intro hN r hr hg
    exact hN r (fun k hk => by rw [← he k hk]; exact hr k hk) hg
theorem NF_uc {w h lev : Nat} {f : Nat → Int32} {u u' : Nat → Nat} (hw : w ≤ 8) (hh : h ≤ 8) (he : ∀ k, k < w * h → u k = u' k) : NF w h f lev u ↔ NF w h f lev u' := by rw [NF_c hw hh, NF_c hw hh, NFc_uc he]
theorem NTc_uc {w h lev : Nat} {f : Nat → Int32} {u u' v v' : Nat → Nat} (hw : w ≤ 8) (hh : h ≤ 8) (he : ∀ k, k < w * h → u k = u' k) (hv : ∀ k, k < w * h → v k = v' k) (hN : NTc w h f lev u v) : NTc w h f lev u' v' := by
  refine ⟨fun k hk => by rw [← he k hk, ← hv k hk]; exact hN.1 k hk, (good_uc hw hh hv).mp hN.2.1, fun r hr hg k hk => ?_⟩
  rw [← hv k hk]
  exact hN.2.2 r (fun k hk => by rw [he k hk]; exact hr k hk) hg k hk
theorem NTc_one {w h lev : Nat} {f : Nat → Int32} {u v v' : Nat → Nat} (hv : ∀ k, k < w * h → v k < 16) (hv' : ∀ k, k < w * h → v' k < 16) (h1 : NTc w h f lev u v) (h2 : NTc w h f lev u v') : ∀ k, k < w * h → v k = v' k := fun k hk => sub_anti (hv k hk) (hv' k hk) (h2.2.2 v h1.1 h1.2.1 k hk) (h1.2.2 v' h2.1 h2.2.1 k hk)
theorem NTc_NFc {w h lev : Nat} {f : Nat → Int32} {u v : Nat → Nat} (h1 : NTc w h f lev u v) : ¬ NFc w h f lev u := fun h2 => h2 v h1.1 h1.2.1
theorem updM_uc {n : Nat} {u u' : Nat → Nat} (he : ∀ k, k < n → u k = u' k) (j x : Nat) : ∀ k, k < n → updM u j x k = updM u' j x k := fun k hk => by
  unfold updM
  rw [he k hk]
theorem ref2_uc {w h k c : Nat} {f : Nat → Int32} {u u' : Nat → Nat} (hw : w ≤ 8) (hh : h ≤ 8) (hk : k < w * h) (he : ∀ k, k < w * h → u k = u' k) : ref2 w h f u k c ↔ ref2 w h f u' k c := by
  unfold ref2 opn
  rw [he k hk, NF_uc hw hh (updM_uc he k (2 ^ c))]
theorem goodT_uc {w h c : Nat} {f : Nat → Int32} {u u' : Nat → Nat} (hw : w ≤ 8) (hh : h ≤ 8) (he : ∀ k, k < w * h → u k = u' k) : goodT w h c f u ↔ goodT w h c f u' := by
  unfold goodT
  rw [good_uc hw hh he]
  refine and_congr Iff.rfl ⟨fun g k' c' h1 h2 z => g k' c' h1 h2 ((ref2_uc hw hh h1 he).mpr z), fun g k' c' h1 h2 z => g k' c' h1 h2 ((ref2_uc hw hh h1 he).mp z)⟩
def TTc (w h c : Nat) (f : Nat → Int32) (u v : Nat → Nat) : Prop := (∀ k, k < w * h → sub (v k) (u k)) ∧ goodT w h c f v ∧ ∀ r, (∀ k, k < w * h → sub (r k) (u k)) → (∀ k, k < w * h → r k < 16) → goodT w h c f r → ∀ k, k < w * h → sub (r k) (v k)
def TFc (w h c : Nat) (f : Nat → Int32) (u : Nat → Nat) : Prop := ∀ r, (∀ k, k < w * h → sub (r k) (u k)) → (∀ k, k < w * h → r k < 16) → ¬ goodT w h c f r
theorem TT_c {w h c : Nat} {f : Nat → Int32} {u v : Nat → Nat} (hw : w ≤ 8) (hh : h ≤ 8) (hN : TT w h c f u v) : TTc w h c f u v := ⟨fun k _ => hN.1 k, hN.2.1, fun r hr h16 hg k hk => by
  have := hN.2.2.1 (cutU (w * h) r) (cutU_sub hr) (cutU_16 h16) ((goodT_uc hw hh cutU_eq).mpr hg) k
  rw [cutU_eq k hk] at this
  exact this⟩
theorem TF_c {w h c : Nat} {f : Nat → Int32} {u : Nat → Nat} (hw : w ≤ 8) (hh : h ≤ 8) : TF w h c f u ↔ TFc w h c f u := ⟨fun hN r hr h16 hg => hN (cutU (w * h) r) (cutU_sub hr) (cutU_16 h16) ((goodT_uc hw hh cutU_eq).mpr hg), fun hN r hr h16 hg => hN r (fun k _ => hr k) (fun k _ => h16 k) hg⟩
theorem TFc_uc {w h c : Nat} {f : Nat → Int32} {u u' : Nat → Nat} (he : ∀ k, k < w * h → u k = u' k) : TFc w h c f u ↔ TFc w h c f u' := by
  constructor
  · intro hN r hr h16 hg
    exact hN r (fun k hk => by rw [he k hk]; exact hr k hk) h16 hg
  · intro hN r hr h16 hg
    exact hN r (fun k hk => by rw [← he k hk]; exact hr k hk) h16 hg
theorem TTc_uc {w h c : Nat} {f : Nat → Int32} {u u' v v' : Nat → Nat} (hw : w ≤ 8) (hh : h ≤ 8) (he : ∀ k, k < w * h → u k = u' k) (hv : ∀ k, k < w * h → v k = v' k) (hN : TTc w h c f u v) : TTc w h c f u' v' := by
  refine ⟨fun k hk => by rw [← he k hk, ← hv k hk]; exact hN.1 k hk, (goodT_uc hw hh hv).mp hN.2.1, fun r hr h16 hg k hk => ?_⟩
  rw [← hv k hk]
  exact hN.2.2 r (fun k hk => by rw [he k hk]; exact hr k hk) h16 hg k hk
theorem TTc_one {w h c : Nat} {f : Nat → Int32} {u v v' : Nat → Nat} (hv : ∀ k, k < w * h → v k < 16) (hv' : ∀ k, k < w * h → v' k < 16) (h1 : TTc w h c f u v) (h2 : TTc w h c f u v') : ∀ k, k < w * h → v k = v' k := fun k hk => sub_anti (hv k hk) (hv' k hk) (h2.2.2 v h1.1 hv h1.2.1 k hk) (h1.2.2 v' h2.1 hv' h2.2.1 k hk)
theorem TTc_TFc {w h c : Nat} {f : Nat → Int32} {u v : Nat → Nat} (hv : ∀ k, k < w * h → v k < 16) (h1 : TTc w h c f u v) : ¬ TFc w h c f u := fun h2 => h2 v h1.1 hv h1.2.1
/-- at a level -/
def NLc (w h c : Nat) (f : Nat → Int32) (lev : Nat) (u v : Nat → Nat) : Prop := (∀ k, k < w * h → v k < 16) ∧ (lev = 3 → TTc w h c f u v) ∧ (lev ≠ 3 → NTc w h f lev u v)
def NGc (w h c : Nat) (f : Nat → Int32) (lev : Nat) (u : Nat → Nat) : Prop := (lev = 3 → TFc w h c f u) ∧ (lev ≠ 3 → NFc w h f lev u)
theorem NLc_of {w h c lev : Nat} {f : Nat → Int32} {u v : Nat → Nat} (hw : w ≤ 8) (hh : h ≤ 8) (hv : ∀ k, k < w * h → v k < 16) (h1 : NTl w h c f lev u v) : NLc w h c f lev u v := by
  unfold NTl at h1
  refine ⟨hv, fun hl => ?_, fun hl => ?_⟩
  · rw [if_pos hl] at h1
    exact TT_c hw hh h1
  · rw [if_neg hl] at h1
    exact NT_c hw hh h1
theorem NGc_of {w h c lev : Nat} {f : Nat → Int32} {u : Nat → Nat} (hw : w ≤ 8) (hh : h ≤ 8) (h1 : NFl w h c f lev u) : NGc w h c f lev u := by
  unfold NFl at h1
  refine ⟨fun hl => ?_, fun hl => ?_⟩
  · rw [if_pos hl] at h1
    exact (TF_c hw hh).mp h1
  · rw [if_neg hl] at h1
    exact (NF_c hw hh).mp h1
theorem NLc_one {w h c lev : Nat} {f : Nat → Int32} {u v v' : Nat → Nat} (h1 : NLc w h c f lev u v) (h2 : NLc w h c f lev u v') : ∀ k, k < w * h → v k = v' k := by
  by_cases hl : lev = 3
  · exact TTc_one h1.1 h2.1 (h1.2.1 hl) (h2.2.1 hl)
  · exact NTc_one h1.1 h2.1 (h1.2.2 hl) (h2.2.2 hl)
theorem NLc_NGc {w h c lev : Nat} {f : Nat → Int32} {u v : Nat → Nat} (h1 : NLc w h c f lev u v) : ¬ NGc w h c f lev u := fun h2 => by
  by_cases hl : lev = 3
  · exact TTc_TFc h1.1 (h1.2.1 hl) (h2.1 hl)
  · exact NTc_NFc (h1.2.2 hl) (h2.2 hl)
theorem NLc_uc {w h c lev : Nat} {f : Nat → Int32} {u u' v v' : Nat → Nat} (hw : w ≤ 8) (hh : h ≤ 8) (he : ∀ k, k < w * h → u k = u' k) (hv : ∀ k, k < w * h → v k = v' k) (hN : NLc w h c f lev u v) : NLc w h c f lev u' v' := ⟨fun k hk => by rw [← hv k hk]; exact hN.1 k hk, fun hl => TTc_uc hw hh he hv (hN.2.1 hl), fun hl => NTc_uc hw hh he hv (hN.2.2 hl)⟩
theorem NGc_uc {w h c lev : Nat} {f : Nat → Int32} {u u' : Nat → Nat} (he : ∀ k, k < w * h → u k = u' k) (hN : NGc w h c f lev u) : NGc w h c f lev u' := ⟨fun hl => (TFc_uc he).mp (hN.1 hl), fun hl => (NFc_uc he).mp (hN.2 hl)⟩
