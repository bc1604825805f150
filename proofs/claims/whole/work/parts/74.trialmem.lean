/-! the class: one cell's marks; trials (own work) -/
theorem lb_one {k : Nat} (hk : k < 64) {i : Nat} (hi : i < 64) : lb ((1 : Int64) <<< ((nI k).toInt64 &&& 63)) i = decide (i = k) := by
  rw [l_shl hk _ hi, l_1 _ (by omega)]
  by_cases h : i = k
  · subst h
    simp
  · rcases Nat.lt_or_ge i k with h1 | h1
    · simp [h, show ¬ k ≤ i by omega]
    · simp [h, show ¬ i - k = 0 by omega]
theorem bt_one {k : Nat} (hk : k < 32) {i : Nat} (hi : i < 32) : bt ((1 : Int32) <<< (nI k &&& nI 31)) i = decide (i = k) := by
  have e1 : ∀ j, j < 32 → bt 1 j = decide (j = 0) := by decide +kernel
  rw [b_shl hk _ hi, e1 _ (by omega)]
  by_cases h : i = k
  · subst h
    simp
  · rcases Nat.lt_or_ge i k with h1 | h1
    · simp [h, show ¬ k ≤ i by omega]
    · simp [h, show ¬ i - k = 0 by omega]
/-- a cell's place -/
theorem cell_at {w h x y k : Nat} (hw : w ≤ 8) (hx : x < w) (hk : k < w * h) : (8 * (k / w) + k % w = 8 * y + x) ↔ k = w * y + x := by
  have hm : k % w < w := Nat.mod_lt _ (by omega)
  constructor
  · intro e
    have e1 : k / w = y := by omega
    have e2 : k % w = x := by omega
    rw [← e1, ← e2]
    exact (Nat.div_add_mod k w).symm
  · intro e
    have e1 := dm_ (w := w) (l := y) hx
    rw [e, e1.1, e1.2]
theorem cell_in {w h x y : Nat} (hx : x < w) (hy : y < h) : w * y + x < w * h := by
  have := Nat.mul_le_mul_left w (show y + 1 ≤ h by omega)
  rw [Nat.mul_succ] at this
  omega
theorem k_dm {w h k : Nat} (hk : k < w * h) : k % w < w ∧ k / w < h := by
  have hw0 : 0 < w := by
    rcases Nat.eq_zero_or_pos w with z | z
    · subst z
      rw [Nat.zero_mul] at hk
      omega
    · exact z
  exact ⟨Nat.mod_lt _ hw0, Nat.div_lt_of_lt_mul hk⟩
theorem mskF_1 : ∀ c, c < 4 → mskF 4 (fun d => decide (d = c)) = 2 ^ c := by decide +kernel
/-- one cell is given one color -/
theorem cu_put {w h x y c o : Nat} {J : fx_MJ} {s : Int32} {a : Int64} (hw : w ≤ 8) (hh : h ≤ 8) (hx : x < w) (hy : y < h) (hc : c < 4) (ha : ∀ i, i < 64 → lb a i = decide (i = 8 * y + x)) (hs : ∀ i, i < 4 → bt s i = decide (i = c)) : ∀ k, k < w * h → cu w (putF J (o + 1) a s) o k = updM (cu w J o) (w * y + x) (2 ^ c) k := fun k hk => by
  obtain ⟨hm, hd⟩ := k_dm hk
  have hp : 8 * (k / w) + k % w < 64 := by omega
  have hput : ∀ d, d < 4 → lb (putF J (o + 1) a s (o + 1) d) (8 * (k / w) + k % w) = if k = w * y + x then decide (d = c) else lb (J (o + 1) d) (8 * (k / w) + k % w) := fun d hd => by
    unfold putF
    rw [fillL_in (by omega) (by omega), Nat.sub_zero, hs d hd]
    by_cases h1 : d = c
    · rw [if_pos (by rw [h1]; exact decide_eq_true rfl), l_or, ha _ hp]
      by_cases h2 : k = w * y + x
      · rw [if_pos h2, decide_eq_true ((cell_at hw hx hk).mpr h2), Bool.or_true, h1]
        exact (decide_eq_true rfl).symm
      · rw [if_neg h2, decide_eq_false (fun z => h2 ((cell_at hw hx hk).mp z)), Bool.or_false]
    · rw [if_neg (by rw [decide_eq_false h1]; exact Bool.false_ne_true), l_and, l_xor, l_m1 _ hp, ha _ hp]
      by_cases h2 : k = w * y + x
      · rw [if_pos h2, decide_eq_true ((cell_at hw hx hk).mpr h2), decide_eq_false h1]
        simp
      · rw [if_neg h2, decide_eq_false (fun z => h2 ((cell_at hw hx hk).mp z))]
        simp
  unfold updM
  by_cases h2 : k = w * y + x
  · rw [if_pos h2]
    unfold cu
    rw [mskF_c (g := fun d => decide (d = c)) (fun d hd => by rw [hput d hd, if_pos h2]), mskF_1 c hc]
  · rw [if_neg h2]
    unfold cu
    exact mskF_c fun d hd => by rw [hput d hd, if_neg h2]
theorem ly_put {w h x y o : Nat} {J : fx_MJ} {s : Int32} {a : Int64} (hx : x < w) (hy : y < h) (hw : w ≤ 8) (ha : ∀ i, i < 64 → lb a i = decide (i = 8 * y + x)) (hz : lyO w h J o) : lyO w h (putF J (o + 1) a s) o := fun c hc i hi hb => by
  unfold putF at hb
  rw [fillL_in (by omega) (by omega), Nat.sub_zero] at hb
  split at hb
  · rw [l_or, ha i hi, Bool.or_eq_true, decide_eq_true_eq] at hb
    rcases hb with hb | hb
    · exact hz c hc i hi hb
    · omega
  · rw [l_and, Bool.and_eq_true] at hb
    exact hz c hc i hi hb.1
/-- one cell loses one color -/
theorem cu_clr {w h x y c o : Nat} {J : fx_MJ} {a : Int64} (hw : w ≤ 8) (hh : h ≤ 8) (hx : x < w) (hy : y < h) (hc : c < 4) (ha : ∀ i, i < 64 → lb a i = decide (i = 8 * y + x)) : ∀ k, k < w * h → cu w (fx_up J (o + 1) c (J (o + 1) c &&& (a ^^^ -1))) o k = updM (cu w J o) (w * y + x) (clr (cu w J o (w * y + x)) c) k := fun k hk => by
  obtain ⟨hm, hd⟩ := k_dm hk
  have hp : 8 * (k / w) + k % w < 64 := by omega
  have hk1 := cell_in hx hy
  have hput : ∀ d, d < 4 → lb (fx_up J (o + 1) c (J (o + 1) c &&& (a ^^^ -1)) (o + 1) d) (8 * (k / w) + k % w) = (lb (J (o + 1) d) (8 * (k / w) + k % w) && !(decide (d = c) && decide (k = w * y + x))) := fun d hd => by
    by_cases h1 : d = c
    · subst h1
      rw [upJ_eq, l_and, l_xor, l_m1 _ hp, ha _ hp]
      by_cases h2 : k = w * y + x
      · rw [decide_eq_true ((cell_at hw hx hk).mpr h2), decide_eq_true h2]
        simp
      · rw [decide_eq_false (fun z => h2 ((cell_at hw hx hk).mp z)), decide_eq_false h2]
        simp
    · rw [upJ_ne (by omega), decide_eq_false h1]
      simp
  unfold updM
  by_cases h2 : k = w * y + x
  · rw [if_pos h2]
    subst h2
    have h16 : clr (cu w J o (w * y + x)) c < 16 := by
      have := cu_16 (w := w) (J := J) (o := o) (k := w * y + x)
      unfold clr
      split
      · exact Nat.lt_of_le_of_lt (Nat.sub_le _ _) this
      · exact this
    refine sub_anti cu_16 h16 (fun d hd z => ?_) (fun d hd z => ?_)
    · rw [cu_bit hd, hput d hd, Bool.and_eq_true] at z
      refine (clr_sub _ cu_16 c hc d hd).mpr ⟨(cu_bit hd).mpr z.1, fun e => ?_⟩
      have := z.2
      rw [e] at this
      simp at this
    · have := (clr_sub _ cu_16 c hc d hd).mp z
      rw [cu_bit hd, hput d hd, (cu_bit hd).mp this.1, decide_eq_false this.2]
      rfl
  · rw [if_neg h2]
    unfold cu
    exact mskF_c fun d hd => by
      rw [hput d hd, decide_eq_false h2]
      simp
theorem ly_clr {w h c o : Nat} {J : fx_MJ} {a : Int64} (hz : lyO w h J o) : lyO w h (fx_up J (o + 1) c (J (o + 1) c &&& a)) o := fun d hd i hi hb => by
  by_cases h1 : d = c
  · subst h1
    rw [upJ_eq, l_and, Bool.and_eq_true] at hb
    exact hz d hd i hi hb.1
  · rw [upJ_ne (by omega)] at hb
    exact hz d hd i hi hb
/-- a line through other cells -/
theorem at_other {w h l x y i : Nat} (hl : l < h + w) (hi : i < cellsN w h l) (hx : x < w) (h1 : l ≠ y) (h2 : l ≠ h + x) : atN w h l i ≠ w * y + x := fun z => by
  have e := dm_ (w := w) (l := y) hx
  rw [← z] at e
  unfold cellsN at hi
  unfold atN at e
  by_cases h3 : l < h
  · rw [if_pos h3] at hi e
    have e' := dm_ (w := w) (l := l) hi
    omega
  · rw [if_neg h3] at hi e
    have e' := dm_ (w := w) (l := i) (show l - h < w by omega)
    rw [show w * i + l - h = w * i + (l - h) by omega] at e
    omega
theorem opn_iff {w h x y c o : Nat} {J : fx_MJ} (hx : x < w) (hc : c < 4) (_hy : y < h) : (lb (J (o + 1) c) (8 * y + x) && lb (dbt (J (o + 1))) (8 * y + x)) = true ↔ opn (cu w J o) (w * y + x) c := by
  have e := dm_ (w := w) (l := y) hx
  have hu : cu w J o (w * y + x) = mskF 4 (fun c => lb (J (o + 1) c) (8 * y + x)) := by
    unfold cu
    rw [e.1, e.2]
  have hbc : ∀ g : Nat → Bool, ((g 0 && g 1 || g 2 && g 3) || (g 0 || g 1) && (g 2 || g 3)) = true ↔ 1 < bc (mskF 4 g) := fun g => by
    simp only [mskF]
    cases g 0 <;> cases g 1 <;> cases g 2 <;> cases g 3 <;> decide
  rw [Bool.and_eq_true]
  unfold opn
  rw [cu_bit hc, e.1, e.2, hu, ← hbc, and_comm]
  unfold dbt
  simp only [l_or, l_and]
/-! trials, of the cells of the puzzle alone -/
theorem ref_outc {w h c k cc : Nat} {f : Nat → Int32} {u r : Nat → Nat} (hw : w ≤ 8) (hh : h ≤ 8) (hcc : cc < 4) (hkk : k < w * h) (hc : cc ≤ c) (hr : ∀ k, k < w * h → sub (r k) (u k)) (hr16 : ∀ k, k < w * h → r k < 16) (hg : goodT w h c f r) (hNF : NFc w h f 2 (updM u k (2 ^ cc))) : ¬ r k / 2 ^ cc % 2 = 1 := by
  have h1 := ref_out (r := cutU (w * h) r) (u := u) hcc hkk hc (cutU_sub hr) (cutU_16 hr16) ((goodT_uc hw hh cutU_eq).mpr hg) ((NF_c hw hh).mpr hNF)
  rw [cutU_eq k hkk] at h1
  exact h1
def SIT (w h c : Nat) (f : Nat → Int32) (u0 u : Nat → Nat) : Prop := (∀ k, k < w * h → sub (u k) (u0 k)) ∧ (∀ k, k < w * h → u k < 16) ∧ ∀ r, (∀ k, k < w * h → sub (r k) (u0 k)) → (∀ k, k < w * h → r k < 16) → goodT w h c f r → ∀ k, k < w * h → sub (r k) (u k)
theorem SIT_clr {w h c k cc : Nat} {f : Nat → Int32} {u0 u u' : Nat → Nat} (hw : w ≤ 8) (hh : h ≤ 8) (hcc : cc < 4) (hc : cc ≤ c) (hk : k < w * h) (hS : SIT w h c f u0 u) (hb : u k / 2 ^ cc % 2 = 1) (hNF : NFc w h f 2 (updM u k (2 ^ cc))) (hu : ∀ j, j < w * h → u' j = updM u k (clr (u k) cc) j) : SIT w h c f u0 u' ∧ sm u' (w * h) < sm u (w * h) := by
  obtain ⟨s1, s2, s3⟩ := hS
  have hcs := clr_sub _ (s2 k hk) cc hcc
  have hlt := clr_lt _ (s2 k hk) cc hcc hb
  have hv : ∀ j, j < w * h → (j = k ∧ u' j = clr (u k) cc) ∨ (j ≠ k ∧ u' j = u j) := fun j hj => by
    rw [hu j hj]
    unfold updM
    by_cases h1 : j = k
    · exact Or.inl ⟨h1, if_pos h1⟩
    · exact Or.inr ⟨h1, if_neg h1⟩
  refine ⟨⟨fun j hj => ?_, fun j hj => ?_, fun r hr h16 hg j hj => ?_⟩, ?_⟩
  · rcases hv j hj with ⟨h1, e⟩ | ⟨h1, e⟩
    · rw [e, h1]
      exact sub_trans (fun d hd z => ((hcs d hd).mp z).1) (s1 k hk)
    · rw [e]
      exact s1 j hj
  · rcases hv j hj with ⟨h1, e⟩ | ⟨h1, e⟩
    · rw [e]
      have := s2 k hk
      omega
    · rw [e]
      exact s2 j hj
  · rcases hv j hj with ⟨h1, e⟩ | ⟨h1, e⟩
    · rw [e, h1]
      intro d hd z
      refine (hcs d hd).mpr ⟨s3 r hr h16 hg k hk d hd z, fun hdc => ?_⟩
      rw [hdc] at z
      exact ref_outc hw hh hcc hk hc (s3 r hr h16 hg) h16 hg hNF z
    · rw [e]
      exact s3 r hr h16 hg j hj
  · refine sm_lt2 hk (fun j hj => ?_) ?_
    · rcases hv j hj with ⟨h1, e⟩ | ⟨h1, e⟩
      · rw [e, h1]
        omega
      · rw [e]
        exact Nat.le_refl _
    · rcases hv k hk with ⟨h1, e⟩ | ⟨h1, e⟩
      · rw [e]
        exact hlt
      · exact absurd rfl h1
theorem SIT_nt {w h c : Nat} {f : Nat → Int32} {u0 u v : Nat → Nat} (hv : ∀ k, k < w * h → v k < 16) (hS : SIT w h c f u0 u) (hN : NTc w h f 2 u v) : SIT w h c f u0 v := ⟨fun k hk => sub_trans (hN.1 k hk) (hS.1 k hk), hv, fun r hr h16 hg => hN.2.2 r (hS.2.2 r hr h16 hg) hg.1⟩
theorem SIT_nf {w h c : Nat} {f : Nat → Int32} {u0 u : Nat → Nat} (hS : SIT w h c f u0 u) (hN : NFc w h f 2 u) : TFc w h c f u0 := fun r hr h16 hg => hN r (hS.2.2 r hr h16 hg) hg.1
theorem SIT_0 {w h c : Nat} {f : Nat → Int32} {u : Nat → Nat} (h16 : ∀ k, k < w * h → u k < 16) : SIT w h c f u u := ⟨fun _ _ => sub_rfl, h16, fun _ hr _ _ => hr⟩
theorem SIT_end {w h c : Nat} {f : Nat → Int32} {u0 u : Nat → Nat} (hw : w ≤ 8) (hh : h ≤ 8) (hS : SIT w h c f u0 u) (hg : good w h f 2 u) (hno : ∀ k cc, k < w * h → cc ≤ c → ¬ (opn u k cc ∧ NFc w h f 2 (updM u k (2 ^ cc)))) : TTc w h c f u0 u := ⟨hS.1, ⟨hg, fun k cc hk hcc z => hno k cc hk hcc ⟨z.1, (NF_c hw hh).mp z.2⟩⟩, hS.2.2⟩
