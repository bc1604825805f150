/-! the class: narrowing until nothing changes (own work) -/
theorem clr_low {x : Int32} {k : Nat} (hk32 : k < 32) (hk : bt x k = true) (h0 : ∀ i, i < k → bt x i = false) {i : Nat} (hi : i < 32) : bt (x &&& (x - nI 1)) i = (bt x i && !decide (i = k)) := by
  obtain ⟨m, hm⟩ := nat_low (x := x.toBitVec.toNat) (k := k) hk h0
  have hp1 : 2 ^ k < 2 ^ (k + 1) := Nat.pow_lt_pow_right (by omega) (by omega)
  have hp0 : 0 < 2 ^ k := Nat.two_pow_pos k
  have e1 : (x - nI 1).toBitVec.toNat = x.toBitVec.toNat - 1 := u_subI rfl (by decide) (by omega)
  have e2 : bt (x - nI 1) i = (x.toBitVec.toNat - 1).testBit i := by
    rw [← e1]
    rfl
  have e3 : bt x i = x.toBitVec.toNat.testBit i := rfl
  have e4 : 2 ^ (k + 1) * m + 2 ^ k - 1 = 2 ^ (k + 1) * m + (2 ^ k - 1) := by omega
  rw [b_and, e2, e3, hm, e4, Nat.testBit_two_pow_mul_add _ hp1, Nat.testBit_two_pow_mul_add _ (show 2 ^ k - 1 < 2 ^ (k + 1) by omega)]
  split
  · rename_i h
    rw [Nat.testBit_two_pow, Nat.testBit_two_pow_sub_one]
    by_cases h1 : k = i
    · simp [h1]
    · simp [h1, show ¬ i = k by omega]
  · rename_i h
    simp [show ¬ i = k by omega]
theorem pop_clr {n k : Nat} {f : Nat → Bool} (hk : k < n) (hf : f k = true) : pop n (fun i => f i && !decide (i = k)) + 1 = pop n f := by
  induction n with
  | zero => omega
  | succ n ih =>
    show pop n _ + _ + 1 = pop n f + _
    by_cases h : k = n
    · subst h
      rw [pop_c (g := f) (fun i hi => by simp [show ¬ i = k by omega])]
      simp [hf]
    · have := ih (by omega)
      simp [show ¬ n = k by omega]
      omega
def lvS (v : Int32) : Nat := if v = nI 0 then 2 else 1
/-- the measure: colors of cells, and open lines -/
def mS (n : Nat) (u : Nat → Nat) (op : Int32) : Nat := 17 * sm u n + pop 16 (bt op)
def frM (q0 : Nat) (J J' : fx_MJ) : Prop := ∀ q c, q ≠ q0 → J' q c = J q c
/-- what holds of the whole puzzle, with the marks at place o -/
def preZ (I : fx_MI) (J : fx_MJ) (o : Nat) : Prop := dimC I ∧ (∀ l, l < 16 → okl 3 (cf I 3) l) ∧ (∀ l, bt (I 3 0) l = true → l < cH I + cW I) ∧ lyO (cW I) (cH I) J o
theorem preZ_fr {I I' : fx_MI} {J J' : fx_MJ} {o : Nat} (h : frZ I I') (hz : lyO (cW I) (cH I) J' o) (hp : preZ I J o) : preZ I' J' o := by
  obtain ⟨h1, h2, h3, h4, h5⟩ := frZ_d h
  refine ⟨h5 hp.1, by rw [h4]; exact hp.2.1, ?_, by rw [h1, h2]; exact hz⟩
  rw [h 3 0 (by omega), h1, h2]
  exact hp.2.2.1
theorem preZ_L {I : fx_MI} {J : fx_MJ} {o l : Nat} (hp : preZ I J o) (hl : l < cH I + cW I) : prL I J o l := by
  obtain ⟨hw, hh, -⟩ := dimC_of hp.1
  exact ⟨hp.1, hl, hp.2.1 l (by omega), hp.2.2.2⟩
def Q_settle (I : fx_MI) (J : fx_MJ) (R : fx_MR) (lev : Nat) (r : Option Value) (I' : fx_MI) (J' : fx_MJ) (R' : fx_MR) : Prop :=
  R' = R ∧ frZ I I' ∧ frM 114 J J' ∧ lyO (cW I) (cH I) J' 113 ∧ ((r = some (.int (zb true)) ∧ NTc (cW I) (cH I) (cf I 3) lev (cu (cW I) J 113) (cu (cW I) J' 113)) ∨ (r = some (.int (zb false)) ∧ NFc (cW I) (cH I) (cf I 3) lev (cu (cW I) J 113)))
/-- on the way -/
def inS (I : fx_MI) (J : fx_MJ) (lev : Nat) (op : Int32) (I' : fx_MI) (J' : fx_MJ) : Prop := frZ I I' ∧ frM 114 J J' ∧ lyO (cW I) (cH I) J' 113 ∧ SI (cW I) (cH I) (cf I 3) lev (cu (cW I) J 113) (cu (cW I) J' 113) (fun l => bt op l = true) ∧ ∀ l, bt op l = true → bt (I 3 0) l = true
/-- behind narrowing a line k; op: the other open lines -/
def inS2 (I : fx_MI) (J : fx_MJ) (lev a k : Nat) (op ch : Int32) (I' : fx_MI) (J' : fx_MJ) : Prop := frZ I I' ∧ frM 114 J J' ∧ lyO (cW I) (cH I) J' 113 ∧ k < cH I + cW I ∧ bt (I 3 0) k = true ∧ SI (cW I) (cH I) (cf I 3) lev (cu (cW I) J 113) (cu (cW I) J' 113) (fun l => bt op l = true ∨ l = k) ∧ (∀ l, bt op l = true → bt (I 3 0) l = true ∧ l ≠ k) ∧ (∃ s, PF (cW I) (cH I) (cf I 3) (cu (cW I) J' 113) k s) ∧ nwR (cW I) (cH I) (cf I 3) J' 113 k I' ∧ (∀ i, i < cellsN (cW I) (cH I) k → BT (cW I) (cH I) (cf I 3) lev (cu (cW I) J' 113) k i (xOf I' i)) ∧ ch = chI (I' 102) (I' 109) 4 ∧ 17 * sm (cu (cW I) J' 113) (cW I * cH I) + (pop 16 (bt op) + 1) = a
theorem f_n0 {I : fx_MI} {l : Nat} (hl : l < 16) : (¬ cf I 3 l = nI 0) ↔ bt (I 3 0) l = true := by rw [cf_n0 hl]
theorem upLn_id {w h l : Nat} {u x : Nat → Nat} (he : ∀ i, i < cellsN w h l → x i = u (atN w h l i)) : upLn w h l u x u := ⟨fun i hi => (he i hi).symm, fun _ _ _ => rfl⟩
/-- nothing has changed -/
theorem inS2_0 {I : fx_MI} {J : fx_MJ} {lev a k : Nat} {op ch : Int32} {I' : fx_MI} {J' : fx_MJ} (hp : preZ I J 113) (h : inS2 I J lev a k op ch I' J') (hc : ch = nI 0) : inS I J lev op I' J' ∧ mS (cW I * cH I) (cu (cW I) J' 113) op < a := by
  obtain ⟨h1, h2, h3, hk, hkc, h4, h5, h6, h7, h8, h9, h10⟩ := h
  obtain ⟨hw, hh, -⟩ := dimC_of hp.1
  have hn := cellsN_le (l := k) hw.2 hh.2
  have hsame : ∀ i, i < cellsN (cW I) (cH I) k → xOf I' i = cu (cW I) J' 113 (atN (cW I) (cH I) k i) := fun i hi => Classical.byContradiction fun z => by
    have := (ch_iff hk hn h7 hi).mpr z
    rw [← h9, hc, b_00] at this
    cases this
  refine ⟨⟨h1, h2, h3, ?_, fun l hl => (h5 l hl).1⟩, ?_⟩
  · refine SI_s hw.2 hh.2 hk (hp.2.1 k (by omega)) ((f_n0 (by omega)).mpr hkc) h4 h6 h8 (upLn_id hsame) (fun l' hl' hn' hne hno => ⟨fun z => z.elim hno hne, fun i hi => rfl⟩)
  · unfold mS
    omega
/-- something has changed -/
theorem inS2_1 {I : fx_MI} {J : fx_MJ} {lev a k : Nat} {op ch cr : Int32} {I' : fx_MI} {J' : fx_MJ} (hp : preZ I J 113) (h : inS2 I J lev a k op ch I' J') (hc : ¬ ch = nI 0) (hcr : ∀ l, l < 16 → bt cr l = if k < cH I then decide (cH I ≤ l) && bt ch (l - cH I) else bt ch l) : inS I J lev (op ||| (cr &&& I 3 0)) I' (apJ I' J' 113 (cH I) k) ∧ mS (cW I * cH I) (cu (cW I) (apJ I' J' 113 (cH I) k) 113) (op ||| (cr &&& I 3 0)) < a := by
  obtain ⟨h1, h2, h3, hk, hkc, h4, h5, h6, h7, h8, h9, h10⟩ := h
  obtain ⟨hw, hh, -⟩ := dimC_of hp.1
  have hn := cellsN_le (l := k) hw.2 hh.2
  have hok := hp.2.1 k (by omega)
  have hup := apJ_up hw.2 hh.2 hk h7
  generalize hJ2 : apJ I' J' 113 (cH I) k = J2 at *
  have hsub : ∀ c, c < cW I * cH I → sub (cu (cW I) J2 113 c) (cu (cW I) J' 113 c) := fun c hcc => by
    by_cases hx : ∃ i, i < cellsN (cW I) (cH I) k ∧ c = atN (cW I) (cH I) k i
    · obtain ⟨i, hi, rfl⟩ := hx
      rw [hup.1 i hi]
      exact BT_sub hok hi h6 (h8 i hi)
    · rw [hup.2 c hcc (fun i hi z => hx ⟨i, hi, z⟩)]
      exact sub_rfl
  have hex : ∃ i, i < cellsN (cW I) (cH I) k ∧ xOf I' i ≠ cu (cW I) J' 113 (atN (cW I) (cH I) k i) := by
    refine Classical.byContradiction fun hno => hc (b_ext fun i hi => ?_)
    rw [b_00]
    refine bnt fun z => ?_
    rw [h9] at z
    rcases Nat.lt_or_ge i (cellsN (cW I) (cH I) k) with g | g
    · exact hno ⟨i, g, (ch_iff hk hn h7 g).mp z⟩
    · rw [ch_out hn h7 g] at z
      cases z
  have hcl : ∀ l, bt (op ||| (cr &&& I 3 0)) l = (bt op l || (bt cr l && bt (I 3 0) l)) := fun l => by rw [b_or, b_and]
  refine ⟨⟨h1, fun q c hq => ?_, ?_, ?_, fun l hl => ?_⟩, ?_⟩
  · rw [← hJ2, apJ_o hq]
    exact h2 q c hq
  · rw [← hJ2]
    exact apJ_ly h3
  · refine SI_s hw.2 hh.2 hk hok ((f_n0 (by omega)).mpr hkc) h4 h6 h8 hup (fun l' hl' hn' hne hno => ?_)
    have hclu := (f_n0 (by omega)).mp hn'
    rw [hcl, hclu, Bool.and_true, Bool.or_eq_true, not_or] at hno
    refine ⟨fun z => z.elim hno.1 hne, fun i hi => ?_⟩
    by_cases hx : ∃ j, j < cellsN (cW I) (cH I) k ∧ atN (cW I) (cH I) l' i = atN (cW I) (cH I) k j
    · obtain ⟨j, hj, he⟩ := hx
      rw [he, hup.1 j hj]
      have hchj : bt ch j = false := by
        have hb := bnt hno.2
        rw [hcr l' (by omega)] at hb
        rcases at_cross hk hl' hne hj hi he with ⟨g1, g2, g3⟩ | ⟨g1, g2, g3⟩
        · rw [if_pos g1] at hb
          simpa [g2] using hb
        · rw [if_neg (by omega)] at hb
          rw [← g2]
          exact hb
      exact Classical.byContradiction fun z => by
        have := (ch_iff hk hn h7 hj).mpr z
        rw [← h9, hchj] at this
        cases this
    · exact hup.2 _ (atN_lt hw.2 hh.2 hl' hi) (fun j hj z => hx ⟨j, hj, z⟩)
  · rw [hcl, Bool.or_eq_true, Bool.and_eq_true] at hl
    rcases hl with hl | hl
    · exact (h5 l hl).1
    · exact hl.2
  · obtain ⟨i, hi, hne⟩ := hex
    have hlt : sm (cu (cW I) J2 113) (cW I * cH I) < sm (cu (cW I) J' 113) (cW I * cH I) := by
      refine sm_lt2 (atN_lt hw.2 hh.2 hk hi) (fun c hcc => sub_le cu_16 cu_16 (hsub c hcc)) ?_
      have g1 := sub_le cu_16 cu_16 (hsub _ (atN_lt hw.2 hh.2 hk hi))
      rw [hup.1 i hi] at g1 ⊢
      omega
    have := pop_le 16 (bt (op ||| (cr &&& I 3 0)))
    unfold mS
    omega
