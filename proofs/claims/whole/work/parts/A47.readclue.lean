/-! the class's text: a clue read (own work) -/
def agO (l : Nat) (g g' : Nat → Int32) : Prop := ∀ k, k ≠ l → k ≠ 16 + l → (k < 32 + 8 * l ∨ 40 + 8 * l ≤ k) → (k < 160 + 8 * l ∨ 168 + 8 * l ≤ k) → g' k = g k
theorem agO_rfl {l : Nat} {g : Nat → Int32} : agO l g g := fun _ _ _ _ _ => rfl
theorem agO_trans {l : Nat} {g g' g'' : Nat → Int32} (h : agO l g g') (h' : agO l g' g'') : agO l g g'' := fun k a b c d => by rw [h' k a b c d, h k a b c d]
theorem cf_ap {I : fx_MI} {q l m : Nat} {a d : Int32} (hl : l < 16) (hm : m < 8) : cf (apC I q l m a d) q = appF (cf I q) l m a d := by
  funext k
  have hz : appF (cf I q) l m a d k = if k = l then nI 1 else if k = 16 + l then nI (m + 1) else if k = 32 + (8 * l + m) then a else if k = 160 + (8 * l + m) then d else cf I q k := rfl
  rw [hz]
  unfold cf
  by_cases h1 : k < 16
  · rw [if_pos h1, if_pos h1, ap_0, bt_set (by omega)]
    by_cases h2 : k = l
    · rw [if_pos h2, if_pos h2]
      rfl
    · rw [if_neg h2, if_neg h2, if_neg (by omega), if_neg (by omega), if_neg (by omega)]
  · rw [if_neg h1, if_neg h1, if_neg (show ¬ k = l by omega)]
    by_cases h2 : k < 32
    · rw [if_pos h2, if_pos h2, ap_1]
      by_cases h3 : k = 16 + l
      · rw [if_pos h3, if_pos (by omega)]
      · rw [if_neg h3, if_neg (by omega), if_neg (by omega), if_neg (by omega)]
    · rw [if_neg h2, if_neg h2, if_neg (show ¬ k = 16 + l by omega)]
      by_cases h3 : k < 160
      · rw [if_pos h3, if_pos h3, ap_3]
        by_cases h4 : k = 32 + (8 * l + m)
        · rw [if_pos h4, if_pos (by omega)]
        · rw [if_neg h4, if_neg (by omega), if_neg (by omega)]
      · rw [if_neg h3, if_neg h3, ap_4, if_neg (show ¬ k = 32 + (8 * l + m) by omega)]
        by_cases h4 : k = 160 + (8 * l + m)
        · rw [if_pos h4, if_pos (by omega)]
        · rw [if_neg h4, if_neg (by omega)]
theorem cf_rs {I : fx_MI} {q l : Nat} {w : Int32} (hl : l < 16) : cf (resC I q l w) q = resF (cf I q) l (if w = nI 0 then nI 0 else nI 1) := by
  funext k
  have hz : resF (cf I q) l (if w = nI 0 then nI 0 else nI 1) k = if k = l then (if w = nI 0 then nI 0 else nI 1) else if k = 16 + l then nI 0 else cf I q k := rfl
  rw [hz]
  unfold cf
  by_cases h1 : k < 16
  · rw [if_pos h1, if_pos h1, rs_00, bt_clr (by omega)]
    by_cases h2 : k = l
    · rw [if_pos h2, if_pos h2]
      by_cases hw : w = nI 0
      · rw [if_pos hw, decide_eq_false (fun z => z hw)]
        rfl
      · rw [if_neg hw, decide_eq_true (show w ≠ 0 from hw)]
        rfl
    · rw [if_neg h2, if_neg h2, if_neg (by omega)]
  · rw [if_neg h1, if_neg h1, if_neg (show ¬ k = l by omega)]
    by_cases h2 : k < 32
    · rw [if_pos h2, if_pos h2, rs_1]
      by_cases h3 : k = 16 + l
      · rw [if_pos h3, if_pos (by omega)]
        rfl
      · rw [if_neg h3, if_neg (by omega)]
    · rw [if_neg h2, if_neg h2, if_neg (show ¬ k = 16 + l by omega), rs_o (by omega), rs_o (by omega)]
theorem clW_of {I I' : fx_MI} {f : Nat → Int32} (hd : dimC I) (hf : txL I I') (h : clR (cW I) (cH I) (cC I) I' 96 f) : clW I' := by
  obtain ⟨hw, hh, hc, -⟩ := dimC_of hd
  obtain ⟨d1, d2, d3, -⟩ := txL_d hf
  unfold clW
  rw [d1, d2, d3]
  exact clR_self (by omega) h
theorem clW_at {I I' : fx_MI} (hf : txL I I') (h : clW I') : clR (cW I) (cH I) (cC I) I' 96 (cf I' 96) := by
  obtain ⟨d1, d2, d3, -⟩ := txL_d hf
  unfold clW at h
  rw [d1, d2, d3] at h
  exact h
/-- a row's blocks of line l -/
def rdW (g : Nat → Int32) (l m : Nat) (ln co : Nat → Nat) : Prop := g (16 + l) = nI m ∧ m ≤ 8 ∧ ∀ b, b < m → (g (32 + (8 * l + b)) = nI (ln b) ∧ g (160 + (8 * l + b)) = nI (co b)) ∧ (1 ≤ ln b ∧ ln b ≤ 8) ∧ 1 ≤ co b ∧ co b ≤ 3
theorem rdW_many {g : Nat → Int32} {l m : Nat} {ln co : Nat → Nat} (h : rdW g l m ln co) : manyN g l = m := by
  unfold manyN
  rw [h.1, nv_nI (by have := h.2.1; omega)]
theorem rdW_room {g : Nat → Int32} {l m : Nat} {ln co : Nat → Nat} (h : rdW g l m ln co) {k : Nat} (hk : k ≤ m) : roomN g l k = rmF ln co k := by
  unfold roomN rmF
  refine sm_cong fun b hb => ?_
  obtain ⟨⟨h1, h2⟩, h3, h4⟩ := h.2.2 b (by omega)
  unfold lenN gapN
  rw [h1, h2, nv_nI (by omega)]
  by_cases h0 : 0 < b
  · obtain ⟨⟨k1, k2⟩, k3, k4⟩ := h.2.2 (b - 1) (by omega)
    rw [show 160 + (8 * l + b) - 1 = 160 + (8 * l + (b - 1)) by omega, k2]
    simp (disch := omega) only [nI_eq']
  · rw [if_neg (fun z => h0 z.1), if_neg (fun z => h0 z.1)]
theorem rdW_gap {g : Nat → Int32} {l m d : Nat} {ln co : Nat → Nat} (h : rdW g l m ln co) (hd : d ≤ 200) : gapK g l m (nI d) = if 0 < m ∧ d = co (m - 1) then 1 else 0 := by
  unfold gapK
  by_cases h0 : 0 < m
  · obtain ⟨⟨k1, k2⟩, k3, k4⟩ := h.2.2 (m - 1) (by omega)
    rw [show 160 + (8 * l + m) - 1 = 160 + (8 * l + (m - 1)) by omega, k2]
    simp (disch := omega) only [nI_eq']
    by_cases h1 : co (m - 1) = d
    · rw [if_pos ⟨h0, h1⟩, if_pos ⟨h0, h1.symm⟩]
    · rw [if_neg (fun z => h1 z.2), if_neg (fun z => h1 z.2.symm)]
  · rw [if_neg (fun z => h0 z.1), if_neg (fun z => h0 z.1)]
theorem rmF_s {ln co : Nat → Nat} {m a d : Nat} : rmF (updM ln m a) (updM co m d) (m + 1) = rmF ln co m + (a + if 0 < m ∧ d = co (m - 1) then 1 else 0) := by
  have h1 : rmF (updM ln m a) (updM co m d) m = rmF ln co m := rmF_cong fun b hb => by
    unfold updM
    rw [if_neg (by omega), if_neg (by omega)]
    exact ⟨rfl, rfl⟩
  show rmF (updM ln m a) (updM co m d) m + _ = _
  rw [h1]
  congr 1
  unfold updM
  dsimp only
  rw [if_pos rfl, if_pos rfl]
  congr 1
  by_cases h0 : 0 < m
  · rw [if_neg (show ¬ m - 1 = m by omega)]
  · rw [if_neg (fun z => h0 z.1), if_neg (fun z => h0 z.1)]
theorem rdW_up {g : Nat → Int32} {l m a d : Nat} {ln co : Nat → Nat} (hl : l < 16) (hm : m < 8) (h : rdW g l m ln co) (ha : 1 ≤ a ∧ a ≤ 8) (hd : 1 ≤ d ∧ d ≤ 3) : rdW (appF g l m (nI a) (nI d)) l (m + 1) (updM ln m a) (updM co m d) := by
  have hz : ∀ k, appF g l m (nI a) (nI d) k = if k = l then nI 1 else if k = 16 + l then nI (m + 1) else if k = 32 + (8 * l + m) then nI a else if k = 160 + (8 * l + m) then nI d else g k := fun k => rfl
  refine ⟨by rw [hz, if_neg (by omega), if_pos rfl], by omega, fun b hb => ?_⟩
  unfold updM
  by_cases h9 : b = m
  · subst h9
    rw [if_pos rfl, if_pos rfl, hz, hz, if_neg (by omega), if_neg (by omega), if_pos rfl, if_neg (by omega), if_neg (by omega), if_neg (by omega), if_pos rfl]
    exact ⟨⟨rfl, rfl⟩, ha, hd⟩
  · rw [if_neg h9, if_neg h9, hz, hz, if_neg (by omega), if_neg (by omega), if_neg (by omega), if_neg (by omega), if_neg (by omega), if_neg (by omega), if_neg (by omega), if_neg (by omega)]
    exact h.2.2 b (by omega)
theorem agO_ap {g : Nat → Int32} {l m : Nat} {a d : Int32} (hm : m < 8) : agO l g (appF g l m a d) := fun k h1 h2 h3 h4 => by
  have hz : appF g l m a d k = if k = l then nI 1 else if k = 16 + l then nI (m + 1) else if k = 32 + (8 * l + m) then a else if k = 160 + (8 * l + m) then d else g k := rfl
  rw [hz, if_neg h1, if_neg h2, if_neg (by omega), if_neg (by omega)]
def resW (I I' : fx_MI) (l : Nat) (x : Int32) (y : fx_PR) : Prop := match y with
  | .inl e => x = nI e
  | .inr (p, has, m, ln, co) => x = -nI 1 ∧ I' 94 2 = nI p ∧ clW I' ∧ agO l (cf I 96) (cf I' 96) ∧ clH (cf I' 96) l has m ln co
def Q_rC (I : fx_MI) (J : fx_MJ) (R : fx_MR) (l p : Nat) (r : Option Value) (I' : fx_MI) (J' : fx_MJ) (R' : fx_MR) : Prop :=
  ∃ x, r = some (.int x) ∧ J' = J ∧ R' = R ∧ txL I I' ∧ resW I I' l x (pClue (txC I) (tlC I) (cC I) (cellsN (cW I) (cH I) l) (skB (txC I) (tlC I) p))
/-- the loop's state: m blocks are read, p is the place, y what comes -/
def iRC (I : fx_MI) (l : Nat) (y : fx_PR) (m : Nat) (I' : fx_MI) : Prop := txL I I' ∧ clW I' ∧ agO l (cf I 96) (cf I' 96) ∧ ∃ p ln co, p ≤ tlC I ∧ I' 94 2 = nI p ∧ rdW (cf I' 96) l m ln co ∧ (0 < m → cf I' 96 l = nI 1) ∧ (m = 0 → isD (txC I) (tlC I) p = true) ∧ y = pBs (txC I) (tlC I) (cC I) (cellsN (cW I) (cH I) l) (9 - m) p m ln co
theorem iRC_step {I I' I'' : fx_MI} {J J'' : fx_MJ} {R R'' : fx_MR} {l m p : Nat} {y : fx_PR} {r : Option Value} (hd : dimC I) (ht : okX I) (hl : l < cH I + cW I) (hi : iRC I l y m I') (hp : I' 94 2 = nI p) (hp2 : p ≤ tlC I) (hdg : isD (txC I) (tlC I) p = true) (hq : Q_rB I' J R l p r I'' J'' R'') :
    (∃ e, y = .inl e ∧ e ≤ tlC I ∧ r = some (.int (nI e)) ∧ txL I I'') ∨ (m + 1 ≤ 8 ∧ r = some (.int (-nI 1)) ∧ iRC I l y (m + 1) I'') := by
  obtain ⟨hf, hcl, hag, p', ln, co, h1, h2, h3, h4, h5, rfl⟩ := hi
  obtain ⟨hw, hh, hc, -⟩ := dimC_of hd
  have htl := okX_tl ht
  have hpp : p' = p := by
    have := congrArg nv (h2.symm.trans hp)
    rwa [nv_nI (by omega), nv_nI (by omega)] at this
  subst hpp
  obtain ⟨t1, t2, t3, -⟩ := txF_t (txL_F hf) ht
  obtain ⟨d1, d2, d3, d4⟩ := txL_d hf
  have hlt := isD_lt hdg
  have hm8 := h3.2.1
  have hM : ldM I' l = m := rdW_many h3
  obtain ⟨k, hk⟩ : ∃ k, 9 - m = k + 1 := ⟨8 - m, by omega⟩
  have hstep : pBs (txC I) (tlC I) (cC I) (cellsN (cW I) (cH I) l) (9 - m) p' m ln co = if isD (txC I) (tlC I) p' = true then (if bLet (txC I) (tlC I) p' = true ∧ cC I < bCol (txC I) (tlC I) p' then .inl (bqP (txC I) (tlC I) p') else if cellsN (cW I) (cH I) l < rmF (updM ln m (bLen (txC I) (tlC I) p')) (updM co m (bCol (txC I) (tlC I) p')) (m + 1) then .inl (bEnd (txC I) (tlC I) p') else pBs (txC I) (tlC I) (cC I) (cellsN (cW I) (cH I) l) k (bNxt (txC I) (tlC I) p') (m + 1) (updM ln m (bLen (txC I) (tlC I) p')) (updM co m (bCol (txC I) (tlC I) p'))) else .inr (p', 1, m, ln, co) := by
    rw [hk]
    rfl
  rw [hstep, if_pos hdg]
  obtain ⟨-, -, hq⟩ := hq
  rw [t2, t3, d1, d2, d3] at hq
  have hdd := hdg
  unfold isD at hdd
  rw [decide_eq_true_iff] at hdd
  have hbl : 1 ≤ bLen (txC I) (tlC I) p' ∧ bLen (txC I) (tlC I) p' ≤ 8 := by
    unfold bLen
    omega
  rcases hq with ⟨q1, q2, rfl, q4⟩ | ⟨q1, q2, rfl, q4⟩ | ⟨q1, q2, rfl, rfl⟩
  · exact Or.inl ⟨_, by rw [if_pos ⟨q1, q2⟩], (bqP_le hlt).2, rfl, txL_trans hf q4⟩
  · have hb : bCol (txC I) (tlC I) p' ≤ cC I ∨ bLet (txC I) (tlC I) p' = false := by
      by_cases hx : bLet (txC I) (tlC I) p' = true
      · exact Or.inl (Nat.not_lt.mp fun z => q1 ⟨hx, z⟩)
      · exact Or.inr (Bool.eq_false_iff.mpr hx)
    have hb3 : bCol (txC I) (tlC I) p' ≤ 3 := by
      rcases hb with hb | hb
      · omega
      · unfold bCol
        rw [if_neg (by rw [hb]; decide)]
        omega
    unfold ldR at q2
    rw [hM, rdW_room h3 (Nat.le_refl _), rdW_gap h3 (by omega)] at q2
    exact Or.inl ⟨_, by rw [if_neg q1, if_pos (by rw [rmF_s]; omega)], bEnd_le hlt, rfl, txL_trans hf q4⟩
  · have hb : 1 ≤ bCol (txC I) (tlC I) p' ∧ bCol (txC I) (tlC I) p' ≤ cC I := by
      by_cases hx : bLet (txC I) (tlC I) p' = true
      · refine ⟨?_, Nat.not_lt.mp fun z => q1 ⟨hx, z⟩⟩
        unfold bCol
        rw [if_pos hx]
        unfold bLet isS at hx
        rw [decide_eq_true_iff] at hx
        omega
      · unfold bCol
        rw [if_neg hx]
        omega
    have hcl1 : clR (cW I) (cH I) (cC I) (fx_up I' 94 2 (nI (bNxt (txC I) (tlC I) p'))) 96 (cf I' 96) := clR_fr (fun p'' j h2 h3 => up_ne (by omega)) (clW_at hf hcl)
    unfold ldR at q2
    rw [hM] at q2 ⊢
    have happ := clR_app (a := bLen (txC I) (tlC I) p') (d := bCol (txC I) (tlC I) p') (by omega) hw.2 hh.2 hl hcl1 (rdW_many h3) hbl hb (by omega)
    have hcf : cf (apC (fx_up I' 94 2 (nI (bNxt (txC I) (tlC I) p'))) 96 l m (nI (bLen (txC I) (tlC I) p')) (nI (bCol (txC I) (tlC I) p'))) 96 = appF (cf I' 96) l m (nI (bLen (txC I) (tlC I) p')) (nI (bCol (txC I) (tlC I) p')) := by
      rw [cf_ap (by omega) happ.1, cf_94]
    have hfr : txL I (apC (fx_up I' 94 2 (nI (bNxt (txC I) (tlC I) p'))) 96 l m (nI (bLen (txC I) (tlC I) p')) (nI (bCol (txC I) (tlC I) p'))) := fun q j a b => by
      rw [ap_o (by omega), up_ne (by omega)]
      exact hf q j a b
    rw [rdW_room h3 (Nat.le_refl _), rdW_gap h3 (by omega)] at q2
    refine Or.inr ⟨happ.1, rfl, hfr, clW_of hd hfr happ.2, ?_, bNxt (txC I) (tlC I) p', _, _, bNxt_le hlt, ?_, by rw [hcf]; exact rdW_up (by omega) happ.1 h3 hbl ⟨hb.1, by omega⟩, fun _ => ?_, fun z => by omega, ?_⟩
    · rw [hcf]
      exact agO_trans hag (agO_ap happ.1)
    · rw [ap_o (by omega), up_eq]
    · rw [hcf]
      show (if l = l then nI 1 else _) = _
      rw [if_pos rfl]
    · rw [if_neg q1, if_neg (by rw [rmF_s]; omega), show 9 - (m + 1) = k by omega]
theorem ne_m1 {e : Nat} (he : e ≤ 200) : (nI e = -nI 1) = False := eq_false (fun h => by
  have := nI_pos (n := e) (by omega)
  rw [h] at this
  exact this (by decide +kernel))
theorem wd_ok {I I1 : fx_MI} {l p : Nat} {w : Int32} (hd : dimC I) (ht : okX I) (hcl : clW I) (hl : l < cH I + cW I) (h1 : I1 = fx_up I 94 2 (nI p)) : txL I (wdI I1 l p w) ∧ wdI I1 l p w 94 2 = nI (skB (txC I) (tlC I) (skW (txC I) (tlC I) p)) ∧ clW (wdI I1 l p w) ∧ agO l (cf I 96) (cf (wdI I1 l p w) 96) ∧ cf (wdI I1 l p w) 96 = resF (cf I 96) l (if w = nI 0 then nI 0 else nI 1) := by
  subst h1
  obtain ⟨hw, hh, hc, -⟩ := dimC_of hd
  obtain ⟨o1, o2, o3, o4⟩ := txF_t (txF_up (I := I) (x := nI p)) ht
  have hfr : txL I (wdI (fx_up I 94 2 (nI p)) l p w) := fun q j a b => by
    unfold wdI
    rw [up_ne (by omega), rs_o (by omega), up_ne (by omega), up_ne (by omega)]
  have hcf : cf (wdI (fx_up I 94 2 (nI p)) l p w) 96 = resF (cf I 96) l (if w = nI 0 then nI 0 else nI 1) := by
    unfold wdI
    rw [cf_94, cf_rs (by omega), cf_94, cf_94]
  refine ⟨hfr, ?_, ?_, ?_, hcf⟩
  · unfold wdI
    rw [up_eq, o2, o3]
  · have h2 : clR (cW I) (cH I) (cC I) (fx_up (fx_up I 94 2 (nI p)) 94 2 (nI (skW (txC (fx_up I 94 2 (nI p))) (tlC (fx_up I 94 2 (nI p))) p))) 96 (cf I 96) := clR_fr (fun p'' j h2 h3 => by rw [up_ne (by omega), up_ne (by omega)]) hcl
    have h3 := clR_res (y := w) (by omega) hl h2
    refine clW_of hd hfr (clR_fr (fun p'' j h4 h5 => ?_) h3)
    unfold wdI
    rw [up_ne (by omega)]
  · rw [hcf]
    intro k k1 k2 k3 k4
    show (if k = l then _ else if k = 16 + l then _ else _) = _
    rw [if_neg k1, if_neg k2]
set_option maxHeartbeats 4000000 in
def p_ClueText_readClue : fx_Pr := fx_pr [(0, .aload_n 0, 0), (1, .invokevirtual 40, 0), (4, .aload_n 0, 0), (5, .invokevirtual 33, 0), (8, .invokestatic 43, 0), (11, .ifCond .eq 10, 21), (14, .aload_n 0, 0), (15, .aload_n 1, 0), (16, .iload_n 2, 0), (17, .invokevirtual 47, 0), (20, .ireturn, 0), (21, .aload_n 0, 0), (22, .invokevirtual 33, 0), (25, .invokestatic 51, 0), (28, .ifCond .ne 8, 36), (31, .aload_n 0, 0), (32, .getfield 24, 0), (35, .ireturn, 0), (36, .iconst 0, 0), (37, .istore 4, 0), (39, .iload 4, 0), (41, .bipush 8, 0), (43, .if_icmp .gt 37, 80), (46, .aload_n 0, 0), (47, .invokevirtual 33, 0), (50, .invokestatic 51, 0), (53, .ifCond .eq 27, 80), (56, .aload_n 0, 0), (57, .aload_n 1, 0), (58, .iload_n 2, 0), (59, .aload_n 3, 0), (60, .invokevirtual 54, 0), (63, .istore 5, 0), (65, .iload 5, 0), (67, .iconst (-1), 0), (68, .if_icmp .eq 6, 74), (71, .iload 5, 0), (73, .ireturn, 0), (74, .iinc 4 1, 0), (77, .goto (-38), 39), (80, .iconst (-1), 0), (81, .ireturn, 0)]
theorem pk_ClueText_readClue : fx_prOK b_ClueText_readClue p_ClueText_readClue := fx_pr_ok (by decide +kernel)
theorem q_ClueText_readClue_0 {nL : Nat} {M : fx_M} {ev : fx_Env} {ret : Option FieldType} {P : fx_P} {stops : List (Nat × Nat)} {K : fx_K} {n : Nat} {L : List (Option Value)} {st : List Value} {I : fx_MI} {J : fx_MJ} {R : fx_MR} {X : Nat → fx_K} (hX : fx_isX nL M ev ret P p_ClueText_readClue stops K X) (hs : fx_stop stops 0 = none) : X (n + 1) 0 L st I J R = fx_S nL M ev ret P (.aload_n 0) 0 0 L st I J R (X n) := hX.1 _ _ _ _ _ _ _ _ _ rfl hs
theorem q_ClueText_readClue_1 {nL : Nat} {M : fx_M} {ev : fx_Env} {ret : Option FieldType} {P : fx_P} {stops : List (Nat × Nat)} {K : fx_K} {n : Nat} {L : List (Option Value)} {st : List Value} {I : fx_MI} {J : fx_MJ} {R : fx_MR} {X : Nat → fx_K} (hX : fx_isX nL M ev ret P p_ClueText_readClue stops K X) (hs : fx_stop stops 1 = none) : X (n + 1) 1 L st I J R = fx_S nL M ev ret P (.invokevirtual 40) 0 1 L st I J R (X n) := hX.1 _ _ _ _ _ _ _ _ _ rfl hs
theorem q_ClueText_readClue_4 {nL : Nat} {M : fx_M} {ev : fx_Env} {ret : Option FieldType} {P : fx_P} {stops : List (Nat × Nat)} {K : fx_K} {n : Nat} {L : List (Option Value)} {st : List Value} {I : fx_MI} {J : fx_MJ} {R : fx_MR} {X : Nat → fx_K} (hX : fx_isX nL M ev ret P p_ClueText_readClue stops K X) (hs : fx_stop stops 4 = none) : X (n + 1) 4 L st I J R = fx_S nL M ev ret P (.aload_n 0) 0 4 L st I J R (X n) := hX.1 _ _ _ _ _ _ _ _ _ rfl hs
theorem q_ClueText_readClue_5 {nL : Nat} {M : fx_M} {ev : fx_Env} {ret : Option FieldType} {P : fx_P} {stops : List (Nat × Nat)} {K : fx_K} {n : Nat} {L : List (Option Value)} {st : List Value} {I : fx_MI} {J : fx_MJ} {R : fx_MR} {X : Nat → fx_K} (hX : fx_isX nL M ev ret P p_ClueText_readClue stops K X) (hs : fx_stop stops 5 = none) : X (n + 1) 5 L st I J R = fx_S nL M ev ret P (.invokevirtual 33) 0 5 L st I J R (X n) := hX.1 _ _ _ _ _ _ _ _ _ rfl hs
theorem q_ClueText_readClue_8 {nL : Nat} {M : fx_M} {ev : fx_Env} {ret : Option FieldType} {P : fx_P} {stops : List (Nat × Nat)} {K : fx_K} {n : Nat} {L : List (Option Value)} {st : List Value} {I : fx_MI} {J : fx_MJ} {R : fx_MR} {X : Nat → fx_K} (hX : fx_isX nL M ev ret P p_ClueText_readClue stops K X) (hs : fx_stop stops 8 = none) : X (n + 1) 8 L st I J R = fx_S nL M ev ret P (.invokestatic 43) 0 8 L st I J R (X n) := hX.1 _ _ _ _ _ _ _ _ _ rfl hs
theorem q_ClueText_readClue_11 {nL : Nat} {M : fx_M} {ev : fx_Env} {ret : Option FieldType} {P : fx_P} {stops : List (Nat × Nat)} {K : fx_K} {n : Nat} {L : List (Option Value)} {st : List Value} {I : fx_MI} {J : fx_MJ} {R : fx_MR} {x : Int32} {X : Nat → fx_K} (hX : fx_isX nL M ev ret P p_ClueText_readClue stops K X) (hs : fx_stop stops 11 = none) : X (n + 1) 11 L (.int x :: st) I J R = ((x = 0 → X n 21 L st I J R) ∧ (¬ x = 0 → X n 14 L st I J R)) := fx_q_if hX rfl hs rfl
theorem q_ClueText_readClue_14 {nL : Nat} {M : fx_M} {ev : fx_Env} {ret : Option FieldType} {P : fx_P} {stops : List (Nat × Nat)} {K : fx_K} {n : Nat} {L : List (Option Value)} {st : List Value} {I : fx_MI} {J : fx_MJ} {R : fx_MR} {X : Nat → fx_K} (hX : fx_isX nL M ev ret P p_ClueText_readClue stops K X) (hs : fx_stop stops 14 = none) : X (n + 1) 14 L st I J R = fx_S nL M ev ret P (.aload_n 0) 0 14 L st I J R (X n) := hX.1 _ _ _ _ _ _ _ _ _ rfl hs
theorem q_ClueText_readClue_15 {nL : Nat} {M : fx_M} {ev : fx_Env} {ret : Option FieldType} {P : fx_P} {stops : List (Nat × Nat)} {K : fx_K} {n : Nat} {L : List (Option Value)} {st : List Value} {I : fx_MI} {J : fx_MJ} {R : fx_MR} {X : Nat → fx_K} (hX : fx_isX nL M ev ret P p_ClueText_readClue stops K X) (hs : fx_stop stops 15 = none) : X (n + 1) 15 L st I J R = fx_S nL M ev ret P (.aload_n 1) 0 15 L st I J R (X n) := hX.1 _ _ _ _ _ _ _ _ _ rfl hs
theorem q_ClueText_readClue_16 {nL : Nat} {M : fx_M} {ev : fx_Env} {ret : Option FieldType} {P : fx_P} {stops : List (Nat × Nat)} {K : fx_K} {n : Nat} {L : List (Option Value)} {st : List Value} {I : fx_MI} {J : fx_MJ} {R : fx_MR} {X : Nat → fx_K} (hX : fx_isX nL M ev ret P p_ClueText_readClue stops K X) (hs : fx_stop stops 16 = none) : X (n + 1) 16 L st I J R = fx_S nL M ev ret P (.iload_n 2) 0 16 L st I J R (X n) := hX.1 _ _ _ _ _ _ _ _ _ rfl hs
theorem q_ClueText_readClue_17 {nL : Nat} {M : fx_M} {ev : fx_Env} {ret : Option FieldType} {P : fx_P} {stops : List (Nat × Nat)} {K : fx_K} {n : Nat} {L : List (Option Value)} {st : List Value} {I : fx_MI} {J : fx_MJ} {R : fx_MR} {X : Nat → fx_K} (hX : fx_isX nL M ev ret P p_ClueText_readClue stops K X) (hs : fx_stop stops 17 = none) : X (n + 1) 17 L st I J R = fx_S nL M ev ret P (.invokevirtual 47) 0 17 L st I J R (X n) := hX.1 _ _ _ _ _ _ _ _ _ rfl hs
theorem q_ClueText_readClue_20 {nL : Nat} {M : fx_M} {ev : fx_Env} {ret : Option FieldType} {P : fx_P} {stops : List (Nat × Nat)} {K : fx_K} {n : Nat} {L : List (Option Value)} {st : List Value} {I : fx_MI} {J : fx_MJ} {R : fx_MR} {X : Nat → fx_K} (hX : fx_isX nL M ev ret P p_ClueText_readClue stops K X) (hs : fx_stop stops 20 = none) : X (n + 1) 20 L st I J R = fx_S nL M ev ret P (.ireturn) 0 20 L st I J R (X n) := hX.1 _ _ _ _ _ _ _ _ _ rfl hs
theorem q_ClueText_readClue_21 {nL : Nat} {M : fx_M} {ev : fx_Env} {ret : Option FieldType} {P : fx_P} {stops : List (Nat × Nat)} {K : fx_K} {n : Nat} {L : List (Option Value)} {st : List Value} {I : fx_MI} {J : fx_MJ} {R : fx_MR} {X : Nat → fx_K} (hX : fx_isX nL M ev ret P p_ClueText_readClue stops K X) (hs : fx_stop stops 21 = none) : X (n + 1) 21 L st I J R = fx_S nL M ev ret P (.aload_n 0) 0 21 L st I J R (X n) := hX.1 _ _ _ _ _ _ _ _ _ rfl hs
theorem q_ClueText_readClue_22 {nL : Nat} {M : fx_M} {ev : fx_Env} {ret : Option FieldType} {P : fx_P} {stops : List (Nat × Nat)} {K : fx_K} {n : Nat} {L : List (Option Value)} {st : List Value} {I : fx_MI} {J : fx_MJ} {R : fx_MR} {X : Nat → fx_K} (hX : fx_isX nL M ev ret P p_ClueText_readClue stops K X) (hs : fx_stop stops 22 = none) : X (n + 1) 22 L st I J R = fx_S nL M ev ret P (.invokevirtual 33) 0 22 L st I J R (X n) := hX.1 _ _ _ _ _ _ _ _ _ rfl hs
theorem q_ClueText_readClue_25 {nL : Nat} {M : fx_M} {ev : fx_Env} {ret : Option FieldType} {P : fx_P} {stops : List (Nat × Nat)} {K : fx_K} {n : Nat} {L : List (Option Value)} {st : List Value} {I : fx_MI} {J : fx_MJ} {R : fx_MR} {X : Nat → fx_K} (hX : fx_isX nL M ev ret P p_ClueText_readClue stops K X) (hs : fx_stop stops 25 = none) : X (n + 1) 25 L st I J R = fx_S nL M ev ret P (.invokestatic 51) 0 25 L st I J R (X n) := hX.1 _ _ _ _ _ _ _ _ _ rfl hs
theorem q_ClueText_readClue_28 {nL : Nat} {M : fx_M} {ev : fx_Env} {ret : Option FieldType} {P : fx_P} {stops : List (Nat × Nat)} {K : fx_K} {n : Nat} {L : List (Option Value)} {st : List Value} {I : fx_MI} {J : fx_MJ} {R : fx_MR} {x : Int32} {X : Nat → fx_K} (hX : fx_isX nL M ev ret P p_ClueText_readClue stops K X) (hs : fx_stop stops 28 = none) : X (n + 1) 28 L (.int x :: st) I J R = ((¬ x = 0 → X n 36 L st I J R) ∧ (x = 0 → X n 31 L st I J R)) := fx_q_ifne hX rfl hs rfl
theorem q_ClueText_readClue_31 {nL : Nat} {M : fx_M} {ev : fx_Env} {ret : Option FieldType} {P : fx_P} {stops : List (Nat × Nat)} {K : fx_K} {n : Nat} {L : List (Option Value)} {st : List Value} {I : fx_MI} {J : fx_MJ} {R : fx_MR} {X : Nat → fx_K} (hX : fx_isX nL M ev ret P p_ClueText_readClue stops K X) (hs : fx_stop stops 31 = none) : X (n + 1) 31 L st I J R = fx_S nL M ev ret P (.aload_n 0) 0 31 L st I J R (X n) := hX.1 _ _ _ _ _ _ _ _ _ rfl hs
theorem q_ClueText_readClue_32 {nL : Nat} {M : fx_M} {ev : fx_Env} {ret : Option FieldType} {P : fx_P} {stops : List (Nat × Nat)} {K : fx_K} {n : Nat} {L : List (Option Value)} {st : List Value} {I : fx_MI} {J : fx_MJ} {R : fx_MR} {X : Nat → fx_K} (hX : fx_isX nL M ev ret P p_ClueText_readClue stops K X) (hs : fx_stop stops 32 = none) : X (n + 1) 32 L st I J R = fx_S nL M ev ret P (.getfield 24) 0 32 L st I J R (X n) := hX.1 _ _ _ _ _ _ _ _ _ rfl hs
theorem q_ClueText_readClue_35 {nL : Nat} {M : fx_M} {ev : fx_Env} {ret : Option FieldType} {P : fx_P} {stops : List (Nat × Nat)} {K : fx_K} {n : Nat} {L : List (Option Value)} {st : List Value} {I : fx_MI} {J : fx_MJ} {R : fx_MR} {X : Nat → fx_K} (hX : fx_isX nL M ev ret P p_ClueText_readClue stops K X) (hs : fx_stop stops 35 = none) : X (n + 1) 35 L st I J R = fx_S nL M ev ret P (.ireturn) 0 35 L st I J R (X n) := hX.1 _ _ _ _ _ _ _ _ _ rfl hs
theorem q_ClueText_readClue_36 {nL : Nat} {M : fx_M} {ev : fx_Env} {ret : Option FieldType} {P : fx_P} {stops : List (Nat × Nat)} {K : fx_K} {n : Nat} {L : List (Option Value)} {st : List Value} {I : fx_MI} {J : fx_MJ} {R : fx_MR} {X : Nat → fx_K} (hX : fx_isX nL M ev ret P p_ClueText_readClue stops K X) (hs : fx_stop stops 36 = none) : X (n + 1) 36 L st I J R = fx_S nL M ev ret P (.iconst 0) 0 36 L st I J R (X n) := hX.1 _ _ _ _ _ _ _ _ _ rfl hs
theorem q_ClueText_readClue_37 {nL : Nat} {M : fx_M} {ev : fx_Env} {ret : Option FieldType} {P : fx_P} {stops : List (Nat × Nat)} {K : fx_K} {n : Nat} {L : List (Option Value)} {st : List Value} {I : fx_MI} {J : fx_MJ} {R : fx_MR} {X : Nat → fx_K} (hX : fx_isX nL M ev ret P p_ClueText_readClue stops K X) (hs : fx_stop stops 37 = none) : X (n + 1) 37 L st I J R = fx_S nL M ev ret P (.istore 4) 0 37 L st I J R (X n) := hX.1 _ _ _ _ _ _ _ _ _ rfl hs
theorem q_ClueText_readClue_39 {nL : Nat} {M : fx_M} {ev : fx_Env} {ret : Option FieldType} {P : fx_P} {stops : List (Nat × Nat)} {K : fx_K} {n : Nat} {L : List (Option Value)} {st : List Value} {I : fx_MI} {J : fx_MJ} {R : fx_MR} {X : Nat → fx_K} (hX : fx_isX nL M ev ret P p_ClueText_readClue stops K X) (hs : fx_stop stops 39 = none) : X (n + 1) 39 L st I J R = fx_S nL M ev ret P (.iload 4) 0 39 L st I J R (X n) := hX.1 _ _ _ _ _ _ _ _ _ rfl hs
theorem h_ClueText_readClue_39 {nL : Nat} {M : fx_M} {ev : fx_Env} {ret : Option FieldType} {P : fx_P} {L : List (Option Value)} {st : List Value} {I : fx_MI} {J : fx_MJ} {R : fx_MR} {X : fx_K} : fx_go nL M ev ret P p_ClueText_readClue X 39 L st I J R = fx_S nL M ev ret P (.iload 4) 0 39 L st I J R X := fx_go_at rfl
theorem q_ClueText_readClue_41 {nL : Nat} {M : fx_M} {ev : fx_Env} {ret : Option FieldType} {P : fx_P} {stops : List (Nat × Nat)} {K : fx_K} {n : Nat} {L : List (Option Value)} {st : List Value} {I : fx_MI} {J : fx_MJ} {R : fx_MR} {X : Nat → fx_K} (hX : fx_isX nL M ev ret P p_ClueText_readClue stops K X) (hs : fx_stop stops 41 = none) : X (n + 1) 41 L st I J R = fx_S nL M ev ret P (.bipush 8) 0 41 L st I J R (X n) := hX.1 _ _ _ _ _ _ _ _ _ rfl hs
theorem q_ClueText_readClue_43 {nL : Nat} {M : fx_M} {ev : fx_Env} {ret : Option FieldType} {P : fx_P} {stops : List (Nat × Nat)} {K : fx_K} {n : Nat} {L : List (Option Value)} {st : List Value} {I : fx_MI} {J : fx_MJ} {R : fx_MR} {x y : Int32} {X : Nat → fx_K} (hX : fx_isX nL M ev ret P p_ClueText_readClue stops K X) (hs : fx_stop stops 43 = none) : X (n + 1) 43 L (.int y :: .int x :: st) I J R = ((y < x → X n 80 L st I J R) ∧ (¬ y < x → X n 46 L st I J R)) := fx_q_icmp hX rfl hs rfl
theorem q_ClueText_readClue_46 {nL : Nat} {M : fx_M} {ev : fx_Env} {ret : Option FieldType} {P : fx_P} {stops : List (Nat × Nat)} {K : fx_K} {n : Nat} {L : List (Option Value)} {st : List Value} {I : fx_MI} {J : fx_MJ} {R : fx_MR} {X : Nat → fx_K} (hX : fx_isX nL M ev ret P p_ClueText_readClue stops K X) (hs : fx_stop stops 46 = none) : X (n + 1) 46 L st I J R = fx_S nL M ev ret P (.aload_n 0) 0 46 L st I J R (X n) := hX.1 _ _ _ _ _ _ _ _ _ rfl hs
theorem q_ClueText_readClue_47 {nL : Nat} {M : fx_M} {ev : fx_Env} {ret : Option FieldType} {P : fx_P} {stops : List (Nat × Nat)} {K : fx_K} {n : Nat} {L : List (Option Value)} {st : List Value} {I : fx_MI} {J : fx_MJ} {R : fx_MR} {X : Nat → fx_K} (hX : fx_isX nL M ev ret P p_ClueText_readClue stops K X) (hs : fx_stop stops 47 = none) : X (n + 1) 47 L st I J R = fx_S nL M ev ret P (.invokevirtual 33) 0 47 L st I J R (X n) := hX.1 _ _ _ _ _ _ _ _ _ rfl hs
theorem q_ClueText_readClue_50 {nL : Nat} {M : fx_M} {ev : fx_Env} {ret : Option FieldType} {P : fx_P} {stops : List (Nat × Nat)} {K : fx_K} {n : Nat} {L : List (Option Value)} {st : List Value} {I : fx_MI} {J : fx_MJ} {R : fx_MR} {X : Nat → fx_K} (hX : fx_isX nL M ev ret P p_ClueText_readClue stops K X) (hs : fx_stop stops 50 = none) : X (n + 1) 50 L st I J R = fx_S nL M ev ret P (.invokestatic 51) 0 50 L st I J R (X n) := hX.1 _ _ _ _ _ _ _ _ _ rfl hs
theorem q_ClueText_readClue_53 {nL : Nat} {M : fx_M} {ev : fx_Env} {ret : Option FieldType} {P : fx_P} {stops : List (Nat × Nat)} {K : fx_K} {n : Nat} {L : List (Option Value)} {st : List Value} {I : fx_MI} {J : fx_MJ} {R : fx_MR} {x : Int32} {X : Nat → fx_K} (hX : fx_isX nL M ev ret P p_ClueText_readClue stops K X) (hs : fx_stop stops 53 = none) : X (n + 1) 53 L (.int x :: st) I J R = ((x = 0 → X n 80 L st I J R) ∧ (¬ x = 0 → X n 56 L st I J R)) := fx_q_if hX rfl hs rfl
theorem q_ClueText_readClue_56 {nL : Nat} {M : fx_M} {ev : fx_Env} {ret : Option FieldType} {P : fx_P} {stops : List (Nat × Nat)} {K : fx_K} {n : Nat} {L : List (Option Value)} {st : List Value} {I : fx_MI} {J : fx_MJ} {R : fx_MR} {X : Nat → fx_K} (hX : fx_isX nL M ev ret P p_ClueText_readClue stops K X) (hs : fx_stop stops 56 = none) : X (n + 1) 56 L st I J R = fx_S nL M ev ret P (.aload_n 0) 0 56 L st I J R (X n) := hX.1 _ _ _ _ _ _ _ _ _ rfl hs
theorem q_ClueText_readClue_57 {nL : Nat} {M : fx_M} {ev : fx_Env} {ret : Option FieldType} {P : fx_P} {stops : List (Nat × Nat)} {K : fx_K} {n : Nat} {L : List (Option Value)} {st : List Value} {I : fx_MI} {J : fx_MJ} {R : fx_MR} {X : Nat → fx_K} (hX : fx_isX nL M ev ret P p_ClueText_readClue stops K X) (hs : fx_stop stops 57 = none) : X (n + 1) 57 L st I J R = fx_S nL M ev ret P (.aload_n 1) 0 57 L st I J R (X n) := hX.1 _ _ _ _ _ _ _ _ _ rfl hs
theorem q_ClueText_readClue_58 {nL : Nat} {M : fx_M} {ev : fx_Env} {ret : Option FieldType} {P : fx_P} {stops : List (Nat × Nat)} {K : fx_K} {n : Nat} {L : List (Option Value)} {st : List Value} {I : fx_MI} {J : fx_MJ} {R : fx_MR} {X : Nat → fx_K} (hX : fx_isX nL M ev ret P p_ClueText_readClue stops K X) (hs : fx_stop stops 58 = none) : X (n + 1) 58 L st I J R = fx_S nL M ev ret P (.iload_n 2) 0 58 L st I J R (X n) := hX.1 _ _ _ _ _ _ _ _ _ rfl hs
theorem q_ClueText_readClue_59 {nL : Nat} {M : fx_M} {ev : fx_Env} {ret : Option FieldType} {P : fx_P} {stops : List (Nat × Nat)} {K : fx_K} {n : Nat} {L : List (Option Value)} {st : List Value} {I : fx_MI} {J : fx_MJ} {R : fx_MR} {X : Nat → fx_K} (hX : fx_isX nL M ev ret P p_ClueText_readClue stops K X) (hs : fx_stop stops 59 = none) : X (n + 1) 59 L st I J R = fx_S nL M ev ret P (.aload_n 3) 0 59 L st I J R (X n) := hX.1 _ _ _ _ _ _ _ _ _ rfl hs
theorem q_ClueText_readClue_60 {nL : Nat} {M : fx_M} {ev : fx_Env} {ret : Option FieldType} {P : fx_P} {stops : List (Nat × Nat)} {K : fx_K} {n : Nat} {L : List (Option Value)} {st : List Value} {I : fx_MI} {J : fx_MJ} {R : fx_MR} {X : Nat → fx_K} (hX : fx_isX nL M ev ret P p_ClueText_readClue stops K X) (hs : fx_stop stops 60 = none) : X (n + 1) 60 L st I J R = fx_S nL M ev ret P (.invokevirtual 54) 0 60 L st I J R (X n) := hX.1 _ _ _ _ _ _ _ _ _ rfl hs
theorem q_ClueText_readClue_63 {nL : Nat} {M : fx_M} {ev : fx_Env} {ret : Option FieldType} {P : fx_P} {stops : List (Nat × Nat)} {K : fx_K} {n : Nat} {L : List (Option Value)} {st : List Value} {I : fx_MI} {J : fx_MJ} {R : fx_MR} {X : Nat → fx_K} (hX : fx_isX nL M ev ret P p_ClueText_readClue stops K X) (hs : fx_stop stops 63 = none) : X (n + 1) 63 L st I J R = fx_S nL M ev ret P (.istore 5) 0 63 L st I J R (X n) := hX.1 _ _ _ _ _ _ _ _ _ rfl hs
theorem q_ClueText_readClue_65 {nL : Nat} {M : fx_M} {ev : fx_Env} {ret : Option FieldType} {P : fx_P} {stops : List (Nat × Nat)} {K : fx_K} {n : Nat} {L : List (Option Value)} {st : List Value} {I : fx_MI} {J : fx_MJ} {R : fx_MR} {X : Nat → fx_K} (hX : fx_isX nL M ev ret P p_ClueText_readClue stops K X) (hs : fx_stop stops 65 = none) : X (n + 1) 65 L st I J R = fx_S nL M ev ret P (.iload 5) 0 65 L st I J R (X n) := hX.1 _ _ _ _ _ _ _ _ _ rfl hs
theorem q_ClueText_readClue_67 {nL : Nat} {M : fx_M} {ev : fx_Env} {ret : Option FieldType} {P : fx_P} {stops : List (Nat × Nat)} {K : fx_K} {n : Nat} {L : List (Option Value)} {st : List Value} {I : fx_MI} {J : fx_MJ} {R : fx_MR} {X : Nat → fx_K} (hX : fx_isX nL M ev ret P p_ClueText_readClue stops K X) (hs : fx_stop stops 67 = none) : X (n + 1) 67 L st I J R = fx_S nL M ev ret P (.iconst (-1)) 0 67 L st I J R (X n) := hX.1 _ _ _ _ _ _ _ _ _ rfl hs
theorem q_ClueText_readClue_68 {nL : Nat} {M : fx_M} {ev : fx_Env} {ret : Option FieldType} {P : fx_P} {stops : List (Nat × Nat)} {K : fx_K} {n : Nat} {L : List (Option Value)} {st : List Value} {I : fx_MI} {J : fx_MJ} {R : fx_MR} {x y : Int32} {X : Nat → fx_K} (hX : fx_isX nL M ev ret P p_ClueText_readClue stops K X) (hs : fx_stop stops 68 = none) : X (n + 1) 68 L (.int y :: .int x :: st) I J R = ((x = y → X n 74 L st I J R) ∧ (¬ x = y → X n 71 L st I J R)) := fx_q_icmp hX rfl hs rfl
theorem q_ClueText_readClue_71 {nL : Nat} {M : fx_M} {ev : fx_Env} {ret : Option FieldType} {P : fx_P} {stops : List (Nat × Nat)} {K : fx_K} {n : Nat} {L : List (Option Value)} {st : List Value} {I : fx_MI} {J : fx_MJ} {R : fx_MR} {X : Nat → fx_K} (hX : fx_isX nL M ev ret P p_ClueText_readClue stops K X) (hs : fx_stop stops 71 = none) : X (n + 1) 71 L st I J R = fx_S nL M ev ret P (.iload 5) 0 71 L st I J R (X n) := hX.1 _ _ _ _ _ _ _ _ _ rfl hs
theorem q_ClueText_readClue_73 {nL : Nat} {M : fx_M} {ev : fx_Env} {ret : Option FieldType} {P : fx_P} {stops : List (Nat × Nat)} {K : fx_K} {n : Nat} {L : List (Option Value)} {st : List Value} {I : fx_MI} {J : fx_MJ} {R : fx_MR} {X : Nat → fx_K} (hX : fx_isX nL M ev ret P p_ClueText_readClue stops K X) (hs : fx_stop stops 73 = none) : X (n + 1) 73 L st I J R = fx_S nL M ev ret P (.ireturn) 0 73 L st I J R (X n) := hX.1 _ _ _ _ _ _ _ _ _ rfl hs
theorem q_ClueText_readClue_74 {nL : Nat} {M : fx_M} {ev : fx_Env} {ret : Option FieldType} {P : fx_P} {stops : List (Nat × Nat)} {K : fx_K} {n : Nat} {L : List (Option Value)} {st : List Value} {I : fx_MI} {J : fx_MJ} {R : fx_MR} {X : Nat → fx_K} (hX : fx_isX nL M ev ret P p_ClueText_readClue stops K X) (hs : fx_stop stops 74 = none) : X (n + 1) 74 L st I J R = fx_S nL M ev ret P (.iinc 4 1) 0 74 L st I J R (X n) := hX.1 _ _ _ _ _ _ _ _ _ rfl hs
theorem q_ClueText_readClue_77 {nL : Nat} {M : fx_M} {ev : fx_Env} {ret : Option FieldType} {P : fx_P} {stops : List (Nat × Nat)} {K : fx_K} {n : Nat} {L : List (Option Value)} {st : List Value} {I : fx_MI} {J : fx_MJ} {R : fx_MR} {X : Nat → fx_K} (hX : fx_isX nL M ev ret P p_ClueText_readClue stops K X) (hs : fx_stop stops 77 = none) : X (n + 1) 77 L st I J R = X n 39 L st I J R := fx_q_goto hX rfl hs rfl
theorem q_ClueText_readClue_80 {nL : Nat} {M : fx_M} {ev : fx_Env} {ret : Option FieldType} {P : fx_P} {stops : List (Nat × Nat)} {K : fx_K} {n : Nat} {L : List (Option Value)} {st : List Value} {I : fx_MI} {J : fx_MJ} {R : fx_MR} {X : Nat → fx_K} (hX : fx_isX nL M ev ret P p_ClueText_readClue stops K X) (hs : fx_stop stops 80 = none) : X (n + 1) 80 L st I J R = fx_S nL M ev ret P (.iconst (-1)) 0 80 L st I J R (X n) := hX.1 _ _ _ _ _ _ _ _ _ rfl hs
theorem q_ClueText_readClue_81 {nL : Nat} {M : fx_M} {ev : fx_Env} {ret : Option FieldType} {P : fx_P} {stops : List (Nat × Nat)} {K : fx_K} {n : Nat} {L : List (Option Value)} {st : List Value} {I : fx_MI} {J : fx_MJ} {R : fx_MR} {X : Nat → fx_K} (hX : fx_isX nL M ev ret P p_ClueText_readClue stops K X) (hs : fx_stop stops 81 = none) : X (n + 1) 81 L st I J R = fx_S nL M ev ret P (.ireturn) 0 81 L st I J R (X n) := hX.1 _ _ _ _ _ _ _ _ _ rfl hs
def pre_ClueText_readClue (n : Nat) : fx_Pre := fun st I J R => (∃ b, R = R0C b) ∧ (match st with
  | [.ref 94, .ref q, .int v, .ref g] => q = 96 ∧ g = 1 ∧ dimC I ∧ okX I ∧ clW I ∧ ∃ l p, l < cH I + cW I ∧ v = nI l ∧ p ≤ tlC I ∧ I 94 2 = nI p ∧ cf I 96 l = nI 0 ∧ cf I 96 (16 + l) = nI 0
  | _ => False)
theorem pi_ClueText_readClue {n : Nat} {st : List Value} {I : fx_MI} {J : fx_MJ} {R : fx_MR} (h : pre_ClueText_readClue n st I J R) : (∃ b, R = R0C b) ∧ ∃ q, ∃ v, ∃ g, st = [.ref 94, .ref q, .int v, .ref g] ∧ (q = 96 ∧ g = 1 ∧ dimC I ∧ okX I ∧ clW I ∧ ∃ l p, l < cH I + cW I ∧ v = nI l ∧ p ≤ tlC I ∧ I 94 2 = nI p ∧ cf I 96 l = nI 0 ∧ cf I 96 (16 + l) = nI 0) := by
  unfold pre_ClueText_readClue at h
  obtain ⟨h0, h⟩ := h
  split at h
  · exact ⟨h0, _, _, _, rfl, h⟩
  · cases h
def post_ClueText_readClue (n : Nat) : fx_Post := fun st I J R r I' J' R' => match st with
  | [_, .ref q, .int v, .ref g] => Q_rC I J R (nv v) (nv (I 94 2)) r I' J' R'
  | _ => True
theorem pz_ClueText_readClue {st : List Value} {I : fx_MI} {J : fx_MJ} {R : fx_MR} (n : Nat) (h : pre_ClueText_readClue n st I J R) : ∃ q r, st = .ref q :: r ∧ (MC n).2.2.1 q = some (.inl 6) ∧ r.length = 3 := by
  obtain ⟨_, _, _, _, rfl, _⟩ := pi_ClueText_readClue h
  exact ⟨_, _, rfl, rfl, rfl⟩
def v_ClueText_readClue (n : Nat) : fx_Env := [(.invokevirtual 40, fx_tcall 1 (pre_ClueText_skipBlanks n) (post_ClueText_skipBlanks n)), (.invokevirtual 33, fx_tcall 1 (pre_ClueText_here n) (post_ClueText_here n)), (.invokestatic 43, fx_tcall 1 (pre_ClueText_isSmall n) (post_ClueText_isSmall n)), (.invokevirtual 47, fx_tcall 3 (pre_ClueText_readWord n) (post_ClueText_readWord n)), (.invokestatic 51, fx_tcall 1 (pre_ClueText_isDigit n) (post_ClueText_isDigit n)), (.getfield 24, fx_tget (MC n) 6 2), (.invokevirtual 54, fx_tcall 4 (pre_ClueText_readBlock n) (post_ClueText_readBlock n))]
abbrev rm_ClueText_readClue : Room := { frames := 6, cells := 0, slots := 0, locals := 132 }
abbrev ws_ClueText_readClue : List Cond := Cond.code y_ClueText_readClue b_ClueText_readClue 6 (some .int) :: w_C
theorem e_ClueText_c47 {l : Launch} {c0 : Cond} {rm : Room} {n nL : Nat} {cc : ByteArray} (hR : rm_ClueText_readWord.frames + 1 ≤ rm.frames ∧ 8 + (5 + 11) + rm_ClueText_readWord.locals ≤ rm.locals) : fx_E1S l R_ClueText (c0 :: w_C) rm (MC n) nL cc (.invokevirtual 47) (fx_tcall 3 (pre_ClueText_readWord n) (post_ClueText_readWord n)) := fx_callVS (ci := 6) (C := R_ClueText) rfl (c_ClueText_readWord l n) (w_C_G (w_C_h5 51 rfl) (w_C_h5 52 rfl) (w_C_h5 53 rfl) (w_C_h5 24 rfl) (w_C_h5 34 rfl)) rfl ⟨rfl, rfl⟩ (by decide) hR (fun st I J R h => pz_ClueText_readWord n h) (MC_ok n)
theorem e_ClueText_c51 {l : Launch} {c0 : Cond} {rm : Room} {n nL : Nat} {cc : ByteArray} (hR : rm_ClueText_isDigit.frames + 1 ≤ rm.frames ∧ 8 + (1 + 11) + rm_ClueText_isDigit.locals ≤ rm.locals) : fx_E1 l R_ClueText (c0 :: w_C) rm (MC n) nL cc (.invokestatic 51) (fx_tcall 1 (pre_ClueText_isDigit n) (post_ClueText_isDigit n)) := fx_callS2 (c_ClueText_isDigit l n) (w_C_GS (w_C_h5 54 rfl) (w_C_h5 55 rfl) (w_C_h5 24 rfl) (w_C_h5 35 rfl)) rfl ⟨rfl, rfl⟩ (by decide) hR (fun st I J R h => pz_ClueText_isDigit n h)
theorem e_ClueText_c54 {l : Launch} {c0 : Cond} {rm : Room} {n nL : Nat} {cc : ByteArray} (hR : rm_ClueText_readBlock.frames + 1 ≤ rm.frames ∧ 8 + (7 + 11) + rm_ClueText_readBlock.locals ≤ rm.locals) : fx_E1 l R_ClueText (c0 :: w_C) rm (MC n) nL cc (.invokevirtual 54) (fx_tcall 4 (pre_ClueText_readBlock n) (post_ClueText_readBlock n)) := fx_callV (ci := 6) (C := R_ClueText) rfl (c_ClueText_readBlock l n) (w_C_G (w_C_h5 56 rfl) (w_C_h5 57 rfl) (w_C_h5 58 rfl) (w_C_h5 24 rfl) (w_C_h5 50 rfl)) rfl ⟨rfl, rfl⟩ (by decide) hR (fun st I J R h => pz_ClueText_readBlock n h) (MC_ok n)
theorem vk_ClueText_readClue {l : Launch} {n : Nat} : fx_EVS l R_ClueText ws_ClueText_readClue rm_ClueText_readClue (MC n) 6 b_ClueText_readClue (v_ClueText_readClue n) := (fx_EVS_cons (fx_E1.S (e_ClueText_c40 (by decide))) (fx_EVS_cons (fx_E1.S (e_ClueText_c33 (by decide))) (fx_EVS_cons (fx_E1.S (e_ClueText_c43 (by decide))) (fx_EVS_cons (e_ClueText_c47 (by decide)) (fx_EVS_cons (fx_E1.S (e_ClueText_c51 (by decide))) (fx_EVS_cons (fx_E1.S e_ClueText_g24) (fx_EVS_cons (fx_E1.S (e_ClueText_c54 (by decide))) fx_EVS_nil)))))))
theorem r_ClueText_readClue (n : Nat) (st : List Value) (I : fx_MI) (J : fx_MJ) (R : fx_MR) (h : pre_ClueText_readClue n st I J R) : fx_sz st ≤ 6 ∧ fx_R 6 (MC n) (v_ClueText_readClue n) (some .int) (post_ClueText_readClue n st I J R) p_ClueText_readClue 0 (fx_en st) [] I J R := by
  obtain ⟨⟨b, rfl⟩, q, v, g, rfl, hp⟩ := pi_ClueText_readClue h
  clear h
  refine ⟨Nat.le_of_ble_eq_true rfl, ?_⟩
  obtain ⟨rfl, rfl, hd, ht, hcl, l, p0, hl, rfl, hple0, hI, hz1, hz2⟩ := hp
  obtain ⟨hw, hh, hc, e1, e2, e3⟩ := dimC_of hd
  have htl := okX_tl ht
  have hpost : ∀ r I' J' R', Q_rC I J (R0C b) l p0 r I' J' R' → post_ClueText_readClue n [.ref 94, .ref 96, .int (nI l), .ref 1] I J (R0C b) r I' J' R' := fun r I' J' R' h => by
    show Q_rC I J (R0C b) (nv (nI l)) (nv (I 94 2)) r I' J' R'
    rw [hI, nv_nI (by omega), nv_nI (by omega)]
    exact h
  have hm1 : (-1 : Int32) = -nI 1 := rfl
  obtain ⟨p, hp⟩ : ∃ p, skB (txC I) (tlC I) p0 = p := ⟨_, rfl⟩
  have hple : p ≤ tlC I := by rw [← hp]; exact (skB_le2 hple0).2
  obtain ⟨y, hy⟩ : ∃ y, pClue (txC I) (tlC I) (cC I) (cellsN (cW I) (cH I) l) p = y := ⟨_, rfl⟩
  have hfinal : ∀ x I', txL I I' → resW I I' l x y → post_ClueText_readClue n [.ref 94, .ref 96, .int (nI l), .ref 1] I J (R0C b) (some (.int x)) I' J (R0C b) := fun x I' hf hr => hpost _ _ _ _ ⟨x, rfl, rfl, rfl, hf, by rw [hp, hy]; exact hr⟩
  obtain ⟨o1, o2, o3, o4⟩ := txF_t (txF_up (I := I) (x := nI p)) ht
  -- the loop
  have hL : ∀ d m I', d + m = 9 → iRC I l y m I' → fx_R 6 (MC n) (v_ClueText_readClue n) (some .int) (post_ClueText_readClue n [.ref 94, .ref 96, .int (nI l), .ref 1] I J (R0C b)) p_ClueText_readClue 39 [some (.ref 94), some (.ref 96), some (.int (nI l)), some (.ref 1), some (.int (nI m))] [] I' J (R0C b) := by
    intro d
    induction d with
    | zero =>
      rintro m I' hdm ⟨-, -, -, p', ln, co, -, -, h3, -⟩
      have := h3.2.1
      omega
    | succ d ih =>
      intro m I' hdm hi
      obtain ⟨hf, hcl', hag, p', ln, co, h1, h2, h3, h4, h5, hyp⟩ := id hi
      obtain ⟨t1, t2, t3, t4⟩ := txF_t (txL_F hf) ht
      obtain ⟨d1, d2, d3, d4⟩ := txL_d hf
      have hm8 := h3.2.1
      have hin := byC_in ht p' (a := 49) (b := 56) (by omega) (by omega)
      have hin2 : in_M (byC I p') (nI 49) (nI 56) = isD (txC I) (tlC I) p' := hin
      refine fx_run1 (stops := [(39, 5)]) (K := fx_at 39 (fun L st I'' J' R' => iRC I l y (m + 1) I'' ∧ m + 1 ≤ 8 ∧ L = [some (.ref 94), some (.ref 96), some (.int (nI l)), some (.ref 1), some (.int (nI (m + 1)))] ∧ st = [] ∧ J' = J ∧ R' = R0C b)) ?_ 60 fun X hX => ?_
      · rintro pc L st I'' J' R' ⟨rfl, k0, k1, hL, k3, k5, k6⟩
        rw [hL, k3, k5, k6]
        exact ih (m + 1) I'' (by omega) k0
      simp only [q_ClueText_readClue_0 hX rfl, q_ClueText_readClue_1 hX rfl, q_ClueText_readClue_4 hX rfl, q_ClueText_readClue_5 hX rfl, q_ClueText_readClue_8 hX rfl, q_ClueText_readClue_11 hX rfl, q_ClueText_readClue_14 hX rfl, q_ClueText_readClue_15 hX rfl, q_ClueText_readClue_16 hX rfl, q_ClueText_readClue_17 hX rfl, q_ClueText_readClue_20 hX rfl, q_ClueText_readClue_21 hX rfl, q_ClueText_readClue_22 hX rfl, q_ClueText_readClue_25 hX rfl, q_ClueText_readClue_28 hX rfl, q_ClueText_readClue_31 hX rfl, q_ClueText_readClue_32 hX rfl, q_ClueText_readClue_35 hX rfl, q_ClueText_readClue_36 hX rfl, q_ClueText_readClue_37 hX rfl, hX.2 _ 39 5 _ _ _ _ _ rfl, q_ClueText_readClue_41 hX rfl, q_ClueText_readClue_43 hX rfl, q_ClueText_readClue_46 hX rfl, q_ClueText_readClue_47 hX rfl, q_ClueText_readClue_50 hX rfl, q_ClueText_readClue_53 hX rfl, q_ClueText_readClue_56 hX rfl, q_ClueText_readClue_57 hX rfl, q_ClueText_readClue_58 hX rfl, q_ClueText_readClue_59 hX rfl, q_ClueText_readClue_60 hX rfl, q_ClueText_readClue_63 hX rfl, q_ClueText_readClue_65 hX rfl, q_ClueText_readClue_67 hX rfl, q_ClueText_readClue_68 hX rfl, q_ClueText_readClue_71 hX rfl, q_ClueText_readClue_73 hX rfl, q_ClueText_readClue_74 hX rfl, q_ClueText_readClue_77 hX rfl, q_ClueText_readClue_80 hX rfl, q_ClueText_readClue_81 hX rfl, h_ClueText_readClue_39, fs_aload_n0, fs_aload_n1, fs_aload_n2, fs_aload_n3, fs_bipush, fs_getfield, fs_goto, fs_iconst, fs_ifCond, fs_if_icmp, fs_iinc, fs_iload, fs_iload_n0, fs_iload_n1, fs_iload_n2, fs_iload_n3, fs_invokestatic, fs_invokevirtual, fs_ireturn, fs_istore, v_ClueText_readClue, ci_0, lt_4_6, cb_8, lt_5_6, ci_m1, pre_ClueText_skipBlanks, post_ClueText_skipBlanks, pre_ClueText_here, post_ClueText_here, pre_ClueText_isSmall, post_ClueText_isSmall, pre_ClueText_readWord, post_ClueText_readWord, pre_ClueText_isDigit, post_ClueText_isDigit, pre_ClueText_readBlock, post_ClueText_readBlock, kd_C_6_2, pl_C_94, fx_oi_s, fx_ol_s, fx_or_s, fx_do_s, fx_lg_0, fx_lg_s, fx_ls_0, fx_ls_s, fx_ls_n0, fx_ls_ns, fx_en, fx_sz, Value.category, fx_nl, fx_lk, fx_tget, fx_tput, fx_tcall, fx_tldc, fx_fv, va_rf, fx_cat, fx_in, fx_cnd, fx_len, fx_narI, fx_narZ0, fx_narZ1, fx_narZb, zb_e, zb_ne, Option.some.injEq, Value.int.injEq, Value.long.injEq, Value.ref.injEq, List.cons.injEq, Nat.reduceAdd, Nat.reduceLeDiff, Nat.le_refl, List.take, List.drop, List.reverse_cons, List.reverse_nil, List.nil_append, List.cons_append, List.append_nil, List.map_cons, List.map_nil, List.sum_cons, List.sum_nil, List.length_cons, List.length_nil, Option.toList, fx_all4, forall_const, true_and, and_true, not_true_eq_false, not_false_eq_true, false_implies, true_implies, ne_eq, reduceCtorEq, Nat.reduceEqDiff, ite_true, ite_false, reduceIte, Instr.getfield.injEq, Instr.putfield.injEq, Instr.invokevirtual.injEq, Instr.invokestatic.injEq, Instr.ldc2_w.injEq, fx_tcopy, Instr.ldc.injEq, Instr.ldc_w.injEq, exists_eq_left, exists_prop, R0C_ex]
      simp (disch := omega) only [lit, nI_add, nI_mul', nI_sub', nI_clamp, nI_lt', nI_le', nI_eq', nI_in', iinc1, zb_n0, nI_div', nI_rem2, true_and, and_true, Nat.reduceEqDiff, Nat.reduceLeDiff, Nat.one_ne_zero, Nat.zero_ne_one, not_false_eq_true, not_true_eq_false, false_implies, true_implies, forall_const, Nat.zero_add, Nat.add_zero, nv_nI, up_eq, up_ne, fill_ne, nI_clamp, nI_add, h2, t4, hin2]
      have hpreB : isD (txC I) (tlC I) p' = true → preB I' l p' := fun hdg => ⟨d4 hd, t1, by rw [d1, d2]; exact hl, h2, by rw [t2, t3]; exact hdg, hcl'⟩
      have hend : isD (txC I) (tlC I) p' = false → post_ClueText_readClue n [.ref 94, .ref 96, .int (nI l), .ref 1] I J (R0C b) (some (.int (-nI 1))) I' J (R0C b) := fun hdg => by
        refine hfinal _ _ hf ?_
        obtain ⟨k, hk⟩ : ∃ k, 9 - m = k + 1 := ⟨8 - m, by omega⟩
        have hstep : y = .inr (p', 1, m, ln, co) := by
          rw [hyp, hk]
          unfold pBs
          rw [if_neg (by rw [hdg]; decide)]
        rw [hstep]
        have hm0 : 0 < m := Nat.pos_of_ne_zero fun z => by
          have := h5 z
          rw [hdg] at this
          cases this
        exact ⟨rfl, h2, hcl', hag, h4 hm0, h3.1, fun b hb => (h3.2.2 b hb).1⟩
      refine ⟨fun h => absurd h (by omega), fun _ => ⟨⟨t1, p', by omega, rfl⟩, hend, fun hdg => ⟨⟨l, p', rfl, hpreB (bnf hdg)⟩, fun r I2 J2 R2 hq => ?_⟩⟩⟩
      have hst := iRC_step hd ht hl hi h2 h1 (bnf hdg) hq
      obtain ⟨hJ, hR, -⟩ := id hq
      rw [hJ, hR]
      rcases hst with ⟨e, hy', he, rfl, hf2⟩ | ⟨hm8', rfl, hi2⟩
      · simp only [q_ClueText_readClue_0 hX rfl, q_ClueText_readClue_1 hX rfl, q_ClueText_readClue_4 hX rfl, q_ClueText_readClue_5 hX rfl, q_ClueText_readClue_8 hX rfl, q_ClueText_readClue_11 hX rfl, q_ClueText_readClue_14 hX rfl, q_ClueText_readClue_15 hX rfl, q_ClueText_readClue_16 hX rfl, q_ClueText_readClue_17 hX rfl, q_ClueText_readClue_20 hX rfl, q_ClueText_readClue_21 hX rfl, q_ClueText_readClue_22 hX rfl, q_ClueText_readClue_25 hX rfl, q_ClueText_readClue_28 hX rfl, q_ClueText_readClue_31 hX rfl, q_ClueText_readClue_32 hX rfl, q_ClueText_readClue_35 hX rfl, q_ClueText_readClue_36 hX rfl, q_ClueText_readClue_37 hX rfl, hX.2 _ 39 5 _ _ _ _ _ rfl, q_ClueText_readClue_41 hX rfl, q_ClueText_readClue_43 hX rfl, q_ClueText_readClue_46 hX rfl, q_ClueText_readClue_47 hX rfl, q_ClueText_readClue_50 hX rfl, q_ClueText_readClue_53 hX rfl, q_ClueText_readClue_56 hX rfl, q_ClueText_readClue_57 hX rfl, q_ClueText_readClue_58 hX rfl, q_ClueText_readClue_59 hX rfl, q_ClueText_readClue_60 hX rfl, q_ClueText_readClue_63 hX rfl, q_ClueText_readClue_65 hX rfl, q_ClueText_readClue_67 hX rfl, q_ClueText_readClue_68 hX rfl, q_ClueText_readClue_71 hX rfl, q_ClueText_readClue_73 hX rfl, q_ClueText_readClue_74 hX rfl, q_ClueText_readClue_77 hX rfl, q_ClueText_readClue_80 hX rfl, q_ClueText_readClue_81 hX rfl, h_ClueText_readClue_39, fs_aload_n0, fs_aload_n1, fs_aload_n2, fs_aload_n3, fs_bipush, fs_getfield, fs_goto, fs_iconst, fs_ifCond, fs_if_icmp, fs_iinc, fs_iload, fs_iload_n0, fs_iload_n1, fs_iload_n2, fs_iload_n3, fs_invokestatic, fs_invokevirtual, fs_ireturn, fs_istore, v_ClueText_readClue, ci_0, lt_4_6, cb_8, lt_5_6, ci_m1, pre_ClueText_skipBlanks, post_ClueText_skipBlanks, pre_ClueText_here, post_ClueText_here, pre_ClueText_isSmall, post_ClueText_isSmall, pre_ClueText_readWord, post_ClueText_readWord, pre_ClueText_isDigit, post_ClueText_isDigit, pre_ClueText_readBlock, post_ClueText_readBlock, kd_C_6_2, pl_C_94, fx_oi_s, fx_ol_s, fx_or_s, fx_do_s, fx_lg_0, fx_lg_s, fx_ls_0, fx_ls_s, fx_ls_n0, fx_ls_ns, fx_en, fx_sz, Value.category, fx_nl, fx_lk, fx_tget, fx_tput, fx_tcall, fx_tldc, fx_fv, va_rf, fx_cat, fx_in, fx_cnd, fx_len, fx_narI, fx_narZ0, fx_narZ1, fx_narZb, zb_e, zb_ne, Option.some.injEq, Value.int.injEq, Value.long.injEq, Value.ref.injEq, List.cons.injEq, Nat.reduceAdd, Nat.reduceLeDiff, Nat.le_refl, List.take, List.drop, List.reverse_cons, List.reverse_nil, List.nil_append, List.cons_append, List.append_nil, List.map_cons, List.map_nil, List.sum_cons, List.sum_nil, List.length_cons, List.length_nil, Option.toList, fx_all4, forall_const, true_and, and_true, not_true_eq_false, not_false_eq_true, false_implies, true_implies, ne_eq, reduceCtorEq, Nat.reduceEqDiff, ite_true, ite_false, reduceIte, Instr.getfield.injEq, Instr.putfield.injEq, Instr.invokevirtual.injEq, Instr.invokestatic.injEq, Instr.ldc2_w.injEq, fx_tcopy, Instr.ldc.injEq, Instr.ldc_w.injEq, exists_eq_left, exists_prop, R0C_ex]
        simp (disch := omega) only [lit, nI_add, nI_mul', nI_sub', nI_clamp, nI_lt', nI_le', nI_eq', nI_in', iinc1, zb_n0, nI_div', nI_rem2, true_and, and_true, Nat.reduceEqDiff, Nat.reduceLeDiff, Nat.one_ne_zero, Nat.zero_ne_one, not_false_eq_true, not_true_eq_false, false_implies, true_implies, forall_const, Nat.zero_add, Nat.add_zero, nv_nI, up_eq, up_ne, fill_ne, nI_clamp, nI_add, hm1, ne_m1]
        exact hfinal _ _ hf2 (by rw [hy']; rfl)
      · simp only [q_ClueText_readClue_0 hX rfl, q_ClueText_readClue_1 hX rfl, q_ClueText_readClue_4 hX rfl, q_ClueText_readClue_5 hX rfl, q_ClueText_readClue_8 hX rfl, q_ClueText_readClue_11 hX rfl, q_ClueText_readClue_14 hX rfl, q_ClueText_readClue_15 hX rfl, q_ClueText_readClue_16 hX rfl, q_ClueText_readClue_17 hX rfl, q_ClueText_readClue_20 hX rfl, q_ClueText_readClue_21 hX rfl, q_ClueText_readClue_22 hX rfl, q_ClueText_readClue_25 hX rfl, q_ClueText_readClue_28 hX rfl, q_ClueText_readClue_31 hX rfl, q_ClueText_readClue_32 hX rfl, q_ClueText_readClue_35 hX rfl, q_ClueText_readClue_36 hX rfl, q_ClueText_readClue_37 hX rfl, hX.2 _ 39 5 _ _ _ _ _ rfl, q_ClueText_readClue_41 hX rfl, q_ClueText_readClue_43 hX rfl, q_ClueText_readClue_46 hX rfl, q_ClueText_readClue_47 hX rfl, q_ClueText_readClue_50 hX rfl, q_ClueText_readClue_53 hX rfl, q_ClueText_readClue_56 hX rfl, q_ClueText_readClue_57 hX rfl, q_ClueText_readClue_58 hX rfl, q_ClueText_readClue_59 hX rfl, q_ClueText_readClue_60 hX rfl, q_ClueText_readClue_63 hX rfl, q_ClueText_readClue_65 hX rfl, q_ClueText_readClue_67 hX rfl, q_ClueText_readClue_68 hX rfl, q_ClueText_readClue_71 hX rfl, q_ClueText_readClue_73 hX rfl, q_ClueText_readClue_74 hX rfl, q_ClueText_readClue_77 hX rfl, q_ClueText_readClue_80 hX rfl, q_ClueText_readClue_81 hX rfl, h_ClueText_readClue_39, fs_aload_n0, fs_aload_n1, fs_aload_n2, fs_aload_n3, fs_bipush, fs_getfield, fs_goto, fs_iconst, fs_ifCond, fs_if_icmp, fs_iinc, fs_iload, fs_iload_n0, fs_iload_n1, fs_iload_n2, fs_iload_n3, fs_invokestatic, fs_invokevirtual, fs_ireturn, fs_istore, v_ClueText_readClue, ci_0, lt_4_6, cb_8, lt_5_6, ci_m1, pre_ClueText_skipBlanks, post_ClueText_skipBlanks, pre_ClueText_here, post_ClueText_here, pre_ClueText_isSmall, post_ClueText_isSmall, pre_ClueText_readWord, post_ClueText_readWord, pre_ClueText_isDigit, post_ClueText_isDigit, pre_ClueText_readBlock, post_ClueText_readBlock, kd_C_6_2, pl_C_94, fx_oi_s, fx_ol_s, fx_or_s, fx_do_s, fx_lg_0, fx_lg_s, fx_ls_0, fx_ls_s, fx_ls_n0, fx_ls_ns, fx_en, fx_sz, Value.category, fx_nl, fx_lk, fx_tget, fx_tput, fx_tcall, fx_tldc, fx_fv, va_rf, fx_cat, fx_in, fx_cnd, fx_len, fx_narI, fx_narZ0, fx_narZ1, fx_narZb, zb_e, zb_ne, Option.some.injEq, Value.int.injEq, Value.long.injEq, Value.ref.injEq, List.cons.injEq, Nat.reduceAdd, Nat.reduceLeDiff, Nat.le_refl, List.take, List.drop, List.reverse_cons, List.reverse_nil, List.nil_append, List.cons_append, List.append_nil, List.map_cons, List.map_nil, List.sum_cons, List.sum_nil, List.length_cons, List.length_nil, Option.toList, fx_all4, forall_const, true_and, and_true, not_true_eq_false, not_false_eq_true, false_implies, true_implies, ne_eq, reduceCtorEq, Nat.reduceEqDiff, ite_true, ite_false, reduceIte, Instr.getfield.injEq, Instr.putfield.injEq, Instr.invokevirtual.injEq, Instr.invokestatic.injEq, Instr.ldc2_w.injEq, fx_tcopy, Instr.ldc.injEq, Instr.ldc_w.injEq, exists_eq_left, exists_prop, R0C_ex]
        simp (disch := omega) only [lit, nI_add, nI_mul', nI_sub', nI_clamp, nI_lt', nI_le', nI_eq', nI_in', iinc1, zb_n0, nI_div', nI_rem2, true_and, and_true, Nat.reduceEqDiff, Nat.reduceLeDiff, Nat.one_ne_zero, Nat.zero_ne_one, not_false_eq_true, not_true_eq_false, false_implies, true_implies, forall_const, Nat.zero_add, Nat.add_zero, nv_nI, up_eq, up_ne, fill_ne, nI_clamp, nI_add, hm1]
        exact fx_at_i ⟨hi2, by omega, rfl, rfl, rfl, rfl⟩
  -- the beginning
  have hin := byC_in ht p (a := 97) (b := 122) (by omega) (by omega)
  have hin2 : in_M (byC I p) (nI 97) (nI 122) = isS (txC I) (tlC I) p := hin
  have hdn := byC_in ht p (a := 49) (b := 56) (by omega) (by omega)
  have hdn2 : in_M (byC I p) (nI 49) (nI 56) = isD (txC I) (tlC I) p := hdn
  refine fx_run (stops := [(39, 5)]) (K := fx_at 39 (fun L st I' J' R' => iRC I l y 0 I' ∧ L = [some (.ref 94), some (.ref 96), some (.int (nI l)), some (.ref 1), some (.int (nI 0))] ∧ st = [] ∧ J' = J ∧ R' = R0C b)) ?_ 60 fun X hX => ?_
  · rintro pc L st I' J' R' ⟨rfl, k0, hL', k3, k5, k6⟩
    rw [hL', k3, k5, k6]
    exact hL 9 0 I' rfl k0
  · simp only [q_ClueText_readClue_0 hX rfl, q_ClueText_readClue_1 hX rfl, q_ClueText_readClue_4 hX rfl, q_ClueText_readClue_5 hX rfl, q_ClueText_readClue_8 hX rfl, q_ClueText_readClue_11 hX rfl, q_ClueText_readClue_14 hX rfl, q_ClueText_readClue_15 hX rfl, q_ClueText_readClue_16 hX rfl, q_ClueText_readClue_17 hX rfl, q_ClueText_readClue_20 hX rfl, q_ClueText_readClue_21 hX rfl, q_ClueText_readClue_22 hX rfl, q_ClueText_readClue_25 hX rfl, q_ClueText_readClue_28 hX rfl, q_ClueText_readClue_31 hX rfl, q_ClueText_readClue_32 hX rfl, q_ClueText_readClue_35 hX rfl, q_ClueText_readClue_36 hX rfl, q_ClueText_readClue_37 hX rfl, hX.2 _ 39 5 _ _ _ _ _ rfl, q_ClueText_readClue_41 hX rfl, q_ClueText_readClue_43 hX rfl, q_ClueText_readClue_46 hX rfl, q_ClueText_readClue_47 hX rfl, q_ClueText_readClue_50 hX rfl, q_ClueText_readClue_53 hX rfl, q_ClueText_readClue_56 hX rfl, q_ClueText_readClue_57 hX rfl, q_ClueText_readClue_58 hX rfl, q_ClueText_readClue_59 hX rfl, q_ClueText_readClue_60 hX rfl, q_ClueText_readClue_63 hX rfl, q_ClueText_readClue_65 hX rfl, q_ClueText_readClue_67 hX rfl, q_ClueText_readClue_68 hX rfl, q_ClueText_readClue_71 hX rfl, q_ClueText_readClue_73 hX rfl, q_ClueText_readClue_74 hX rfl, q_ClueText_readClue_77 hX rfl, q_ClueText_readClue_80 hX rfl, q_ClueText_readClue_81 hX rfl, h_ClueText_readClue_39, fs_aload_n0, fs_aload_n1, fs_aload_n2, fs_aload_n3, fs_bipush, fs_getfield, fs_goto, fs_iconst, fs_ifCond, fs_if_icmp, fs_iinc, fs_iload, fs_iload_n0, fs_iload_n1, fs_iload_n2, fs_iload_n3, fs_invokestatic, fs_invokevirtual, fs_ireturn, fs_istore, v_ClueText_readClue, ci_0, lt_4_6, cb_8, lt_5_6, ci_m1, pre_ClueText_skipBlanks, post_ClueText_skipBlanks, pre_ClueText_here, post_ClueText_here, pre_ClueText_isSmall, post_ClueText_isSmall, pre_ClueText_readWord, post_ClueText_readWord, pre_ClueText_isDigit, post_ClueText_isDigit, pre_ClueText_readBlock, post_ClueText_readBlock, kd_C_6_2, pl_C_94, fx_oi_s, fx_ol_s, fx_or_s, fx_do_s, fx_lg_0, fx_lg_s, fx_ls_0, fx_ls_s, fx_ls_n0, fx_ls_ns, fx_en, fx_sz, Value.category, fx_nl, fx_lk, fx_tget, fx_tput, fx_tcall, fx_tldc, fx_fv, va_rf, fx_cat, fx_in, fx_cnd, fx_len, fx_narI, fx_narZ0, fx_narZ1, fx_narZb, zb_e, zb_ne, Option.some.injEq, Value.int.injEq, Value.long.injEq, Value.ref.injEq, List.cons.injEq, Nat.reduceAdd, Nat.reduceLeDiff, Nat.le_refl, List.take, List.drop, List.reverse_cons, List.reverse_nil, List.nil_append, List.cons_append, List.append_nil, List.map_cons, List.map_nil, List.sum_cons, List.sum_nil, List.length_cons, List.length_nil, Option.toList, fx_all4, forall_const, true_and, and_true, not_true_eq_false, not_false_eq_true, false_implies, true_implies, ne_eq, reduceCtorEq, Nat.reduceEqDiff, ite_true, ite_false, reduceIte, Instr.getfield.injEq, Instr.putfield.injEq, Instr.invokevirtual.injEq, Instr.invokestatic.injEq, Instr.ldc2_w.injEq, fx_tcopy, Instr.ldc.injEq, Instr.ldc_w.injEq, exists_eq_left, exists_prop, R0C_ex]
    simp (disch := omega) only [lit, nI_add, nI_mul', nI_sub', nI_clamp, nI_lt', nI_le', nI_eq', nI_in', iinc1, zb_n0, nI_div', nI_rem2, true_and, and_true, Nat.reduceEqDiff, Nat.reduceLeDiff, Nat.one_ne_zero, Nat.zero_ne_one, not_false_eq_true, not_true_eq_false, false_implies, true_implies, forall_const, Nat.zero_add, Nat.add_zero, nv_nI, up_eq, up_ne, fill_ne, nI_clamp, nI_add, hI, hp, o4, hin2, hdn2]
    have hcl1 : clR (cW I) (cH I) (cC I) (fx_up I 94 2 (nI p)) 96 (cf I 96) := clR_fr (fun p'' j h2 h3 => up_ne (by omega)) hcl
    have hinl : isS (txC I) (tlC I) p = false → isD (txC I) (tlC I) p = false → y = .inl p := fun h1 h2 => by
      rw [← hy]
      unfold pClue
      rw [if_neg (by rw [h1]; decide), if_neg (by rw [h2]; decide)]
    refine ⟨⟨ht, p0, by omega, rfl⟩, ⟨o1, p, by omega, rfl⟩, fun hs => ⟨⟨o1, p, by omega, rfl⟩, fun hdg => ?_, fun hdg => hfinal _ _ txL_up (by rw [hinl hs hdg]; rfl)⟩, fun hs => ⟨⟨o1, l, p, by omega, rfl, by rw [o3]; exact hple, rfl⟩, fun r I2 J2 R2 hq => ?_⟩⟩
    · refine fx_at_i ⟨⟨txL_up, clW_of hd txL_up hcl1, by rw [cf_94]; exact agO_rfl, p, fun _ => 0, fun _ => 0, hple, up_eq, ?_, fun z => by omega, fun _ => bnf hdg, ?_⟩, rfl, rfl, rfl, rfl⟩
      · rw [cf_94]
        exact ⟨hz2, by omega, fun b hb => by omega⟩
      · rw [← hy]
        unfold pClue
        rw [if_neg (by rw [hs]; decide), if_pos (bnf hdg)]
    · obtain ⟨hJ, hR, hq⟩ := hq
      rw [hJ, hR]
      rw [o2, o3] at hq
      have hs' := bnf hs
      have hres : ∀ w : Int32, ∀ has, has = (if w = nI 0 then 0 else 1) → y = .inr (skB (txC I) (tlC I) (skW (txC I) (tlC I) p), has, 0, fun _ => 0, fun _ => 0) → resW I (wdI (fx_up I 94 2 (nI p)) l p w) l (-nI 1) y := fun w has hh2 hy2 => by
        obtain ⟨w1, w2, w3, w4, w5⟩ := wd_ok (w := w) hd ht hcl hl rfl
        rw [hy2]
        refine ⟨rfl, w2, w3, w4, ?_, ?_, fun b hb => by omega⟩
        · rw [w5, hh2]
          show (if l = l then _ else _) = _
          rw [if_pos rfl]
          split <;> rfl
        · rw [w5]
          show (if 16 + l = l then _ else if 16 + l = 16 + l then _ else _) = _
          rw [if_neg (by omega), if_pos rfl]
      rcases hq with ⟨ha, rfl, rfl⟩ | ⟨ha, hn, rfl, rfl⟩ | ⟨ha, hn, rfl, rfl⟩
      · simp only [q_ClueText_readClue_0 hX rfl, q_ClueText_readClue_1 hX rfl, q_ClueText_readClue_4 hX rfl, q_ClueText_readClue_5 hX rfl, q_ClueText_readClue_8 hX rfl, q_ClueText_readClue_11 hX rfl, q_ClueText_readClue_14 hX rfl, q_ClueText_readClue_15 hX rfl, q_ClueText_readClue_16 hX rfl, q_ClueText_readClue_17 hX rfl, q_ClueText_readClue_20 hX rfl, q_ClueText_readClue_21 hX rfl, q_ClueText_readClue_22 hX rfl, q_ClueText_readClue_25 hX rfl, q_ClueText_readClue_28 hX rfl, q_ClueText_readClue_31 hX rfl, q_ClueText_readClue_32 hX rfl, q_ClueText_readClue_35 hX rfl, q_ClueText_readClue_36 hX rfl, q_ClueText_readClue_37 hX rfl, hX.2 _ 39 5 _ _ _ _ _ rfl, q_ClueText_readClue_41 hX rfl, q_ClueText_readClue_43 hX rfl, q_ClueText_readClue_46 hX rfl, q_ClueText_readClue_47 hX rfl, q_ClueText_readClue_50 hX rfl, q_ClueText_readClue_53 hX rfl, q_ClueText_readClue_56 hX rfl, q_ClueText_readClue_57 hX rfl, q_ClueText_readClue_58 hX rfl, q_ClueText_readClue_59 hX rfl, q_ClueText_readClue_60 hX rfl, q_ClueText_readClue_63 hX rfl, q_ClueText_readClue_65 hX rfl, q_ClueText_readClue_67 hX rfl, q_ClueText_readClue_68 hX rfl, q_ClueText_readClue_71 hX rfl, q_ClueText_readClue_73 hX rfl, q_ClueText_readClue_74 hX rfl, q_ClueText_readClue_77 hX rfl, q_ClueText_readClue_80 hX rfl, q_ClueText_readClue_81 hX rfl, h_ClueText_readClue_39, fs_aload_n0, fs_aload_n1, fs_aload_n2, fs_aload_n3, fs_bipush, fs_getfield, fs_goto, fs_iconst, fs_ifCond, fs_if_icmp, fs_iinc, fs_iload, fs_iload_n0, fs_iload_n1, fs_iload_n2, fs_iload_n3, fs_invokestatic, fs_invokevirtual, fs_ireturn, fs_istore, v_ClueText_readClue, ci_0, lt_4_6, cb_8, lt_5_6, ci_m1, pre_ClueText_skipBlanks, post_ClueText_skipBlanks, pre_ClueText_here, post_ClueText_here, pre_ClueText_isSmall, post_ClueText_isSmall, pre_ClueText_readWord, post_ClueText_readWord, pre_ClueText_isDigit, post_ClueText_isDigit, pre_ClueText_readBlock, post_ClueText_readBlock, kd_C_6_2, pl_C_94, fx_oi_s, fx_ol_s, fx_or_s, fx_do_s, fx_lg_0, fx_lg_s, fx_ls_0, fx_ls_s, fx_ls_n0, fx_ls_ns, fx_en, fx_sz, Value.category, fx_nl, fx_lk, fx_tget, fx_tput, fx_tcall, fx_tldc, fx_fv, va_rf, fx_cat, fx_in, fx_cnd, fx_len, fx_narI, fx_narZ0, fx_narZ1, fx_narZb, zb_e, zb_ne, Option.some.injEq, Value.int.injEq, Value.long.injEq, Value.ref.injEq, List.cons.injEq, Nat.reduceAdd, Nat.reduceLeDiff, Nat.le_refl, List.take, List.drop, List.reverse_cons, List.reverse_nil, List.nil_append, List.cons_append, List.append_nil, List.map_cons, List.map_nil, List.sum_cons, List.sum_nil, List.length_cons, List.length_nil, Option.toList, fx_all4, forall_const, true_and, and_true, not_true_eq_false, not_false_eq_true, false_implies, true_implies, ne_eq, reduceCtorEq, Nat.reduceEqDiff, ite_true, ite_false, reduceIte, Instr.getfield.injEq, Instr.putfield.injEq, Instr.invokevirtual.injEq, Instr.invokestatic.injEq, Instr.ldc2_w.injEq, fx_tcopy, Instr.ldc.injEq, Instr.ldc_w.injEq, exists_eq_left, exists_prop, R0C_ex]
        refine hfinal _ _ (wd_ok (w := 0) hd ht hcl hl rfl).1 (hres 0 0 rfl ?_)
        rw [← hy]
        unfold pClue
        rw [if_pos hs', if_pos ha]
      · simp only [q_ClueText_readClue_0 hX rfl, q_ClueText_readClue_1 hX rfl, q_ClueText_readClue_4 hX rfl, q_ClueText_readClue_5 hX rfl, q_ClueText_readClue_8 hX rfl, q_ClueText_readClue_11 hX rfl, q_ClueText_readClue_14 hX rfl, q_ClueText_readClue_15 hX rfl, q_ClueText_readClue_16 hX rfl, q_ClueText_readClue_17 hX rfl, q_ClueText_readClue_20 hX rfl, q_ClueText_readClue_21 hX rfl, q_ClueText_readClue_22 hX rfl, q_ClueText_readClue_25 hX rfl, q_ClueText_readClue_28 hX rfl, q_ClueText_readClue_31 hX rfl, q_ClueText_readClue_32 hX rfl, q_ClueText_readClue_35 hX rfl, q_ClueText_readClue_36 hX rfl, q_ClueText_readClue_37 hX rfl, hX.2 _ 39 5 _ _ _ _ _ rfl, q_ClueText_readClue_41 hX rfl, q_ClueText_readClue_43 hX rfl, q_ClueText_readClue_46 hX rfl, q_ClueText_readClue_47 hX rfl, q_ClueText_readClue_50 hX rfl, q_ClueText_readClue_53 hX rfl, q_ClueText_readClue_56 hX rfl, q_ClueText_readClue_57 hX rfl, q_ClueText_readClue_58 hX rfl, q_ClueText_readClue_59 hX rfl, q_ClueText_readClue_60 hX rfl, q_ClueText_readClue_63 hX rfl, q_ClueText_readClue_65 hX rfl, q_ClueText_readClue_67 hX rfl, q_ClueText_readClue_68 hX rfl, q_ClueText_readClue_71 hX rfl, q_ClueText_readClue_73 hX rfl, q_ClueText_readClue_74 hX rfl, q_ClueText_readClue_77 hX rfl, q_ClueText_readClue_80 hX rfl, q_ClueText_readClue_81 hX rfl, h_ClueText_readClue_39, fs_aload_n0, fs_aload_n1, fs_aload_n2, fs_aload_n3, fs_bipush, fs_getfield, fs_goto, fs_iconst, fs_ifCond, fs_if_icmp, fs_iinc, fs_iload, fs_iload_n0, fs_iload_n1, fs_iload_n2, fs_iload_n3, fs_invokestatic, fs_invokevirtual, fs_ireturn, fs_istore, v_ClueText_readClue, ci_0, lt_4_6, cb_8, lt_5_6, ci_m1, pre_ClueText_skipBlanks, post_ClueText_skipBlanks, pre_ClueText_here, post_ClueText_here, pre_ClueText_isSmall, post_ClueText_isSmall, pre_ClueText_readWord, post_ClueText_readWord, pre_ClueText_isDigit, post_ClueText_isDigit, pre_ClueText_readBlock, post_ClueText_readBlock, kd_C_6_2, pl_C_94, fx_oi_s, fx_ol_s, fx_or_s, fx_do_s, fx_lg_0, fx_lg_s, fx_ls_0, fx_ls_s, fx_ls_n0, fx_ls_ns, fx_en, fx_sz, Value.category, fx_nl, fx_lk, fx_tget, fx_tput, fx_tcall, fx_tldc, fx_fv, va_rf, fx_cat, fx_in, fx_cnd, fx_len, fx_narI, fx_narZ0, fx_narZ1, fx_narZb, zb_e, zb_ne, Option.some.injEq, Value.int.injEq, Value.long.injEq, Value.ref.injEq, List.cons.injEq, Nat.reduceAdd, Nat.reduceLeDiff, Nat.le_refl, List.take, List.drop, List.reverse_cons, List.reverse_nil, List.nil_append, List.cons_append, List.append_nil, List.map_cons, List.map_nil, List.sum_cons, List.sum_nil, List.length_cons, List.length_nil, Option.toList, fx_all4, forall_const, true_and, and_true, not_true_eq_false, not_false_eq_true, false_implies, true_implies, ne_eq, reduceCtorEq, Nat.reduceEqDiff, ite_true, ite_false, reduceIte, Instr.getfield.injEq, Instr.putfield.injEq, Instr.invokevirtual.injEq, Instr.invokestatic.injEq, Instr.ldc2_w.injEq, fx_tcopy, Instr.ldc.injEq, Instr.ldc_w.injEq, exists_eq_left, exists_prop, R0C_ex]
        refine hfinal _ _ (wd_ok (w := 1) hd ht hcl hl rfl).1 (hres 1 1 (by rw [if_neg (by decide)]) ?_)
        rw [← hy]
        unfold pClue
        rw [if_pos hs', if_neg ha, if_pos hn]
      · simp only [q_ClueText_readClue_0 hX rfl, q_ClueText_readClue_1 hX rfl, q_ClueText_readClue_4 hX rfl, q_ClueText_readClue_5 hX rfl, q_ClueText_readClue_8 hX rfl, q_ClueText_readClue_11 hX rfl, q_ClueText_readClue_14 hX rfl, q_ClueText_readClue_15 hX rfl, q_ClueText_readClue_16 hX rfl, q_ClueText_readClue_17 hX rfl, q_ClueText_readClue_20 hX rfl, q_ClueText_readClue_21 hX rfl, q_ClueText_readClue_22 hX rfl, q_ClueText_readClue_25 hX rfl, q_ClueText_readClue_28 hX rfl, q_ClueText_readClue_31 hX rfl, q_ClueText_readClue_32 hX rfl, q_ClueText_readClue_35 hX rfl, q_ClueText_readClue_36 hX rfl, q_ClueText_readClue_37 hX rfl, hX.2 _ 39 5 _ _ _ _ _ rfl, q_ClueText_readClue_41 hX rfl, q_ClueText_readClue_43 hX rfl, q_ClueText_readClue_46 hX rfl, q_ClueText_readClue_47 hX rfl, q_ClueText_readClue_50 hX rfl, q_ClueText_readClue_53 hX rfl, q_ClueText_readClue_56 hX rfl, q_ClueText_readClue_57 hX rfl, q_ClueText_readClue_58 hX rfl, q_ClueText_readClue_59 hX rfl, q_ClueText_readClue_60 hX rfl, q_ClueText_readClue_63 hX rfl, q_ClueText_readClue_65 hX rfl, q_ClueText_readClue_67 hX rfl, q_ClueText_readClue_68 hX rfl, q_ClueText_readClue_71 hX rfl, q_ClueText_readClue_73 hX rfl, q_ClueText_readClue_74 hX rfl, q_ClueText_readClue_77 hX rfl, q_ClueText_readClue_80 hX rfl, q_ClueText_readClue_81 hX rfl, h_ClueText_readClue_39, fs_aload_n0, fs_aload_n1, fs_aload_n2, fs_aload_n3, fs_bipush, fs_getfield, fs_goto, fs_iconst, fs_ifCond, fs_if_icmp, fs_iinc, fs_iload, fs_iload_n0, fs_iload_n1, fs_iload_n2, fs_iload_n3, fs_invokestatic, fs_invokevirtual, fs_ireturn, fs_istore, v_ClueText_readClue, ci_0, lt_4_6, cb_8, lt_5_6, ci_m1, pre_ClueText_skipBlanks, post_ClueText_skipBlanks, pre_ClueText_here, post_ClueText_here, pre_ClueText_isSmall, post_ClueText_isSmall, pre_ClueText_readWord, post_ClueText_readWord, pre_ClueText_isDigit, post_ClueText_isDigit, pre_ClueText_readBlock, post_ClueText_readBlock, kd_C_6_2, pl_C_94, fx_oi_s, fx_ol_s, fx_or_s, fx_do_s, fx_lg_0, fx_lg_s, fx_ls_0, fx_ls_s, fx_ls_n0, fx_ls_ns, fx_en, fx_sz, Value.category, fx_nl, fx_lk, fx_tget, fx_tput, fx_tcall, fx_tldc, fx_fv, va_rf, fx_cat, fx_in, fx_cnd, fx_len, fx_narI, fx_narZ0, fx_narZ1, fx_narZb, zb_e, zb_ne, Option.some.injEq, Value.int.injEq, Value.long.injEq, Value.ref.injEq, List.cons.injEq, Nat.reduceAdd, Nat.reduceLeDiff, Nat.le_refl, List.take, List.drop, List.reverse_cons, List.reverse_nil, List.nil_append, List.cons_append, List.append_nil, List.map_cons, List.map_nil, List.sum_cons, List.sum_nil, List.length_cons, List.length_nil, Option.toList, fx_all4, forall_const, true_and, and_true, not_true_eq_false, not_false_eq_true, false_implies, true_implies, ne_eq, reduceCtorEq, Nat.reduceEqDiff, ite_true, ite_false, reduceIte, Instr.getfield.injEq, Instr.putfield.injEq, Instr.invokevirtual.injEq, Instr.invokestatic.injEq, Instr.ldc2_w.injEq, fx_tcopy, Instr.ldc.injEq, Instr.ldc_w.injEq, exists_eq_left, exists_prop, R0C_ex]
        refine hfinal _ _ (txL_trans txL_up txL_up) ?_
        have : y = .inl p := by
          rw [← hy]
          unfold pClue
          rw [if_pos hs', if_neg ha, if_neg hn]
        rw [this]
        rfl
theorem c_ClueText_readClue (l : Launch) (n : Nat) : fx_MetS l y_ClueText_readClue ws_ClueText_readClue rm_ClueText_readClue (MC n) (pre_ClueText_readClue n) (post_ClueText_readClue n) := fx_metS (MC_ok n) (MC_tys n) (by decide) rfl pk_ClueText_readClue vk_ClueText_readClue (fun st I J R h => r_ClueText_readClue n st I J R h)

