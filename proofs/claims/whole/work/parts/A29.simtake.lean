/-! the class: takeClue, takeClues (own work) -/
theorem clR_same {w h c q : Nat} {I : fx_MI} {f g : Nat → Int32} (hwh : h + w ≤ 16) (he : ∀ l, l < 16 → g l = f l ∧ g (16 + l) = f (16 + l) ∧ ∀ b, b < manyN f l → g (32 + (8 * l + b)) = f (32 + (8 * l + b)) ∧ g (160 + (8 * l + b)) = f (160 + (8 * l + b))) (h1 : clR w h c I q f) : clR w h c I q g := by
  have hm : ∀ l, l < 16 → manyN g l = manyN f l := fun l hl => by
    unfold manyN
    rw [(he l hl).2.1]
  refine ⟨fun l hl => ?_, h1.2.1, fun l hl => ?_⟩
  · obtain ⟨e1, e2, e3⟩ := he l hl
    obtain ⟨g1, g2, g3, g4⟩ := h1.1 l hl
    refine ⟨⟨by rw [e1]; exact g1.1, by rw [e2]; exact g1.2.1, by rw [e1, e2]; exact g1.2.2.1, fun b hb => ?_⟩, by rw [e1]; exact g2, by rw [e2]; exact g3, fun b hb => ?_⟩
    · rw [hm l hl] at hb
      have := g1.2.2.2 b hb
      unfold lenN colN at this ⊢
      rw [(e3 b hb).1, (e3 b hb).2]
      exact this
    · rw [hm l hl] at hb
      rw [(e3 b hb).1, (e3 b hb).2]
      exact g4 b hb
  · obtain ⟨e1, e2, e3⟩ := he l (by omega)
    have hroom : roomN g l (manyN f l) = roomN f l (manyN f l) := by
      unfold roomN
      refine sm_cong fun b hb => ?_
      unfold lenN gapN
      by_cases hb0 : 0 < b
      · have e4 := (e3 (b - 1) (by omega)).2
        rw [show 160 + (8 * l + (b - 1)) = 160 + (8 * l + b) - 1 by omega] at e4
        rw [(e3 b hb).1, (e3 b hb).2, e4]
      · rw [(e3 b hb).1, if_neg (fun z => hb0 z.1), if_neg (fun z => hb0 z.1)]
    rw [hm l (by omega), hroom]
    exact h1.2.2 l hl
/-- the clue of a line after the first i cells, on either side -/
def tkE (g : Nat → Nat) (n i : Nat) : Bool := decide ((i + 1 = n ∨ g (i + 1) ≠ g i) ∧ 0 < g i)
theorem tkE_i {g : Nat → Nat} {n i : Nat} : tkE g n i = true ↔ (i + 1 = n ∨ g (i + 1) ≠ g i) ∧ 0 < g i := decide_eq_true_iff
def tkR (f : Nat → Int32) (l : Nat) (g : Nat → Nat) (n : Nat) : Nat → Nat → Int32
  | 0 => resF f l (nI 1)
  | i + 1 => if tkE g n i = true then appF (tkR f l g n i) l (tkS g n i).2.1 (nI ((tkS g n i).1 + 1)) (nI (g i)) else tkR f l g n i
def tkC (I : fx_MI) (q l : Nat) (g : Nat → Nat) (n : Nat) : Nat → fx_MI
  | 0 => resC I q l 1
  | i + 1 => if tkE g n i = true then apC (tkC I q l g n i) q l (tkS g n i).2.1 (nI ((tkS g n i).1 + 1)) (nI (g i)) else tkC I q l g n i
theorem tkS_c {g g' : Nat → Nat} {n : Nat} (he : ∀ i, i < n → g' i = g i) : ∀ {i : Nat}, i ≤ n → tkS g' n i = tkS g n i
  | 0, _ => rfl
  | i + 1, hi => by
    unfold tkS
    rw [tkS_c he (show i ≤ n by omega), he i (by omega)]
    by_cases h1 : i + 1 = n
    · rw [if_pos (Or.inl h1), if_pos (Or.inl h1)]
    · rw [he (i + 1) (by omega)]
theorem tkE_c {g g' : Nat → Nat} {n i : Nat} (he : ∀ i, i < n → g' i = g i) (hi : i < n) : tkE g' n i = true ↔ tkE g n i = true := by
  rw [tkE_i, tkE_i, he i hi]
  by_cases h1 : i + 1 = n
  · simp only [h1, true_or]
  · rw [he (i + 1) (by omega)]
theorem tkC_c {g g' : Nat → Nat} {n : Nat} {I : fx_MI} {q l : Nat} (he : ∀ i, i < n → g' i = g i) : ∀ {i : Nat}, i ≤ n → tkC I q l g' n i = tkC I q l g n i
  | 0, _ => rfl
  | i + 1, hi => by
    have h1 := tkE_c he (show i < n by omega)
    unfold tkC
    rw [tkC_c he (show i ≤ n by omega), tkS_c he (show i ≤ n by omega), he i (by omega)]
    by_cases h2 : tkE g n i = true
    · rw [if_pos h2, if_pos (h1.mpr h2)]
    · rw [if_neg h2, if_neg (fun z => h2 (h1.mp z))]
theorem tkC_o {g : Nat → Nat} {n : Nat} {I : fx_MI} {q l p j : Nat} (h : p < q ∨ q + 4 < p) : ∀ {i : Nat}, tkC I q l g n i p j = I p j
  | 0 => rs_o (by omega)
  | i + 1 => by
    unfold tkC
    split
    · rw [ap_o h]
      exact tkC_o h
    · exact tkC_o h
theorem tkS_s (g : Nat → Nat) (n i : Nat) : tkS g n (i + 1) = if tkE g n i = true then (0, (tkS g n i).2.1 + 1, updM (tkS g n i).2.2.1 (tkS g n i).2.1 ((tkS g n i).1 + 1), updM (tkS g n i).2.2.2 (tkS g n i).2.1 (g i)) else if i + 1 = n ∨ g (i + 1) ≠ g i then (0, (tkS g n i).2) else ((tkS g n i).1 + 1, (tkS g n i).2) := by
  have e : tkS g n (i + 1) = if i + 1 = n ∨ g (i + 1) ≠ g i then (if 0 < g i then (0, (tkS g n i).2.1 + 1, updM (tkS g n i).2.2.1 (tkS g n i).2.1 ((tkS g n i).1 + 1), updM (tkS g n i).2.2.2 (tkS g n i).2.1 (g i)) else (0, (tkS g n i).2)) else ((tkS g n i).1 + 1, (tkS g n i).2) := rfl
  rw [e]
  by_cases h1 : i + 1 = n ∨ g (i + 1) ≠ g i
  · by_cases h2 : 0 < g i
    · rw [if_pos h1, if_pos h2, if_pos (tkE_i.mpr ⟨h1, h2⟩)]
    · rw [if_pos h1, if_neg h2, if_neg (fun z => h2 (tkE_i.mp z).2), if_pos h1]
  · rw [if_neg h1, if_neg (fun z => h1 (tkE_i.mp z).1), if_neg h1]
section TK_
variable {w h c q l n : Nat} {I : fx_MI} {f : Nat → Int32} {g : Nat → Nat}
theorem tkR_o {k : Nat} (h1 : k ≠ l) (h2 : k ≠ 16 + l) (h3 : k < 32 + 8 * l ∨ 40 + 8 * l ≤ k) (h4 : k < 160 + 8 * l ∨ 168 + 8 * l ≤ k) (hn : n ≤ 8) : ∀ {i : Nat}, i ≤ n → tkR f l g n i k = f k
  | 0, _ => by
    show resF f l (nI 1) k = _
    unfold resF
    rw [if_neg h1, if_neg h2]
  | i + 1, hi => by
    have ih := tkR_o h1 h2 h3 h4 hn (show i ≤ n by omega)
    have hm := (tkS_le g n i).2
    unfold tkR
    split
    · unfold appF
      rw [if_neg h1, if_neg h2, if_neg (by omega), if_neg (by omega)]
      exact ih
    · exact ih
theorem tk_all (hc : c ≤ 3) (hw8 : w ≤ 8) (hh8 : h ≤ 8) (hl : l < h + w) (h1 : clR w h c I q f) (hn : n = cellsN w h l) (hg : ∀ i, i < n → g i ≤ c) : ∀ {i : Nat}, i ≤ n → clR w h c (tkC I q l g n i) q (tkR f l g n i) ∧ clueIs (tkR f l g n i) l (tkS g n i).2.1 (tkS g n i).2.2.1 (tkS g n i).2.2.2 ∧ roomN (tkR f l g n i) l (tkS g n i).2.1 + (tkS g n i).1 ≤ i ∧ (i < n → 0 < (tkS g n i).2.1 → tkR f l g n i (160 + (8 * l + (tkS g n i).2.1) - 1) = nI (g i) → roomN (tkR f l g n i) l (tkS g n i).2.1 + 1 + (tkS g n i).1 ≤ i)
  | 0, _ => by
    have e := clR_res (y := 1) (by omega) hl h1
    refine ⟨e, ⟨if_pos rfl, ?_, fun b hb => absurd hb (Nat.not_lt_zero _)⟩, Nat.le_refl _, fun _ h2 => absurd h2 (Nat.not_lt_zero _)⟩
    show resF f l (nI 1) (16 + l) = _
    unfold resF
    rw [if_neg (by omega), if_pos rfl]
    rfl
  | i + 1, hi => by
    obtain ⟨a1, a2, a3, a4⟩ := tk_all hc hw8 hh8 hl h1 hn hg (show i ≤ n by omega)
    have hcl := cellsN_le (l := l) hw8 hh8
    have hle := tkS_le g n i
    have hgi := hg i (by omega)
    rw [tkS_s]
    have e1 : tkR f l g n (i + 1) = if tkE g n i = true then appF (tkR f l g n i) l (tkS g n i).2.1 (nI ((tkS g n i).1 + 1)) (nI (g i)) else tkR f l g n i := rfl
    have e2 : tkC I q l g n (i + 1) = if tkE g n i = true then apC (tkC I q l g n i) q l (tkS g n i).2.1 (nI ((tkS g n i).1 + 1)) (nI (g i)) else tkC I q l g n i := rfl
    rw [e1, e2]
    generalize hF : tkR f l g n i = F at *
    generalize hI : tkC I q l g n i = I1 at *
    generalize hm : (tkS g n i).2.1 = m at *
    generalize hr : (tkS g n i).1 = rr at *
    generalize hln : (tkS g n i).2.2.1 = ln at *
    generalize hco : (tkS g n i).2.2.2 = co at *
    by_cases hE : tkE g n i = true
    · rw [if_pos hE, if_pos hE, if_pos hE]
      have hmany : manyN F l = m := by
        unfold manyN
        rw [a2.2.1, nv_nI (by omega)]
      have hgk : gapK F l m (nI (g i)) = 0 ∨ gapK F l m (nI (g i)) = 1 ∧ roomN F l m + 1 + rr ≤ i := by
        unfold gapK
        by_cases h5 : 0 < m ∧ F (160 + (8 * l + m) - 1) = nI (g i)
        · rw [if_pos h5]
          exact Or.inr ⟨rfl, a4 (by omega) h5.1 h5.2⟩
        · rw [if_neg h5]
          exact Or.inl rfl
      have hroom : roomN F l m + (rr + 1) + gapK F l m (nI (g i)) ≤ i + 1 := by omega
      obtain ⟨hm8, hnew⟩ := clR_app (a := rr + 1) (d := g i) hc hw8 hh8 hl a1 hmany ⟨by omega, by omega⟩ ⟨(tkE_i.mp hE).2, hgi⟩ (by omega)
      have hz : ∀ k, appF F l m (nI (rr + 1)) (nI (g i)) k = if k = l then nI 1 else if k = 16 + l then nI (m + 1) else if k = 32 + (8 * l + m) then nI (rr + 1) else if k = 160 + (8 * l + m) then nI (g i) else F k := fun k => rfl
      have zo : ∀ k, k ≠ l → k ≠ 16 + l → k ≠ 32 + (8 * l + m) → k ≠ 160 + (8 * l + m) → appF F l m (nI (rr + 1)) (nI (g i)) k = F k := fun k z1 z2 z3 z4 => by
        rw [hz, if_neg z1, if_neg z2, if_neg z3, if_neg z4]
      have hsame : roomN (appF F l m (nI (rr + 1)) (nI (g i))) l m = roomN F l m := by
        unfold roomN
        refine sm_cong fun b hb => ?_
        unfold lenN gapN
        by_cases hb0 : 0 < b
        · rw [zo _ (by omega) (by omega) (by omega) (by omega), zo _ (by omega) (by omega) (by omega) (by omega), zo _ (by omega) (by omega) (by omega) (by omega)]
        · rw [zo _ (by omega) (by omega) (by omega) (by omega), if_neg (fun z => hb0 z.1), if_neg (fun z => hb0 z.1)]
      have z3 : appF F l m (nI (rr + 1)) (nI (g i)) (32 + (8 * l + m)) = nI (rr + 1) := by rw [hz, if_neg (by omega), if_neg (by omega), if_pos rfl]
      have z4 : appF F l m (nI (rr + 1)) (nI (g i)) (160 + (8 * l + m)) = nI (g i) := by rw [hz, if_neg (by omega), if_neg (by omega), if_neg (by omega), if_pos rfl]
      have hgap : gapN (appF F l m (nI (rr + 1)) (nI (g i))) l m = gapK F l m (nI (g i)) := by
        unfold gapN gapK
        by_cases h0 : 0 < m
        · rw [z4, zo (160 + (8 * l + m) - 1) (by omega) (by omega) (by omega) (by omega)]
          by_cases h2 : F (160 + (8 * l + m) - 1) = nI (g i)
          · rw [if_pos ⟨h0, h2.symm⟩, if_pos ⟨h0, h2⟩]
          · rw [if_neg (fun z => h2 z.2.symm), if_neg (fun z => h2 z.2)]
        · rw [if_neg (fun z => h0 z.1), if_neg (fun z => h0 z.1)]
      have hlen : lenN (appF F l m (nI (rr + 1)) (nI (g i))) l m = rr + 1 := by
        unfold lenN
        rw [z3, nv_nI (by omega)]
      refine ⟨hnew, ⟨if_pos rfl, ?_, fun b hb => ?_⟩, ?_, fun h5 h6 h7 => ?_⟩
      · rw [hz, if_neg (by omega), if_pos rfl]
      · have hb' : b < m + 1 := hb
        show _ = nI (updM ln m (rr + 1) b) ∧ _ = nI (updM co m (g i) b)
        unfold updM
        by_cases hbm : b = m
        · rw [hbm, if_pos rfl, if_pos rfl]
          exact ⟨z3, z4⟩
        · rw [if_neg hbm, if_neg hbm, zo _ (by omega) (by omega) (by omega) (by omega), zo _ (by omega) (by omega) (by omega) (by omega)]
          exact a2.2.2 b (by omega)
      · show roomN _ l (m + 1) + 0 ≤ i + 1
        rw [room_s, hsame, hlen, hgap]
        omega
      · rcases (tkE_i.mp hE).1 with h8 | h8
        · omega
        · have h9 : (160 + (8 * l + (m + 1)) - 1) = 160 + (8 * l + m) := by omega
          have h7' : appF F l m (nI (rr + 1)) (nI (g i)) (160 + (8 * l + (m + 1)) - 1) = nI (g (i + 1)) := h7
          rw [h9, z4] at h7'
          have hgi2 := hg (i + 1) h5
          have := congrArg nv h7'
          rw [nv_nI (by omega), nv_nI (by omega)] at this
          exact absurd this.symm h8
    · rw [if_neg hE, if_neg hE, if_neg hE]
      by_cases h2 : i + 1 = n ∨ g (i + 1) ≠ g i
      · rw [if_pos h2]
        refine ⟨a1, ?_, ?_, fun h5 h6 h7 => ?_⟩
        · show clueIs F l (tkS g n i).2.1 (tkS g n i).2.2.1 (tkS g n i).2.2.2
          rw [hm, hln, hco]
          exact a2
        · show roomN F l (tkS g n i).2.1 + 0 ≤ i + 1
          rw [hm]
          omega
        · show roomN F l (tkS g n i).2.1 + 1 + 0 ≤ i + 1
          rw [hm]
          omega
      · rw [if_neg h2]
        refine ⟨a1, ?_, ?_, fun h5 h6 h7 => ?_⟩
        · show clueIs F l (tkS g n i).2.1 (tkS g n i).2.2.1 (tkS g n i).2.2.2
          rw [hm, hln, hco]
          exact a2
        · show roomN F l (tkS g n i).2.1 + (rr + 1) ≤ i + 1
          rw [hm]
          omega
        · have h6' : 0 < (tkS g n i).2.1 := h6
          have h7' : F (160 + (8 * l + (tkS g n i).2.1) - 1) = nI (g (i + 1)) := h7
          rw [hm] at h6' h7'
          show roomN F l (tkS g n i).2.1 + 1 + (rr + 1) ≤ i + 1
          rw [hm]
          have h8 : g (i + 1) = g i := Classical.byContradiction fun z => h2 (Or.inr z)
          rw [h8] at h7'
          have := a4 (by omega) h6' h7'
          omega
end TK_
