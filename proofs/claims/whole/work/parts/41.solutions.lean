/-! solutions, as mathematics -/
/-- the picture p is a solution under marks u -/
def sol (w h : Nat) (f : Nat → Int32) (u p : Nat → Nat) : Prop := (∀ k, k < w * h → u k / 2 ^ (p k) % 2 = 1) ∧ ∀ l, l < h + w → ¬ f l = nI 0 → ∃ s, vld f l (cellsN w h l) s ∧ ∀ i, i < cellsN w h l → p (atN w h l i) = pcN f l s (manyN f l) i
theorem bit_lt {x c : Nat} (hx : x < 16) (h : x / 2 ^ c % 2 = 1) : c < 4 := by
  rcases Nat.lt_or_ge c 4 with h1 | h1
  · exact h1
  · have h2 : 2 ^ 4 ≤ 2 ^ c := Nat.pow_le_pow_right (by omega) h1
    rw [Nat.div_eq_of_lt (by omega)] at h
    omega
theorem row_sol {f f' : Nat → Int32} (hr : ∀ j, j < 288 → f' j = f j) (hok : ∀ l, l < 16 → okl 3 f l) {w h : Nat} (hwh : h + w ≤ 16) {u p : Nat → Nat} : sol w h f' u p ↔ sol w h f u p := by
  unfold sol
  refine and_congr Iff.rfl (forall_congr' fun l => ?_)
  constructor
  · intro g hl hn
    obtain ⟨s, h1, h2⟩ := g hl (by rw [hr l (by omega)]; exact hn)
    have hm := (many_eq (hok l (by omega))).2
    refine ⟨s, (row_vld hr (by omega) hm).mp h1, fun i hi => ?_⟩
    rw [h2 i hi, row_many hr (by omega), row_pcN hr (by omega) hm]
  · intro g hl hn
    obtain ⟨s, h1, h2⟩ := g hl (by rw [← hr l (by omega)]; exact hn)
    have hm := (many_eq (hok l (by omega))).2
    refine ⟨s, (row_vld hr (by omega) hm).mpr h1, fun i hi => ?_⟩
    rw [h2 i hi, row_many hr (by omega), row_pcN hr (by omega) hm]
/-- a solution is a fixed point of narrowing -/
theorem sol_good {w h : Nat} {f : Nat → Int32} {u p : Nat → Nat} (hok : ∀ l, l < 16 → okl 3 f l) (hw : w ≤ 8) (hh : h ≤ 8) (hu : ∀ k, k < w * h → u k < 16) (hs : sol w h f u p) : ∃ r : Nat → Nat, (∀ k, sub (r k) (u k)) ∧ good w h f 2 r ∧ ∀ k, k < w * h → r k = 2 ^ (p k) := by
  have hp4 : ∀ k, k < w * h → p k < 4 := fun k hk => bit_lt (hu k hk) (hs.1 k hk)
  refine ⟨fun k => if k < w * h then 2 ^ (p k) else 0, fun k => ?_, fun l hl hn => ?_, fun k hk => if_pos hk⟩
  · by_cases hk : k < w * h
    · simp only [if_pos hk]
      intro c hc hb
      rw [bit_p2 _ (hp4 k hk) c hc] at hb
      rw [hb]
      exact hs.1 k hk
    · simp only [if_neg hk]
      intro c hc hb
      rw [Nat.zero_div] at hb
      cases hb
  · obtain ⟨s, h1, h2⟩ := hs.2 l hl hn
    have hat : ∀ i, i < cellsN w h l → atN w h l i < w * h := fun i hi => atN_lt hw hh hl hi
    refine ⟨⟨s, h1, fun i hi => ?_⟩, fun i hi => ?_⟩
    · simp only [if_pos (hat i hi)]
      rw [h2 i hi, bit_p2]
      · have := hp4 _ (hat i hi)
        rw [h2 i hi] at this
        exact this
      · have := hp4 _ (hat i hi)
        rw [h2 i hi] at this
        exact this
    · unfold BT
      rw [if_neg (by decide)]
      have hpi := hp4 _ (hat i hi)
      refine ⟨?_, fun c hc => ?_⟩
      · simp only [if_pos (hat i hi)]
        exact p2_16 _ hpi
      · simp only [if_pos (hat i hi)]
        rw [bit_p2 _ hpi c hc]
        constructor
        · intro hc1
          refine ⟨s, ⟨h1, fun i' hi' => ?_⟩, by rw [← h2 i hi, hc1]⟩
          simp only [if_pos (hat i' hi')]
          have hpi' := hp4 _ (hat i' hi')
          rw [h2 i' hi'] at hpi' ⊢
          rw [bit_p2 _ hpi' _ hpi']
        · rintro ⟨s', g1, g2⟩
          have := g1.2 i hi
          simp only [if_pos (hat i hi)] at this
          rw [g2, bit_p2 _ hpi c hc] at this
          exact this
theorem sol_mono {w h : Nat} {f : Nat → Int32} {u v p : Nat → Nat} (hu : ∀ k, k < w * h → u k < 16) (huv : ∀ k, sub (u k) (v k)) (hs : sol w h f u p) : sol w h f v p := ⟨fun k hk => huv k _ (bit_lt (hu k hk) (hs.1 k hk)) (hs.1 k hk), hs.2⟩
theorem sol_NT {w h : Nat} {f : Nat → Int32} {u v p : Nat → Nat} (hok : ∀ l, l < 16 → okl 3 f l) (hw : w ≤ 8) (hh : h ≤ 8) (hu : ∀ k, k < w * h → u k < 16) (hv : ∀ k, k < w * h → v k < 16) (hN : NT w h f 2 u v) : sol w h f u p ↔ sol w h f v p := by
  constructor
  · intro hs
    obtain ⟨r, h1, h2, h3⟩ := sol_good hok hw hh hu hs
    refine ⟨fun k hk => ?_, hs.2⟩
    have hp4 := bit_lt (hu k hk) (hs.1 k hk)
    refine hN.2.2.1 r h1 h2 k _ hp4 ?_
    rw [h3 k hk, bit_p2 _ hp4 _ hp4]
  · exact sol_mono hv hN.1
theorem sol_NF {w h : Nat} {f : Nat → Int32} {u p : Nat → Nat} (hok : ∀ l, l < 16 → okl 3 f l) (hw : w ≤ 8) (hh : h ≤ 8) (hu : ∀ k, k < w * h → u k < 16) (hN : NF w h f 2 u) : ¬ sol w h f u p := fun hs => by
  obtain ⟨r, h1, h2, -⟩ := sol_good hok hw hh hu hs
  exact hN r h1 h2
/-- all pictures with P, of which the places S count, in a row -/
def ENS (P : (Nat → Nat) → Prop) (S : Nat → Prop) (N : Nat) (e : Nat → Nat → Nat) : Prop := (∀ k, k < N → P (e k)) ∧ (∀ i j, i < j → j < N → ∃ c, S c ∧ e i c ≠ e j c) ∧ ∀ p, P p → ∃ k, k < N ∧ ∀ c, S c → e k c = p c
theorem ENS_cong {P P' : (Nat → Nat) → Prop} {S S' : Nat → Prop} {N : Nat} {e : Nat → Nat → Nat} (hP : ∀ p, P p ↔ P' p) (hS : ∀ c, S c ↔ S' c) (h : ENS P S N e) : ENS P' S' N e := by
  refine ⟨fun k hk => (hP _).mp (h.1 k hk), fun i j h1 h2 => ?_, fun p hp => ?_⟩
  · obtain ⟨c, g1, g2⟩ := h.2.1 i j h1 h2
    exact ⟨c, (hS c).mp g1, g2⟩
  · obtain ⟨k, g1, g2⟩ := h.2.2 p ((hP p).mpr hp)
    exact ⟨k, g1, fun c hc => g2 c ((hS c).mpr hc)⟩
/-- P asks of the places S alone -/
def depS (P : (Nat → Nat) → Prop) (S : Nat → Prop) : Prop := ∀ p q, (∀ c, S c → p c = q c) → P p → P q
noncomputable def mixP (T : Nat → Prop) (g p : Nat → Nat) : Nat → Nat := fun c => @ite Nat (T c) (Classical.propDecidable _) (g c) (p c)
theorem mixP_t {T : Nat → Prop} {g p : Nat → Nat} {c : Nat} (h : T c) : mixP T g p c = g c := by
  unfold mixP
  rw [if_pos h]
theorem mixP_f {T : Nat → Prop} {g p : Nat → Nat} {c : Nat} (h : ¬ T c) : mixP T g p c = p c := by
  unfold mixP
  rw [if_neg h]
theorem ENS_mul {P Q : (Nat → Nat) → Prop} {S T : Nat → Prop} {N M : Nat} {e g : Nat → Nat → Nat} (hP : depS P S) (hQ : depS Q T) (hc : ∀ p q c, P p → Q q → S c → T c → p c = q c) (h1 : ENS P S N e) (h2 : ENS Q T M g) : ENS (fun p => P p ∧ Q p) (fun c => S c ∨ T c) (N * M) (fun k => mixP T (g (k % M)) (e (k / M))) := by
  have hM : ∀ k, k < N * M → k / M < N ∧ k % M < M := fun k hk => by
    have hM0 : 0 < M := by
      rcases Nat.eq_zero_or_pos M with h | h
      · rw [h, Nat.mul_zero] at hk
        omega
      · exact h
    exact ⟨Nat.div_lt_of_lt_mul (by rw [Nat.mul_comm]; exact hk), Nat.mod_lt _ hM0⟩
  refine ⟨fun k hk => ?_, fun i j hij hj => ?_, fun p hp => ?_⟩
  · obtain ⟨k1, k2⟩ := hM k hk
    have a1 := h1.1 _ k1
    have a2 := h2.1 _ k2
    refine ⟨hP _ _ (fun c hS => ?_) a1, hQ _ _ (fun c hT => ?_) a2⟩
    · by_cases hT : T c
      · try dsimp only
        rw [mixP_t hT]
        exact hc _ _ c a1 a2 hS hT
      · try dsimp only
        rw [mixP_f hT]
    · try dsimp only
      rw [mixP_t hT]
  · obtain ⟨j1, j2⟩ := hM j hj
    obtain ⟨i1, i2⟩ := hM i (by omega)
    by_cases hm : i % M = j % M
    · have hd : i / M < j / M := by
        have e1 := Nat.div_add_mod i M
        have e2 := Nat.div_add_mod j M
        rcases Nat.lt_or_ge (i / M) (j / M) with h | h
        · exact h
        · have := Nat.mul_le_mul_left M h
          omega
      obtain ⟨c, c1, c2⟩ := h1.2.1 _ _ hd j1
      refine ⟨c, Or.inl c1, ?_⟩
      by_cases hT : T c
      · refine absurd ?_ c2
        rw [hc _ _ c (h1.1 _ i1) (h2.1 _ i2) c1 hT, hc _ _ c (h1.1 _ j1) (h2.1 _ j2) c1 hT, hm]
      · try dsimp only
        rw [mixP_f hT, mixP_f hT]
        exact c2
    · have : ∃ c, T c ∧ g (i % M) c ≠ g (j % M) c := by
        rcases Nat.lt_or_ge (i % M) (j % M) with h | h
        · exact h2.2.1 _ _ h j2
        · obtain ⟨c, c1, c2⟩ := h2.2.1 _ _ (show j % M < i % M by omega) i2
          exact ⟨c, c1, fun z => c2 z.symm⟩
      obtain ⟨c, c1, c2⟩ := this
      refine ⟨c, Or.inr c1, ?_⟩
      try dsimp only
      rw [mixP_t c1, mixP_t c1]
      exact c2
  · obtain ⟨a, a1, a2⟩ := h1.2.2 p hp.1
    obtain ⟨b, b1, b2⟩ := h2.2.2 p hp.2
    have hM0 : 0 < M := by omega
    have q1 : (a * M + b) / M = a := by
      rw [Nat.mul_comm, Nat.mul_add_div hM0, Nat.div_eq_of_lt b1, Nat.add_zero]
    have q2 : (a * M + b) % M = b := by
      rw [Nat.mul_comm, Nat.mul_add_mod, Nat.mod_eq_of_lt b1]
    refine ⟨a * M + b, ?_, fun c hS => ?_⟩
    · have := Nat.mul_le_mul_right M (show a + 1 ≤ N by omega)
      rw [Nat.succ_mul] at this
      omega
    · try dsimp only
      rw [q1, q2]
      by_cases hT : T c
      · try dsimp only
        rw [mixP_t hT]
        exact b2 c hT
      · try dsimp only
        rw [mixP_f hT]
        exact a2 c (hS.resolve_right hT)
theorem ENS_one {P : (Nat → Nat) → Prop} {S : Nat → Prop} {N M : Nat} {e g : Nat → Nat → Nat} (h1 : ENS P S N e) (h2 : ENS P S M g) : N = M := by
  have key : ∀ {N M : Nat} {e g : Nat → Nat → Nat}, ENS P S N e → ENS P S M g → N ≤ M := by
    intro N M e g h1 h2
    have hex : ∀ k, ∃ j, k < N → j < M ∧ ∀ c, S c → g j c = e k c := fun k => by
      by_cases hk : k < N
      · obtain ⟨j, a, b⟩ := h2.2.2 (e k) (h1.1 k hk)
        exact ⟨j, fun _ => ⟨a, b⟩⟩
      · exact ⟨0, fun h => absurd h hk⟩
    refine fb_holes M N (fun k => (hex k).choose) (fun k hk => ((hex k).choose_spec hk).1) (fun i j hij hj he => ?_)
    obtain ⟨c, c1, c2⟩ := h1.2.1 i j hij hj
    have a1 := ((hex i).choose_spec (by omega)).2 c c1
    have a2 := ((hex j).choose_spec hj).2 c c1
    try dsimp only at he
    rw [he] at a1
    omega
  exact Nat.le_antisymm (key h1 h2) (key h2 h1)
/-- different starts give different colors -/
theorem pc_inj {f : Nat → Int32} {l n : Nat} {s t : Nat → Nat} (hok : okl 3 f l) (hs : vld f l n s) (ht : vld f l n t) (he : ∀ i, i < n → pcN f l s (manyN f l) i = pcN f l t (manyN f l) i) : ∀ b, b < manyN f l → s b = t b := by
  have key : ∀ {s t : Nat → Nat}, vld f l n s → vld f l n t → (∀ i, i < n → pcN f l s (manyN f l) i = pcN f l t (manyN f l) i) → ∀ b, b < manyN f l → (∀ b', b' < b → s b' = t b') → ¬ s b < t b := by
    intro s t hs ht he b hb hbef hlt
    have hlen := len_eq hok hb
    have hcol := col_eq (by omega) hok hb
    have h1 := vld_16 hok hs hb
    have h2 := he (s b) h1
    rw [pcN_in hok hs (b := b) (Nat.le_refl _) (by omega) hb (Nat.le_refl _), pcN_out (fun b' hb' g => ?_)] at h2
    · omega
    · rcases Nat.lt_trichotomy b' b with h | h | h
      · have := vld_ap hok hs h hb
        rw [hbef b' h] at this
        omega
      · subst h
        omega
      · have := vld_ap hok ht h hb'
        omega
  intro b
  induction b using Nat.strongRecOn with
  | _ b ih =>
    intro hb
    have h1 := key hs ht he b hb (fun b' hb' => ih b' hb' (by omega))
    have h2 := key ht hs (fun i hi => (he i hi).symm) b hb (fun b' hb' => (ih b' hb' (by omega)).symm)
    omega

/-- the picture on line l is a possible filling -/
def lineFit (w h : Nat) (f : Nat → Int32) (u : Nat → Nat) (l : Nat) (p : Nat → Nat) : Prop := ∃ s, PF w h f u l s ∧ ∀ i, i < cellsN w h l → p (atN w h l i) = pcN f l s (manyN f l) i
def inLine (w h l c : Nat) : Prop := ∃ i, i < cellsN w h l ∧ c = atN w h l i
def idxL (w h l c : Nat) : Nat := if l < h then c - w * l else c / w
theorem idxL_at {w h l i : Nat} (hl : l < h + w) (hi : i < cellsN w h l) : idxL w h l (atN w h l i) = i := by
  unfold idxL atN
  unfold cellsN at hi
  by_cases h1 : l < h
  · rw [if_pos h1, if_pos h1]
    omega
  · rw [if_neg h1] at hi
    rw [if_neg h1, if_neg h1]
    rw [show w * i + l - h = w * i + (l - h) by omega, Nat.mul_add_div (by omega), Nat.div_eq_of_lt (by omega), Nat.add_zero]
theorem inLine_of {w h c : Nat} (hw : 0 < w) (hc : c < w * h) : inLine w h (c / w) c ∧ inLine w h (h + c % w) c ∧ c / w < h ∧ c % w < w := by
  have h1 : c / w < h := Nat.div_lt_of_lt_mul hc
  have h2 : c % w < w := Nat.mod_lt _ hw
  refine ⟨⟨c % w, by unfold cellsN; rw [if_pos h1]; exact h2, ?_⟩, ⟨c / w, by unfold cellsN; rw [if_neg (by omega)]; exact h1, ?_⟩, h1, h2⟩
  · unfold atN
    rw [if_pos h1, Nat.div_add_mod]
  · unfold atN
    rw [if_neg (by omega), show w * (c / w) + (h + c % w) - h = w * (c / w) + c % w by omega, Nat.div_add_mod]
theorem inLine_iff {w h l c : Nat} (hw : 0 < w) (hl : l < h + w) (hi : inLine w h l c) : l = c / w ∨ l = h + c % w := by
  obtain ⟨i, h1, h2⟩ := hi
  unfold atN at h2
  unfold cellsN at h1
  by_cases hlh : l < h
  · rw [if_pos hlh] at h1 h2
    left
    rw [h2, Nat.mul_add_div hw, Nat.div_eq_of_lt h1, Nat.add_zero]
  · rw [if_neg hlh] at h1 h2
    right
    rw [h2, show w * i + l - h = w * i + (l - h) by omega, Nat.mul_add_mod, Nat.mod_eq_of_lt (by omega)]
    omega
theorem sol_lines {w h : Nat} {f : Nat → Int32} {u p : Nat → Nat} (hw : 0 < w) (hw8 : w ≤ 8) (hh8 : h ≤ 8) : sol w h f u p ↔ (∀ l, l < h + w → ¬ f l = nI 0 → lineFit w h f u l p) ∧ ∀ k, k < w * h → (f (k / w) = nI 0 ∧ f (h + k % w) = nI 0) → u k / 2 ^ (p k) % 2 = 1 := by
  constructor
  · intro hs
    refine ⟨fun l hl hn => ?_, fun k hk _ => hs.1 k hk⟩
    obtain ⟨s, h1, h2⟩ := hs.2 l hl hn
    refine ⟨s, ⟨h1, fun i hi => ?_⟩, h2⟩
    rw [← h2 i hi]
    exact hs.1 _ (atN_lt hw8 hh8 hl hi)
  · rintro ⟨h1, h2⟩
    have hbit : ∀ l c, l < h + w → ¬ f l = nI 0 → inLine w h l c → u c / 2 ^ (p c) % 2 = 1 := fun l c hl hn hi => by
      obtain ⟨s, g1, g2⟩ := h1 l hl hn
      obtain ⟨i, hi, rfl⟩ := hi
      rw [g2 i hi]
      exact g1.2 i hi
    refine ⟨fun k hk => ?_, fun l hl hn => ?_⟩
    · obtain ⟨a1, a2, a3, a4⟩ := inLine_of hw hk
      by_cases b1 : f (k / w) = nI 0
      · by_cases b2 : f (h + k % w) = nI 0
        · exact h2 k hk ⟨b1, b2⟩
        · exact hbit _ k (by omega) b2 a2
      · exact hbit _ k (by omega) b1 a1
    · obtain ⟨s, g1, g2⟩ := h1 l hl hn
      exact ⟨s, g1.1, g2⟩
theorem depS_line {w h : Nat} {f : Nat → Int32} {u : Nat → Nat} {l : Nat} : depS (lineFit w h f u l) (inLine w h l) := by
  rintro p q he ⟨s, h1, h2⟩
  exact ⟨s, h1, fun i hi => by rw [← he _ ⟨i, hi, rfl⟩]; exact h2 i hi⟩
theorem ENS_line {w h : Nat} {f : Nat → Int32} {l N : Nat} {e : Nat → Nat → Nat} (hok : okl 3 f l) (h8 : cellsN w h l ≤ 8) (hl : l < h + w) (hE : EN w h f l N e (fun _ => True)) : ENS (lineFit w h f (mkN f) l) (inLine w h l) N (fun k c => pcN f l (e k) (manyN f l) (idxL w h l c)) := by
  refine ⟨fun k hk => ⟨e k, ⟨(hE.1 k hk).1, (hE.1 k hk).2.1⟩, fun i hi => ?_⟩, fun i j hij hj => ?_, fun p hp => ?_⟩
  · try dsimp only
    rw [idxL_at hl hi]
  · refine Classical.byContradiction fun hno => ?_
    have hsame : ∀ c, inLine w h l c → pcN f l (e i) (manyN f l) (idxL w h l c) = pcN f l (e j) (manyN f l) (idxL w h l c) := fun c hc => Classical.byContradiction fun z => hno ⟨c, hc, z⟩
    have := pc_inj hok (hE.1 i (by omega)).1 (hE.1 j hj).1 (fun i' hi' => by
      have := hsame _ ⟨i', hi', rfl⟩
      rw [idxL_at hl hi'] at this
      exact this)
    have hcd := hE.2.1 i j hij hj
    rw [cd_cong this] at hcd
    omega
  · obtain ⟨s, h1, h2⟩ := hp
    obtain ⟨k, k1, k2⟩ := hE.2.2 s h1.1 h1.2 trivial
    refine ⟨k, k1, ?_⟩
    rintro c ⟨i, hi, rfl⟩
    try dsimp only
    rw [idxL_at hl hi, h2 i hi, pcN_cong k2]
/-- the b-th color of a mark -/
def nbit (x b : Nat) : Nat := ((List.range 4).filter (fun c => x / 2 ^ c % 2 == 1)).getD b 0
theorem nbit_ok : ∀ x, x < 16 → (∀ b, b < bc x → x / 2 ^ (nbit x b) % 2 = 1) ∧ (∀ j, j < bc x → ∀ i, i < j → nbit x i ≠ nbit x j) ∧ ∀ c, c < 4 → x / 2 ^ c % 2 = 1 → ∃ b, b < bc x ∧ nbit x b = c := by
  have key : ∀ x, x < 16 → (∀ b, b < bc x → x / 2 ^ (nbit x b) % 2 = 1) ∧ (∀ j, j < bc x → ∀ i, i < j → nbit x i ≠ nbit x j) ∧ ∀ c, c < 4 → x / 2 ^ c % 2 = 1 → ∃ b, b < 5 ∧ b < bc x ∧ nbit x b = c := by decide +kernel
  intro x hx
  obtain ⟨h1, h2, h3⟩ := key x hx
  refine ⟨h1, h2, fun c hc hb => ?_⟩
  obtain ⟨b, -, b1, b2⟩ := h3 c hc hb
  exact ⟨b, b1, b2⟩
theorem ENS_cell {u : Nat → Nat} {k : Nat} (hu : u k < 16) : ENS (fun p => u k / 2 ^ (p k) % 2 = 1) (fun c => c = k) (bc (u k)) (fun b _ => nbit (u k) b) := by
  obtain ⟨h1, h2, h3⟩ := nbit_ok _ hu
  refine ⟨fun b hb => h1 b hb, fun i j hij hj => ⟨k, rfl, h2 j hj i hij⟩, fun p hp => ?_⟩
  obtain ⟨b, b1, b2⟩ := h3 (p k) (bit_lt hu hp) hp
  exact ⟨b, b1, fun c hc => by rw [hc]; exact b2⟩
/-- the first j lines of a leaf; then the first k cells at which no line has a clue -/
def lfP (w h : Nat) (f : Nat → Int32) (u : Nat → Nat) (j : Nat) (p : Nat → Nat) : Prop := ∀ l, l < j → ¬ f l = nI 0 → lineFit w h f u l p
def lfS (w h : Nat) (f : Nat → Int32) (j c : Nat) : Prop := ∃ l, l < j ∧ ¬ f l = nI 0 ∧ inLine w h l c
def cfP (w h : Nat) (f : Nat → Int32) (u : Nat → Nat) (k : Nat) (p : Nat → Nat) : Prop := lfP w h f u (h + w) p ∧ ∀ c, c < k → (f (c / w) = nI 0 ∧ f (h + c % w) = nI 0) → u c / 2 ^ (p c) % 2 = 1
def cfS (w h : Nat) (f : Nat → Int32) (k c : Nat) : Prop := lfS w h f (h + w) c ∨ (c < k ∧ f (c / w) = nI 0 ∧ f (h + c % w) = nI 0)
/-- cells at which lines with clues cross are known -/
def crossK (w h : Nat) (f : Nat → Int32) (u : Nat → Nat) : Prop := ∀ k, k < w * h → ¬ f (k / w) = nI 0 → ¬ f (h + k % w) = nI 0 → bc (u k) = 1
theorem bc1_one : ∀ x, x < 16 → bc x = 1 → ∀ c, c < 4 → ∀ d, d < 4 → x / 2 ^ c % 2 = 1 → x / 2 ^ d % 2 = 1 → c = d := by
  have key : ∀ x, x < 16 → ∀ c, c < 4 → ∀ d, d < 4 → (bc x == 1 && x / 2 ^ c % 2 == 1 && x / 2 ^ d % 2 == 1) = true → c = d := by decide +kernel
  intro x hx h1 c hc d hd h2 h3
  refine key x hx c hc d hd ?_
  rw [h1, h2, h3]
  decide
theorem depS_lf {w h : Nat} {f : Nat → Int32} {u : Nat → Nat} {j : Nat} : depS (lfP w h f u j) (lfS w h f j) := fun p q he hp l hl hn => depS_line p q (fun c hc => he c ⟨l, hl, hn, hc⟩) (hp l hl hn)
theorem depS_cf {w h : Nat} {f : Nat → Int32} {u : Nat → Nat} {k : Nat} : depS (cfP w h f u k) (cfS w h f k) := fun p q he hp => ⟨depS_lf p q (fun c hc => he c (Or.inl hc)) hp.1, fun c hc hn => by
  rw [← he c (Or.inr ⟨hc, hn⟩)]
  exact hp.2 c hc hn⟩
theorem ENS_lf_s {w h : Nat} {f : Nat → Int32} {u : Nat → Nat} {j N M : Nat} {e g : Nat → Nat → Nat} (hw : 0 < w) (hw8 : w ≤ 8) (hh8 : h ≤ 8) (hu : ∀ k, k < w * h → u k < 16) (hx : crossK w h f u) (hj : j < h + w) (hn : ¬ f j = nI 0) (h1 : ENS (lfP w h f u j) (lfS w h f j) N e) (h2 : ENS (lineFit w h f u j) (inLine w h j) M g) : ∃ e', ENS (lfP w h f u (j + 1)) (lfS w h f (j + 1)) (N * M) e' := by
  have hm := ENS_mul (depS_lf (w := w) (h := h) (f := f) (u := u) (j := j)) (depS_line (w := w) (h := h) (f := f) (u := u) (l := j)) (fun p q c hp hq hS hT => ?_) h1 h2
  · refine ⟨_, ENS_cong (fun p => ?_) (fun c => ?_) hm⟩
    · constructor
      · rintro ⟨a, b⟩ l hl hnl
        by_cases h9 : l = j
        · rw [h9]
          exact b
        · exact a l (by omega) hnl
      · intro a
        exact ⟨fun l hl hnl => a l (by omega) hnl, a j (by omega) hn⟩
    · constructor
      · rintro (⟨l, a, b, d⟩ | d)
        · exact ⟨l, by omega, b, d⟩
        · exact ⟨j, by omega, hn, d⟩
      · rintro ⟨l, a, b, d⟩
        by_cases h9 : l = j
        · rw [h9] at d
          exact Or.inr d
        · exact Or.inl ⟨l, by omega, b, d⟩
  · obtain ⟨l, hl, hnl, hcl⟩ := hS
    obtain ⟨i, hi, hci⟩ := hT
    have hc : c < w * h := by
      rw [hci]
      exact atN_lt hw8 hh8 hj hi
    have b1 : u c / 2 ^ (p c) % 2 = 1 := by
      obtain ⟨s, g1, g2⟩ := hp l hl hnl
      obtain ⟨i', hi', hci'⟩ := hcl
      rw [hci', g2 i' hi']
      exact g1.2 i' hi'
    have b2 : u c / 2 ^ (q c) % 2 = 1 := by
      obtain ⟨s, g1, g2⟩ := hq
      rw [hci, g2 i hi]
      exact g1.2 i hi
    have k1 := inLine_iff hw (by omega) hcl
    have k2 := inLine_iff hw hj ⟨i, hi, hci⟩
    have hbc : bc (u c) = 1 := by
      rcases k1 with k1 | k1 <;> rcases k2 with k2 | k2
      · omega
      · exact hx c hc (by rw [← k1]; exact hnl) (by rw [← k2]; exact hn)
      · exact hx c hc (by rw [← k2]; exact hn) (by rw [← k1]; exact hnl)
      · omega
    exact bc1_one _ (hu c hc) hbc _ (bit_lt (hu c hc) b1) _ (bit_lt (hu c hc) b2) b1 b2
theorem ENS_lf_n {w h : Nat} {f : Nat → Int32} {u : Nat → Nat} {j N : Nat} {e : Nat → Nat → Nat} (hn : f j = nI 0) (h1 : ENS (lfP w h f u j) (lfS w h f j) N e) : ENS (lfP w h f u (j + 1)) (lfS w h f (j + 1)) N e := by
  refine ENS_cong (fun p => ?_) (fun c => ?_) h1
  · constructor
    · intro a l hl hnl
      by_cases h9 : l = j
      · rw [h9] at hnl
        exact absurd hn hnl
      · exact a l (by omega) hnl
    · intro a l hl hnl
      exact a l (by omega) hnl
  · constructor
    · rintro ⟨l, a, b, d⟩
      exact ⟨l, by omega, b, d⟩
    · rintro ⟨l, a, b, d⟩
      by_cases h9 : l = j
      · rw [h9] at b
        exact absurd hn b
      · exact ⟨l, by omega, b, d⟩
theorem ENS_cf_s {w h : Nat} {f : Nat → Int32} {u : Nat → Nat} {k N : Nat} {e : Nat → Nat → Nat} (hw : 0 < w) (hk : k < w * h) (hu : ∀ k, k < w * h → u k < 16) (hn : f (k / w) = nI 0 ∧ f (h + k % w) = nI 0) (h1 : ENS (cfP w h f u k) (cfS w h f k) N e) : ∃ e', ENS (cfP w h f u (k + 1)) (cfS w h f (k + 1)) (N * bc (u k)) e' := by
  have hm := ENS_mul (depS_cf (w := w) (h := h) (f := f) (u := u) (k := k)) (Q := fun p => u k / 2 ^ (p k) % 2 = 1) (T := fun c => c = k) (fun p q he hp => by show u k / 2 ^ (q k) % 2 = 1; rw [← he k rfl]; exact hp) (fun p q c hp hq hS hT => ?_) h1 (ENS_cell (hu k hk))
  · refine ⟨_, ENS_cong (fun p => ?_) (fun c => ?_) hm⟩
    · constructor
      · rintro ⟨a, b⟩
        refine ⟨a.1, fun c hc hnc => ?_⟩
        by_cases h9 : c = k
        · rw [h9]
          exact b
        · exact a.2 c (by omega) hnc
      · intro a
        exact ⟨⟨a.1, fun c hc hnc => a.2 c (by omega) hnc⟩, a.2 k (by omega) hn⟩
    · constructor
      · rintro ((d | ⟨d1, d2⟩) | d)
        · exact Or.inl d
        · exact Or.inr ⟨by omega, d2⟩
        · rw [d]
          exact Or.inr ⟨by omega, hn⟩
      · rintro (d | ⟨d1, d2⟩)
        · exact Or.inl (Or.inl d)
        · by_cases h9 : c = k
          · exact Or.inr h9
          · exact Or.inl (Or.inr ⟨by omega, d2⟩)
  · exfalso
    rw [hT] at hS
    rcases hS with ⟨l, hl, hnl, hcl⟩ | ⟨d1, -⟩
    · rcases inLine_iff hw hl hcl with h9 | h9
      · rw [h9] at hnl
        exact hnl hn.1
      · rw [h9] at hnl
        exact hnl hn.2
    · omega
theorem ENS_cf_n {w h : Nat} {f : Nat → Int32} {u : Nat → Nat} {k N : Nat} {e : Nat → Nat → Nat} (hn : ¬ (f (k / w) = nI 0 ∧ f (h + k % w) = nI 0)) (h1 : ENS (cfP w h f u k) (cfS w h f k) N e) : ENS (cfP w h f u (k + 1)) (cfS w h f (k + 1)) N e := by
  refine ENS_cong (fun p => ?_) (fun c => ?_) h1
  · constructor
    · rintro ⟨a, b⟩
      refine ⟨a, fun c hc hnc => ?_⟩
      by_cases h9 : c = k
      · rw [h9] at hnc
        exact absurd hnc hn
      · exact b c (by omega) hnc
    · rintro ⟨a, b⟩
      exact ⟨a, fun c hc hnc => b c (by omega) hnc⟩
  · constructor
    · rintro (d | ⟨d1, d2⟩)
      · exact Or.inl d
      · exact Or.inr ⟨by omega, d2⟩
    · rintro (d | ⟨d1, d2⟩)
      · exact Or.inl d
      · by_cases h9 : c = k
        · rw [h9] at d2
          exact absurd d2 hn
        · exact Or.inr ⟨by omega, d2⟩
theorem ENS_0 {w h : Nat} {f : Nat → Int32} {u : Nat → Nat} : ENS (lfP w h f u 0) (lfS w h f 0) 1 (fun _ _ => 0) := ⟨fun k _ l hl => by omega, fun i j h1 h2 => by omega, fun p _ => ⟨0, by omega, fun c hc => by
  obtain ⟨l, hl, -⟩ := hc
  omega⟩⟩
theorem ENS_cf0 {w h : Nat} {f : Nat → Int32} {u : Nat → Nat} {N : Nat} {e : Nat → Nat → Nat} (h1 : ENS (lfP w h f u (h + w)) (lfS w h f (h + w)) N e) : ENS (cfP w h f u 0) (cfS w h f 0) N e := ENS_cong (fun p => ⟨fun a => ⟨a, fun c hc => by omega⟩, fun a => a.1⟩) (fun c => ⟨fun a => Or.inl a, fun a => a.elim id (fun b => by omega)⟩) h1
theorem ENS_sol {w h : Nat} {f : Nat → Int32} {u : Nat → Nat} {N : Nat} {e : Nat → Nat → Nat} (hw : 0 < w) (hw8 : w ≤ 8) (hh8 : h ≤ 8) (h1 : ENS (cfP w h f u (w * h)) (cfS w h f (w * h)) N e) : ENS (sol w h f u) (fun c => c < w * h) N e := by
  refine ENS_cong (fun p => (sol_lines hw hw8 hh8).symm) (fun c => ?_) h1
  constructor
  · rintro (⟨l, hl, hn, i, hi, rfl⟩ | ⟨d1, -⟩)
    · exact atN_lt hw8 hh8 hl hi
    · exact d1
  · intro hc
    obtain ⟨a1, a2, a3, a4⟩ := inLine_of hw hc
    by_cases b1 : f (c / w) = nI 0
    · by_cases b2 : f (h + c % w) = nI 0
      · exact Or.inr ⟨hc, b1, b2⟩
      · exact Or.inl ⟨_, by omega, b2, a2⟩
    · exact Or.inl ⟨_, by omega, b1, a1⟩
