/-! counting solutions, as mathematics: a stack of tries -/
/-- as many of the pictures with P as there are, but no more than most -/
def CAP (P : (Nat → Nat) → Prop) (S : Nat → Prop) (most n : Nat) : Prop := n ≤ most ∧ ∃ e : Nat → Nat → Nat, (∀ k, k < n → P (e k)) ∧ (∀ i j, i < j → j < n → ∃ c, S c ∧ e i c ≠ e j c) ∧ (n < most → ∀ p, P p → ∃ k, k < n ∧ ∀ c, S c → e k c = p c)
theorem CAP_one {P : (Nat → Nat) → Prop} {S : Nat → Prop} {most n m : Nat} (h1 : CAP P S most n) (h2 : CAP P S most m) : n = m := by
  have key : ∀ {n m : Nat}, CAP P S most n → CAP P S most m → ¬ n < m := by
    intro n m h1 h2 hlt
    obtain ⟨a1, e, a2, a3, a4⟩ := h1
    obtain ⟨b1, g, b2, b3, b4⟩ := h2
    have hc := a4 (by omega)
    have hex : ∀ k, ∃ j, k < m → j < n ∧ ∀ c, S c → e j c = g k c := fun k => by
      by_cases hk : k < m
      · obtain ⟨j, q1, q2⟩ := hc (g k) (b2 k hk)
        exact ⟨j, fun _ => ⟨q1, q2⟩⟩
      · exact ⟨0, fun h => absurd h hk⟩
    have := fb_holes n m (fun k => (hex k).choose) (fun k hk => ((hex k).choose_spec hk).1) (fun i j hij hj he => by
      obtain ⟨c, c1, c2⟩ := b3 i j hij hj
      have q1 := ((hex i).choose_spec (by omega)).2 c c1
      have q2 := ((hex j).choose_spec hj).2 c c1
      try dsimp only at he
      rw [he] at q1
      omega)
    omega
  have := key h1 h2
  have := key h2 h1
  omega
theorem CAP_cong {P P' : (Nat → Nat) → Prop} {S S' : Nat → Prop} {most n : Nat} (hP : ∀ p, P p ↔ P' p) (hS : ∀ c, S c ↔ S' c) (h : CAP P S most n) : CAP P' S' most n := by
  obtain ⟨a1, e, a2, a3, a4⟩ := h
  refine ⟨a1, e, fun k hk => (hP _).mp (a2 k hk), fun i j h1 h2 => ?_, fun h1 p hp => ?_⟩
  · obtain ⟨c, c1, c2⟩ := a3 i j h1 h2
    exact ⟨c, (hS c).mp c1, c2⟩
  · obtain ⟨k, k1, k2⟩ := a4 h1 p ((hP p).mpr hp)
    exact ⟨k, k1, fun c hc => k2 c ((hS c).mpr hc)⟩
/-- n pictures with P, none of which are left (in Q); all others are left -/
def ENM (P Q : (Nat → Nat) → Prop) (S : Nat → Prop) (n : Nat) : Prop := ∃ e : Nat → Nat → Nat, (∀ k, k < n → P (e k)) ∧ (∀ i j, i < j → j < n → ∃ c, S c ∧ e i c ≠ e j c) ∧ (∀ k, k < n → ¬ Q (e k)) ∧ ∀ p, P p → (∃ k, k < n ∧ ∀ c, S c → e k c = p c) ∨ Q p
theorem ENM_cong {P Q Q' : (Nat → Nat) → Prop} {S : Nat → Prop} {n : Nat} (hQ : ∀ p, Q p ↔ Q' p) (h : ENM P Q S n) : ENM P Q' S n := by
  obtain ⟨e, a1, a2, a3, a4⟩ := h
  exact ⟨e, a1, a2, fun k hk z => a3 k hk ((hQ _).mpr z), fun p hp => (a4 p hp).imp id (fun z => (hQ p).mp z)⟩
theorem ENM_end {P Q : (Nat → Nat) → Prop} {S : Nat → Prop} {n most : Nat} (hn : n ≤ most) (hQ : ∀ p, ¬ Q p) (h : ENM P Q S n) : CAP P S most n := by
  obtain ⟨e, a1, a2, a3, a4⟩ := h
  exact ⟨hn, e, a1, a2, fun _ p hp => (a4 p hp).resolve_right (hQ p)⟩
/-- N further pictures, of the part A of what is left -/
theorem ENM_add {P A B : (Nat → Nat) → Prop} {S : Nat → Prop} {n N : Nat} {g : Nat → Nat → Nat} (hA : depS A S) (hAP : ∀ p, A p → P p) (hAB : ∀ p, A p → ¬ B p) (hg : ENS A S N g) (h : ENM P (fun p => A p ∨ B p) S n) {r : Nat} (hr : r ≤ N) : ∃ e : Nat → Nat → Nat, (∀ k, k < n + r → P (e k)) ∧ (∀ i j, i < j → j < n + r → ∃ c, S c ∧ e i c ≠ e j c) ∧ (∀ k, k < n + r → ¬ B (e k)) ∧ (r = N → ∀ p, P p → (∃ k, k < n + r ∧ ∀ c, S c → e k c = p c) ∨ B p) := by
  obtain ⟨e, a1, a2, a3, a4⟩ := h
  have hin : ∀ k, k < n → (fun k => if k < n then e k else g (k - n)) k = e k := fun k hk => if_pos hk
  have hout : ∀ k, n ≤ k → (fun k => if k < n then e k else g (k - n)) k = g (k - n) := fun k hk => if_neg (by omega)
  refine ⟨fun k => if k < n then e k else g (k - n), fun k hk => ?_, fun i j hij hj => ?_, fun k hk => ?_, fun hrN p hp => ?_⟩
  · by_cases h1 : k < n
    · rw [hin k h1]
      exact a1 k h1
    · rw [hout k (by omega)]
      exact hAP _ (hg.1 _ (by omega))
  · by_cases h1 : j < n
    · rw [hin j h1, hin i (by omega)]
      exact a2 i j hij h1
    · rw [hout j (by omega)]
      by_cases h2 : i < n
      · rw [hin i h2]
        refine Classical.byContradiction fun hno => a3 i h2 (Or.inl ?_)
        refine hA _ _ (fun c hc => ?_) (hg.1 (j - n) (by omega))
        exact Classical.byContradiction fun z => hno ⟨c, hc, fun y => z y.symm⟩
      · rw [hout i (by omega)]
        exact hg.2.1 _ _ (by omega) (by omega)
  · by_cases h1 : k < n
    · rw [hin k h1]
      exact fun z => a3 k h1 (Or.inr z)
    · rw [hout k (by omega)]
      exact hAB _ (hg.1 _ (by omega))
  · rcases a4 p hp with ⟨k, k1, k2⟩ | h1 | h1
    · exact Or.inl ⟨k, by omega, by rw [hin k k1]; exact k2⟩
    · obtain ⟨k, k1, k2⟩ := hg.2.2 p h1
      exact Or.inl ⟨n + k, by omega, by rw [hout _ (by omega), Nat.add_sub_cancel_left]; exact k2⟩
    · exact Or.inr h1
theorem depS_sol {w h : Nat} {f : Nat → Int32} {u : Nat → Nat} (hw : w ≤ 8) (hh : h ≤ 8) : depS (sol w h f u) (fun c => c < w * h) := fun p q he hp => ⟨fun k hk => by rw [← he k hk]; exact hp.1 k hk, fun l hl hn => by
  obtain ⟨s, h1, h2⟩ := hp.2 l hl hn
  exact ⟨s, h1, fun i hi => by rw [← he _ (atN_lt hw hh hl hi)]; exact h2 i hi⟩⟩
theorem sol_ucong {w h : Nat} {f : Nat → Int32} {u v p : Nat → Nat} (he : ∀ k, k < w * h → u k = v k) : sol w h f u p ↔ sol w h f v p := by
  unfold sol
  refine and_congr ⟨fun g k hk => by rw [← he k hk]; exact g k hk, fun g k hk => by rw [he k hk]; exact g k hk⟩ Iff.rfl
/-- how many cells are not known -/
def unk (n : Nat) (u : Nat → Nat) : Nat := sm (fun k => if 1 < bc (u k) then 1 else 0) n
theorem unk_le (n : Nat) (u : Nat → Nat) : unk n u ≤ n := sm1 (fun k => by split <;> omega)
theorem unk_cong {n : Nat} {u v : Nat → Nat} (he : ∀ k, k < n → u k = v k) : unk n u = unk n v := sm_cong (fun k hk => by rw [he k hk])
theorem sm_le2 {f g : Nat → Nat} : ∀ {n : Nat}, (∀ k, k < n → f k ≤ g k) → sm f n ≤ sm g n
  | 0, _ => Nat.le_refl _
  | n + 1, h => by
    have ih := sm_le2 (f := f) (g := g) (n := n) (fun k hk => h k (by omega))
    have := h n (by omega)
    show sm f n + f n ≤ sm g n + g n
    omega
theorem sm_lt2 {f g : Nat → Nat} : ∀ {n k : Nat}, k < n → (∀ k, k < n → f k ≤ g k) → f k < g k → sm f n < sm g n
  | 0, k, h, _, _ => by omega
  | n + 1, k, h, hle, hlt => by
    have h1 := hle n (by omega)
    show sm f n + f n < sm g n + g n
    by_cases hk : k = n
    · subst hk
      have := sm_le2 (f := f) (g := g) (n := k) (fun k hk => hle k (by omega))
      omega
    · have := sm_lt2 (f := f) (g := g) (n := n) (k := k) (by omega) (fun k hk => hle k (by omega)) hlt
      omega
theorem bc_sub : ∀ x, x < 16 → ∀ y, y < 16 → (∀ c, c < 4 → x / 2 ^ c % 2 = 1 → y / 2 ^ c % 2 = 1) → bc x ≤ bc y := by decide +kernel
theorem bc_p2 : ∀ c, c < 4 → bc (2 ^ c) = 1 := by decide +kernel
theorem unk_sub {n : Nat} {u v : Nat → Nat} (hu : ∀ k, k < n → u k < 16) (hv : ∀ k, k < n → v k < 16) (h : ∀ k, sub (v k) (u k)) : unk n v ≤ unk n u := sm_le2 (fun k hk => by
  have := bc_sub (v k) (hv k hk) (u k) (hu k hk) (h k)
  split <;> split <;> omega)
theorem unk_try {n : Nat} {u : Nat → Nat} {k c : Nat} (hk : k < n) (hc : c < 4) (h1 : 1 < bc (u k)) : unk n (updM u k (2 ^ c)) < unk n u := sm_lt2 hk (fun j hj => by
  unfold updM
  by_cases h : j = k
  · rw [if_pos h, bc_p2 c hc, if_neg (by omega)]
    exact Nat.zero_le _
  · rw [if_neg h]
    exact Nat.le_refl _) (by
  unfold updM
  rw [if_pos rfl, bc_p2 c hc, if_neg (by omega), if_pos h1]
  omega)
theorem unk_pos {n : Nat} {u : Nat → Nat} {k : Nat} (hk : k < n) (h1 : 1 < bc (u k)) : 1 ≤ unk n u := by
  have := unk_try (u := u) hk (c := 0) (by omega) h1
  omega
/-- an upper bound of the turns that a try takes -/
def Wt : Nat → Nat
  | 0 => 1
  | k + 1 => 1 + 4 * Wt k
theorem Wt_pos : ∀ k, 1 ≤ Wt k
  | 0 => Nat.le_refl _
  | k + 1 => by
    show 1 ≤ 1 + _
    omega
theorem Wt_mono : ∀ {k m : Nat}, k ≤ m → Wt k ≤ Wt m
  | k, 0, h => by rw [show k = 0 by omega]; exact Nat.le_refl _
  | k, m + 1, h => by
    rcases Nat.lt_or_ge m k with h1 | h1
    · rw [show k = m + 1 by omega]
      exact Nat.le_refl _
    · have := Wt_mono (k := k) (m := m) h1
      show Wt k ≤ 1 + 4 * Wt m
      omega
def meas (n : Nat) (U : Nat → Nat → Nat) (t : Nat → Nat) (d : Nat) : Nat := sm (fun j => (4 - t (j + 1)) * Wt (unk n (U (j + 1)) - 1)) d
/-- what is left of level j; what is left in all -/
def pend (w h : Nat) (f : Nat → Int32) (U : Nat → Nat → Nat) (cel t : Nat → Nat) (j : Nat) (p : Nat → Nat) : Prop := sol w h f (U j) p ∧ t j ≤ p (cel j)
def Rem (w h : Nat) (f : Nat → Int32) (u : Nat → Nat) (U : Nat → Nat → Nat) (cel t : Nat → Nat) (gd d : Nat) (p : Nat → Nat) : Prop := (gd = 1 ∧ sol w h f u p) ∨ ∃ j, 1 ≤ j ∧ j ≤ d ∧ pend w h f U cel t j p
def okU (w h C : Nat) (u : Nat → Nat) : Prop := ∀ k, k < w * h → 1 ≤ u k ∧ u k < 2 ^ (C + 1)
def okLv (w h C : Nat) (U : Nat → Nat → Nat) (cel t : Nat → Nat) (d : Nat) : Prop := ∀ j, 1 ≤ j → j ≤ d → okU w h C (U j) ∧ cel j < w * h ∧ 1 < bc (U j (cel j)) ∧ j + unk (w * h) (U j) ≤ 65 ∧ t j ≤ 4
def chn (w h : Nat) (f : Nat → Int32) (u : Nat → Nat) (U : Nat → Nat → Nat) (cel t : Nat → Nat) (gd d : Nat) : Prop := (gd = 1 → ∀ p, sol w h f u p → ∀ j, 1 ≤ j → j ≤ d → p (cel j) + 1 = t j) ∧ ∀ i p, 1 ≤ i → i ≤ d → pend w h f U cel t i p → ∀ j, 1 ≤ j → j < i → p (cel j) + 1 = t j
def CT (w h C : Nat) (f : Nat → Int32) (P : (Nat → Nat) → Prop) (n gd d : Nat) (u : Nat → Nat) (U : Nat → Nat → Nat) (cel t : Nat → Nat) : Prop := ENM P (Rem w h f u U cel t gd d) (fun c => c < w * h) n ∧ (∀ p, Rem w h f u U cel t gd d p → P p) ∧ chn w h f u U cel t gd d ∧ okLv w h C U cel t d ∧ (gd = 1 → okU w h C u ∧ d + unk (w * h) u ≤ 64)
theorem okU_16 {w h C : Nat} {u : Nat → Nat} (hC : C ≤ 3) (ho : okU w h C u) : ∀ k, k < w * h → u k < 16 := fun k hk => by
  have h1 := (ho k hk).2
  have h2 := p2_le C (by omega)
  omega
theorem bit_C {C x c : Nat} (hx : x < 2 ^ (C + 1)) (h : x / 2 ^ c % 2 = 1) : c ≤ C := by
  rcases Nat.lt_or_ge C c with h1 | h1
  · have h2 : 2 ^ (C + 1) ≤ 2 ^ c := Nat.pow_le_pow_right (by omega) h1
    rw [Nat.div_eq_of_lt (by omega)] at h
    omega
  · exact h1
/-- the same levels -/
theorem CT_cong {w h C : Nat} {f : Nat → Int32} {P : (Nat → Nat) → Prop} {n gd d : Nat} {u u' : Nat → Nat} {U U' : Nat → Nat → Nat} {cel t cel' t' : Nat → Nat} (hu : gd = 1 → ∀ k, k < w * h → u' k = u k) (hU : ∀ j, 1 ≤ j → j ≤ d → (∀ k, k < w * h → U' j k = U j k) ∧ cel' j = cel j ∧ t' j = t j) (hct : CT w h C f P n gd d u U cel t) : CT w h C f P n gd d u' U' cel' t' := by
  have hp : ∀ j p, 1 ≤ j → j ≤ d → (pend w h f U' cel' t' j p ↔ pend w h f U cel t j p) := fun j p h1 h2 => by
    obtain ⟨a1, a2, a3⟩ := hU j h1 h2
    unfold pend
    rw [a2, a3, sol_ucong a1]
  have hR : ∀ p, Rem w h f u' U' cel' t' gd d p ↔ Rem w h f u U cel t gd d p := fun p => by
    unfold Rem
    constructor
    · rintro (⟨h1, h2⟩ | ⟨j, h1, h2, h3⟩)
      · exact Or.inl ⟨h1, (sol_ucong (hu h1)).mp h2⟩
      · exact Or.inr ⟨j, h1, h2, (hp j p h1 h2).mp h3⟩
    · rintro (⟨h1, h2⟩ | ⟨j, h1, h2, h3⟩)
      · exact Or.inl ⟨h1, (sol_ucong (hu h1)).mpr h2⟩
      · exact Or.inr ⟨j, h1, h2, (hp j p h1 h2).mpr h3⟩
  obtain ⟨c1, c2, c3, c4, c5⟩ := hct
  refine ⟨ENM_cong (fun p => (hR p).symm) c1, fun p hr => c2 p ((hR p).mp hr), ⟨fun hg p hs j h1 h2 => ?_, fun i p h1 h2 hpe j h3 h4 => ?_⟩, fun j h1 h2 => ?_, fun hg => ?_⟩
  · obtain ⟨a1, a2, a3⟩ := hU j h1 h2
    rw [a2, a3]
    exact c3.1 hg p ((sol_ucong (hu hg)).mp hs) j h1 h2
  · obtain ⟨a1, a2, a3⟩ := hU j h3 (by omega)
    rw [a2, a3]
    exact c3.2 i p h1 h2 ((hp i p h1 h2).mp hpe) j h3 h4
  · obtain ⟨a1, a2, a3⟩ := hU j h1 h2
    obtain ⟨b1, b2, b3, b4, b5⟩ := c4 j h1 h2
    rw [a2, a3, a1 _ b2, unk_cong a1]
    exact ⟨fun k hk => by rw [a1 k hk]; exact b1 k hk, b2, b3, b4, b5⟩
  · obtain ⟨b1, b2⟩ := c5 hg
    rw [unk_cong (hu hg)]
    exact ⟨fun k hk => by rw [hu hg k hk]; exact b1 k hk, b2⟩
theorem meas_cong {m : Nat} {U U' : Nat → Nat → Nat} {t t' : Nat → Nat} {d : Nat} (hU : ∀ j, 1 ≤ j → j ≤ d → (∀ k, k < m → U' j k = U j k) ∧ t' j = t j) : meas m U' t' d = meas m U t d := sm_cong (fun j hj => by
  obtain ⟨a1, a2⟩ := hU (j + 1) (by omega) (by omega)
  rw [a2, unk_cong a1])
/-- a level more -/
theorem CT_push {w h C : Nat} {f : Nat → Int32} {P : (Nat → Nat) → Prop} {n d k : Nat} {u : Nat → Nat} {U : Nat → Nat → Nat} {cel t : Nat → Nat} (hk : k < w * h) (hb : 1 < bc (u k)) (hU : ∀ k, k < w * h → U (d + 1) k = u k) (hc : cel (d + 1) = k) (ht : t (d + 1) = 0) (hct : CT w h C f P n 1 d u U cel t) : CT w h C f P n 0 (d + 1) u U cel t ∧ d + 1 ≤ 64 ∧ meas (w * h) U t (d + 1) < meas (w * h) U t d + Wt (unk (w * h) u) := by
  obtain ⟨c1, c2, c3, c4, c5⟩ := hct
  obtain ⟨o1, o2⟩ := c5 rfl
  have hup := unk_pos hk hb
  have hpe : ∀ p, pend w h f U cel t (d + 1) p ↔ sol w h f u p := fun p => by
    unfold pend
    rw [ht, sol_ucong hU]
    exact ⟨fun z => z.1, fun z => ⟨z, Nat.zero_le _⟩⟩
  have hR : ∀ p, Rem w h f u U cel t 0 (d + 1) p ↔ Rem w h f u U cel t 1 d p := fun p => by
    unfold Rem
    constructor
    · rintro (⟨h1, -⟩ | ⟨j, h1, h2, h3⟩)
      · cases h1
      · by_cases h4 : j = d + 1
        · rw [h4] at h3
          exact Or.inl ⟨rfl, (hpe p).mp h3⟩
        · exact Or.inr ⟨j, h1, by omega, h3⟩
    · rintro (⟨-, h2⟩ | ⟨j, h1, h2, h3⟩)
      · exact Or.inr ⟨d + 1, by omega, by omega, (hpe p).mpr h2⟩
      · exact Or.inr ⟨j, h1, by omega, h3⟩
  refine ⟨⟨ENM_cong (fun p => (hR p).symm) c1, fun p hr => c2 p ((hR p).mp hr), ⟨fun z => (by cases z), fun i p h1 h2 hp j h3 h4 => ?_⟩, fun j h1 h2 => ?_, fun z => (by cases z)⟩, by omega, ?_⟩
  · by_cases h5 : i = d + 1
    · rw [h5] at hp
      exact c3.1 rfl p ((hpe p).mp hp) j h3 (by omega)
    · exact c3.2 i p h1 (by omega) hp j h3 h4
  · by_cases h5 : j = d + 1
    · rw [h5, hc, ht, hU k hk, unk_cong hU]
      exact ⟨fun k hk => by rw [hU k hk]; exact o1 k hk, hk, hb, by omega, by omega⟩
    · exact c4 j h1 (by omega)
  · show meas (w * h) U t d + (4 - t (d + 1)) * Wt (unk (w * h) (U (d + 1)) - 1) < _
    rw [ht, unk_cong hU]
    obtain ⟨x, hx⟩ : ∃ x, unk (w * h) u = x + 1 := ⟨unk (w * h) u - 1, by omega⟩
    rw [hx, Nat.add_sub_cancel]
    show _ < _ + (1 + 4 * Wt x)
    omega
/-- a leaf -/
theorem CT_leaf {w h C : Nat} {f : Nat → Int32} {P : (Nat → Nat) → Prop} {n d most N : Nat} {u : Nat → Nat} {U : Nat → Nat → Nat} {cel t : Nat → Nat} {g : Nat → Nat → Nat} (hw : w ≤ 8) (hh : h ≤ 8) (hn : n < most) (hg : ENS (sol w h f u) (fun c => c < w * h) N g) (hct : CT w h C f P n 1 d u U cel t) : n + min N (most - n) ≤ most ∧ (n + min N (most - n) < most → CT w h C f P (n + min N (most - n)) 0 d u U cel t) ∧ (¬ n + min N (most - n) < most → CAP P (fun c => c < w * h) most (n + min N (most - n))) := by
  obtain ⟨c1, c2, c3, c4, c5⟩ := hct
  have hle : n + min N (most - n) ≤ most := by omega
  have hsp : ∀ p, Rem w h f u U cel t 1 d p ↔ (sol w h f u p ∨ Rem w h f u U cel t 0 d p) := fun p => by
    unfold Rem
    constructor
    · rintro (⟨-, h2⟩ | h2)
      · exact Or.inl h2
      · exact Or.inr (Or.inr h2)
    · rintro (h2 | ⟨h1, -⟩ | h2)
      · exact Or.inl ⟨rfl, h2⟩
      · cases h1
      · exact Or.inr h2
  have hdis : ∀ p, sol w h f u p → ¬ Rem w h f u U cel t 0 d p := fun p hs => by
    rintro (⟨h1, -⟩ | ⟨j, h1, h2, h3⟩)
    · cases h1
    · have a1 := c3.1 rfl p hs j h1 h2
      have a2 := h3.2
      omega
  obtain ⟨e, e1, e2, e3, e4⟩ := ENM_add (depS_sol hw hh) (fun p hs => c2 p ((hsp p).mpr (Or.inl hs))) hdis hg (ENM_cong hsp c1) (r := min N (most - n)) (Nat.min_le_left _ _)
  refine ⟨hle, fun hlt => ⟨⟨e, e1, e2, e3, e4 (by omega)⟩, fun p hr => c2 p ((hsp p).mpr (Or.inr hr)), ⟨fun z => (by cases z), c3.2⟩, c4, fun z => (by cases z)⟩, fun hlt => ⟨hle, e, e1, e2, fun z => absurd z hlt⟩⟩
/-- the next try: none -/
theorem CT_none {w h C : Nat} {f : Nat → Int32} {P : (Nat → Nat) → Prop} {n d most : Nat} {u : Nat → Nat} {U : Nat → Nat → Nat} {cel t : Nat → Nat} (hn : n ≤ most) (hex : ∀ j, 1 ≤ j → j ≤ d → ∀ c, t j ≤ c → c ≤ C → ¬ U j (cel j) / 2 ^ c % 2 = 1) (hct : CT w h C f P n 0 d u U cel t) : CAP P (fun c => c < w * h) most n := by
  obtain ⟨c1, c2, c3, c4, c5⟩ := hct
  refine ENM_end hn (fun p => ?_) c1
  rintro (⟨h1, -⟩ | ⟨j, h1, h2, h3⟩)
  · cases h1
  · obtain ⟨o1, o2, -⟩ := c4 j h1 h2
    have hb := h3.1.1 _ o2
    exact hex j h1 h2 _ h3.2 (bit_C (o1 _ o2).2 hb) hb
theorem sol_updM {w h : Nat} {f : Nat → Int32} {u p : Nat → Nat} {k c : Nat} (hk : k < w * h) (hc : c < 4) (hb : u k / 2 ^ c % 2 = 1) (hp4 : p k < 4) : sol w h f (updM u k (2 ^ c)) p ↔ sol w h f u p ∧ p k = c := by
  constructor
  · intro hs
    have h1 := hs.1 k hk
    unfold updM at h1
    rw [if_pos rfl, bit_p2 _ hc _ hp4] at h1
    refine ⟨⟨fun j hj => ?_, hs.2⟩, h1⟩
    by_cases h2 : j = k
    · rw [h2, h1]
      exact hb
    · have := hs.1 j hj
      unfold updM at this
      rw [if_neg h2] at this
      exact this
  · rintro ⟨hs, h1⟩
    refine ⟨fun j hj => ?_, hs.2⟩
    unfold updM
    by_cases h2 : j = k
    · rw [if_pos h2, h2, h1, bit_p2 _ hc _ hc]
    · rw [if_neg h2]
      exact hs.1 j hj
theorem sol_updM4 {w h : Nat} {f : Nat → Int32} {u p : Nat → Nat} {k c : Nat} (hk : k < w * h) (hc : c < 4) (hs : sol w h f (updM u k (2 ^ c)) p) : p k < 4 := by
  have h1 := hs.1 k hk
  unfold updM at h1
  rw [if_pos rfl] at h1
  exact bit_lt (p2_16 c hc) h1
/-- the next try: a color c at level d' -/
theorem CT_next {w h C : Nat} {f : Nat → Int32} {P : (Nat → Nat) → Prop} {n d d' c : Nat} {u : Nat → Nat} {U : Nat → Nat → Nat} {cel t t' : Nat → Nat} (hC : C ≤ 3) (hd1 : 1 ≤ d') (hd2 : d' ≤ d) (hcC : c ≤ C) (htc : t d' ≤ c) (hb : U d' (cel d') / 2 ^ c % 2 = 1) (hlow : ∀ c', t d' ≤ c' → c' < c → ¬ U d' (cel d') / 2 ^ c' % 2 = 1) (hex : ∀ j, d' < j → j ≤ d → ∀ c, t j ≤ c → c ≤ C → ¬ U j (cel j) / 2 ^ c % 2 = 1) (ht' : t' d' = c + 1) (ht2 : ∀ j, j < d' → t' j = t j) (hct : CT w h C f P n 0 d u U cel t) : CT w h C f P n 1 d' (updM (U d') (cel d') (2 ^ c)) U cel t' ∧ meas (w * h) U t' d' + Wt (unk (w * h) (updM (U d') (cel d') (2 ^ c))) ≤ meas (w * h) U t d := by
  obtain ⟨c1, c2, c3, c4, c5⟩ := hct
  obtain ⟨o1, o2, o3, o4, o5⟩ := c4 d' hd1 hd2
  have hc4 : c < 4 := by omega
  have h16 := okU_16 hC o1
  have hpl : ∀ j p, j < d' → (pend w h f U cel t' j p ↔ pend w h f U cel t j p) := fun j p hj => by
    unfold pend
    rw [ht2 j hj]
  have hp4 : ∀ p, sol w h f (U d') p → p (cel d') < 4 := fun p hs => bit_lt (h16 _ o2) (hs.1 _ o2)
  have hnew : ∀ p, sol w h f (updM (U d') (cel d') (2 ^ c)) p ↔ sol w h f (U d') p ∧ p (cel d') = c := fun p => ⟨fun hs => (sol_updM o2 hc4 hb (sol_updM4 o2 hc4 hs)).mp hs, fun hs => (sol_updM o2 hc4 hb (hp4 p hs.1)).mpr hs⟩
  have hR : ∀ p, Rem w h f (updM (U d') (cel d') (2 ^ c)) U cel t' 1 d' p ↔ Rem w h f u U cel t 0 d p := fun p => by
    constructor
    · rintro (⟨-, h2⟩ | ⟨j, h1, h2, h3⟩)
      · obtain ⟨a, b⟩ := (hnew p).mp h2
        exact Or.inr ⟨d', hd1, hd2, a, by omega⟩
      · by_cases h5 : j = d'
        · rw [h5] at h3
          refine Or.inr ⟨d', hd1, hd2, h3.1, ?_⟩
          have := h3.2
          rw [ht'] at this
          omega
        · exact Or.inr ⟨j, h1, by omega, (hpl j p (by omega)).mp h3⟩
    · rintro (⟨h1, -⟩ | ⟨j, h1, h2, h3⟩)
      · cases h1
      · rcases Nat.lt_trichotomy j d' with h5 | h5 | h5
        · exact Or.inr ⟨j, h1, by omega, (hpl j p h5).mpr h3⟩
        · rw [h5] at h3
          have hbp := h3.1.1 _ o2
          rcases Nat.lt_trichotomy (p (cel d')) c with h6 | h6 | h6
          · exact absurd hbp (hlow _ h3.2 h6)
          · exact Or.inl ⟨rfl, (hnew p).mpr ⟨h3.1, h6⟩⟩
          · exact Or.inr ⟨d', hd1, Nat.le_refl _, h3.1, by rw [ht']; omega⟩
        · obtain ⟨q1, q2, -⟩ := c4 j h1 h2
          have hbp := h3.1.1 _ q2
          exact absurd hbp (hex j h5 h2 _ h3.2 (bit_C (q1 _ q2).2 hbp))
  have hun := unk_try (u := U d') (n := w * h) (k := cel d') (c := c) o2 hc4 o3
  refine ⟨⟨ENM_cong (fun p => (hR p).symm) c1, fun p hr => c2 p ((hR p).mp hr), ⟨fun _ p hs j h1 h2 => ?_, fun i p h1 h2 hp j h3 h4 => ?_⟩, fun j h1 h2 => ?_, fun _ => ⟨fun k hk => ?_, by omega⟩⟩, ?_⟩
  · obtain ⟨a, b⟩ := (hnew p).mp hs
    by_cases h5 : j = d'
    · rw [h5, ht', b]
    · rw [ht2 j (by omega)]
      exact c3.2 d' p hd1 hd2 ⟨a, by omega⟩ j h1 (by omega)
  · rw [ht2 j (by omega)]
    by_cases h5 : i = d'
    · rw [h5] at hp
      refine c3.2 d' p hd1 hd2 ⟨hp.1, ?_⟩ j h3 (by omega)
      have := hp.2
      rw [ht'] at this
      omega
    · exact c3.2 i p h1 (by omega) ((hpl i p (by omega)).mp hp) j h3 h4
  · obtain ⟨q1, q2, q3, q4, q5⟩ := c4 j h1 (by omega)
    refine ⟨q1, q2, q3, q4, ?_⟩
    by_cases h5 : j = d'
    · rw [h5, ht']
      omega
    · rw [ht2 j (by omega)]
      exact q5
  · unfold updM
    by_cases h5 : k = cel d'
    · rw [if_pos h5]
      refine ⟨Nat.two_pow_pos c, Nat.pow_lt_pow_right (by omega) (by omega)⟩
    · rw [if_neg h5]
      exact o1 k hk
  · obtain ⟨x, rfl⟩ : ∃ x, d' = x + 1 := ⟨d' - 1, by omega⟩
    have e1 : meas (w * h) U t' (x + 1) = meas (w * h) U t' x + (4 - t' (x + 1)) * Wt (unk (w * h) (U (x + 1)) - 1) := rfl
    have e2 : meas (w * h) U t (x + 1) = meas (w * h) U t x + (4 - t (x + 1)) * Wt (unk (w * h) (U (x + 1)) - 1) := rfl
    have e3 : meas (w * h) U t' x = meas (w * h) U t x := meas_cong (fun j h1 h2 => ⟨fun _ _ => rfl, ht2 j (by omega)⟩)
    have e4 : meas (w * h) U t (x + 1) ≤ meas (w * h) U t d := sm_mono hd2
    have e5 : Wt (unk (w * h) (updM (U (x + 1)) (cel (x + 1)) (2 ^ c))) ≤ Wt (unk (w * h) (U (x + 1)) - 1) := Wt_mono (by omega)
    have e6 : (4 - (c + 1) + 1) * Wt (unk (w * h) (U (x + 1)) - 1) ≤ (4 - t (x + 1)) * Wt (unk (w * h) (U (x + 1)) - 1) := Nat.mul_le_mul_right _ (by omega)
    rw [Nat.succ_mul] at e6
    rw [e1, ht', e3]
    omega
/-- marks narrowed -/
theorem CT_good {w h C : Nat} {f : Nat → Int32} {P : (Nat → Nat) → Prop} {n d : Nat} {u v : Nat → Nat} {U : Nat → Nat → Nat} {cel t : Nat → Nat} (hs : ∀ p, sol w h f u p ↔ sol w h f v p) (ho : okU w h C v) (hu : unk (w * h) v ≤ unk (w * h) u) (hct : CT w h C f P n 1 d u U cel t) : CT w h C f P n 1 d v U cel t := by
  obtain ⟨c1, c2, c3, c4, c5⟩ := hct
  have hR : ∀ p, Rem w h f v U cel t 1 d p ↔ Rem w h f u U cel t 1 d p := fun p => by
    unfold Rem
    rw [hs]
  have o := c5 rfl
  exact ⟨ENM_cong (fun p => (hR p).symm) c1, fun p hr => c2 p ((hR p).mp hr), ⟨fun hg p hsv => c3.1 hg p ((hs p).mpr hsv), c3.2⟩, c4, fun _ => ⟨ho, by omega⟩⟩
theorem CT_bad {w h C : Nat} {f : Nat → Int32} {P : (Nat → Nat) → Prop} {n d : Nat} {u : Nat → Nat} {U : Nat → Nat → Nat} {cel t : Nat → Nat} (hs : ∀ p, ¬ sol w h f u p) (hct : CT w h C f P n 1 d u U cel t) : CT w h C f P n 0 d u U cel t := by
  obtain ⟨c1, c2, c3, c4, c5⟩ := hct
  have hR : ∀ p, Rem w h f u U cel t 0 d p ↔ Rem w h f u U cel t 1 d p := fun p => by
    unfold Rem
    constructor
    · rintro (⟨h1, -⟩ | h1)
      · cases h1
      · exact Or.inr h1
    · rintro (⟨-, h1⟩ | h1)
      · exact absurd h1 (hs p)
      · exact Or.inr h1
  exact ⟨ENM_cong (fun p => (hR p).symm) c1, fun p hr => c2 p ((hR p).mp hr), ⟨fun z => (by cases z), c3.2⟩, c4, fun z => (by cases z)⟩
/-- the beginning -/
theorem CT_0 {w h C : Nat} {f : Nat → Int32} {u v : Nat → Nat} {U : Nat → Nat → Nat} {cel t : Nat → Nat} (hwh : w * h ≤ 64) (hs : ∀ p, sol w h f u p ↔ sol w h f v p) (ho : okU w h C v) : CT w h C f (sol w h f u) 0 1 0 v U cel t := by
  refine ⟨⟨fun _ _ => 0, fun k hk => by omega, fun i j _ hj => by omega, fun k hk => by omega, fun p hp => Or.inr (Or.inl ⟨rfl, (hs p).mp hp⟩)⟩, fun p hr => ?_, ⟨fun _ p _ j h1 h2 => by omega, fun i p h1 h2 => by omega⟩, fun j h1 h2 => by omega, fun _ => ⟨ho, ?_⟩⟩
  · rcases hr with ⟨-, h1⟩ | ⟨j, h1, h2, -⟩
    · exact (hs p).mpr h1
    · omega
  · have := unk_le (w * h) v
    omega
/-- narrowing leaves marks non-empty, and those of cells without clues -/
theorem NT_ok {w h C : Nat} {f : Nat → Int32} {u v : Nat → Nat} (hw : 0 < w) (hw8 : w ≤ 8) (hh8 : h ≤ 8) (hC : C ≤ 3) (ho : okU w h C u) (hv : ∀ k, k < w * h → v k < 16) (hN : NT w h f 2 u v) : okU w h C v := by
  have hu16 := okU_16 hC ho
  intro k hk
  have hle : v k ≤ u k := sub_le (hv k hk) (hu16 k hk) (hN.1 k)
  have h2 := ho k hk
  refine ⟨?_, by omega⟩
  obtain ⟨a1, a2, a3, a4⟩ := inLine_of hw hk
  have hbit : ∀ l, l < h + w → ¬ f l = nI 0 → inLine w h l k → 1 ≤ v k := fun l hl hn hi => by
    obtain ⟨s, hs⟩ := (hN.2.1 l hl hn).1
    obtain ⟨i, hi1, hi2⟩ := hi
    have := hs.2 i hi1
    rw [← hi2] at this
    rcases Nat.eq_zero_or_pos (v k) with h3 | h3
    · rw [h3, Nat.zero_div] at this
      cases this
    · exact h3
  by_cases b1 : f (k / w) = nI 0
  · by_cases b2 : f (h + k % w) = nI 0
    · -- no line with a clue
      have hcell : ∀ l i, l < h + w → ¬ f l = nI 0 → i < cellsN w h l → atN w h l i ≠ k := fun l i hl hn hi he => by
        rcases inLine_iff hw hl ⟨i, hi, he.symm⟩ with h3 | h3
        · rw [h3] at hn
          exact hn b1
        · rw [h3] at hn
          exact hn b2
      have hPF : ∀ l s, l < h + w → ¬ f l = nI 0 → (PF w h f (updM v k (u k)) l s ↔ PF w h f v l s) := fun l s hl hn => by
        unfold PF
        refine and_congr Iff.rfl ⟨fun g i hi => ?_, fun g i hi => ?_⟩
        · have := g i hi
          unfold updM at this
          rw [if_neg (hcell l i hl hn hi)] at this
          exact this
        · unfold updM
          rw [if_neg (hcell l i hl hn hi)]
          exact g i hi
      have hg : good w h f 2 (updM v k (u k)) := fun l hl hn => by
        obtain ⟨⟨s, hs⟩, g2⟩ := hN.2.1 l hl hn
        refine ⟨⟨s, (hPF l s hl hn).mpr hs⟩, fun i hi => ?_⟩
        have := g2 i hi
        unfold BT at this ⊢
        rw [if_neg (by decide)] at this ⊢
        have hne := hcell l i hl hn hi
        have he : updM v k (u k) (atN w h l i) = v (atN w h l i) := by
          unfold updM
          rw [if_neg hne]
        rw [he]
        refine ⟨this.1, fun c hc => ?_⟩
        rw [this.2 c hc]
        exact ⟨fun ⟨s, q1, q2⟩ => ⟨s, (hPF l s hl hn).mpr q1, q2⟩, fun ⟨s, q1, q2⟩ => ⟨s, (hPF l s hl hn).mp q1, q2⟩⟩
      have hsub := hN.2.2.1 (updM v k (u k)) (fun j => by
        unfold updM
        by_cases h3 : j = k
        · rw [if_pos h3, h3]
          exact sub_rfl
        · rw [if_neg h3]
          exact hN.1 j) hg k
      unfold updM at hsub
      rw [if_pos rfl] at hsub
      have := sub_le (hu16 k hk) (hv k hk) hsub
      omega
    · exact hbit _ (by omega) b2 a2
  · exact hbit _ (by omega) b1 a1
