/-! how many bits a word has; the two ways of counting them (own work) -/
def pop : Nat → (Nat → Bool) → Nat
  | 0, _ => 0
  | n + 1, f => pop n f + if f n then 1 else 0
theorem pop_le : ∀ n (f : Nat → Bool), pop n f ≤ n
  | 0, _ => Nat.le_refl _
  | n + 1, f => by
    have := pop_le n f
    unfold pop
    split <;> omega
theorem pop_c {n : Nat} {f g : Nat → Bool} (h : ∀ i, i < n → f i = g i) : pop n f = pop n g := by
  induction n with
  | zero => rfl
  | succ n ih =>
    unfold pop
    rw [ih (fun i hi => h i (by omega)), h n (by omega)]
theorem pop_add (m n : Nat) (f : Nat → Bool) : pop (m + n) f = pop m f + pop n (fun i => f (m + i)) := by
  induction n with
  | zero => rfl
  | succ n ih =>
    show pop (m + n) f + (if f (m + n) then 1 else 0) = pop m f + (pop n (fun i => f (m + i)) + if f (m + n) then 1 else 0)
    rw [ih]
    omega
def pk_mk (c : Nat) : Nat → Nat
  | 0 => 0
  | k + 1 => c + 256 * pk_mk c k
def pw1 (k x : Nat) : Nat := x - ((x / 2) &&& pk_mk 85 k)
def pw2 (k x : Nat) : Nat := (pw1 k x &&& pk_mk 51 k) + ((pw1 k x / 4) &&& pk_mk 51 k)
def pw3 (k x : Nat) : Nat := (pw2 k x + pw2 k x / 16) &&& pk_mk 15 k
def pV : Nat → Nat → Nat
  | 0, _ => 0
  | k + 1, x => pop 8 (x % 256).testBit + 256 * pV k (x / 256)
def pS : Nat → Nat → Nat
  | 0, _ => 0
  | k + 1, x => pop 8 (x % 256).testBit + pS k (x / 256)
theorem and_sp {a c m d : Nat} (ha : a < 256) (hm : m < 256) : (a + 256 * c) &&& (m + 256 * d) = (a &&& m) + 256 * (c &&& d) := by
  have key : ∀ {a c : Nat}, a < 256 → ∀ j, (a + 256 * c).testBit j = if j < 8 then a.testBit j else c.testBit (j - 8) := by
    intro a c ha j
    rw [Nat.add_comm]
    exact Nat.testBit_two_pow_mul_add (i := 8) c ha j
  apply Nat.eq_of_testBit_eq
  intro j
  have hl : a &&& m < 256 := Nat.lt_of_le_of_lt Nat.and_le_left ha
  rw [Nat.testBit_and, key ha, key hm, key hl]
  split <;> rw [Nat.testBit_and]
def pg1 (b : Nat) : Nat := b - ((b / 2) &&& 85)
def pg2 (b : Nat) : Nat := (pg1 b &&& 51) + ((pg1 b / 4) &&& 51)
theorem pg_a : ∀ b, b < 256 → ∀ t, t < 2 → (b / 2 + 128 * t) &&& 85 = (b / 2) &&& 85 := by decide +kernel
theorem pg_b : ∀ b, b < 256 → (b / 2) &&& 85 ≤ b ∧ pg1 b < 256 ∧ pg2 b ≤ 68 ∧ pg2 b % 16 ≤ 4 := by decide +kernel
theorem pg_c : ∀ b, b < 256 → ∀ t, t < 4 → (b / 4 + 64 * t) &&& 51 = (b / 4) &&& 51 := by decide +kernel
theorem pg_d : ∀ b, b < 256 → ∀ t, t < 5 → (pg2 b + pg2 b / 16 + 16 * t) &&& 15 = pop 8 b.testBit := by decide +kernel
theorem pw1_s (k x : Nat) : pw1 (k + 1) x = pg1 (x % 256) + 256 * pw1 k (x / 256) := by
  have hb : x % 256 < 256 := Nat.mod_lt _ (by decide)
  show x - ((x / 2) &&& (85 + 256 * pk_mk 85 k)) = (x % 256 - ((x % 256 / 2) &&& 85)) + 256 * (x / 256 - ((x / 256 / 2) &&& pk_mk 85 k))
  have e : x / 2 = (x % 256 / 2 + 128 * (x / 256 % 2)) + 256 * (x / 256 / 2) := by omega
  have h1 := and_sp (a := x % 256 / 2 + 128 * (x / 256 % 2)) (c := x / 256 / 2) (m := 85) (d := pk_mk 85 k) (by omega) (by decide)
  rw [← e, pg_a _ hb _ (Nat.mod_lt _ (by decide))] at h1
  rw [h1]
  have h2 := (pg_b _ hb).1
  have h3 : (x / 256 / 2) &&& pk_mk 85 k ≤ x / 256 := Nat.le_trans Nat.and_le_left (Nat.div_le_self _ _)
  omega
theorem pw2_s (k x : Nat) : pw2 (k + 1) x = pg2 (x % 256) + 256 * pw2 k (x / 256) := by
  have hb : x % 256 < 256 := Nat.mod_lt _ (by decide)
  have hg := (pg_b _ hb).2.1
  show (pw1 (k + 1) x &&& (51 + 256 * pk_mk 51 k)) + ((pw1 (k + 1) x / 4) &&& (51 + 256 * pk_mk 51 k)) = pg2 (x % 256) + 256 * ((pw1 k (x / 256) &&& pk_mk 51 k) + ((pw1 k (x / 256) / 4) &&& pk_mk 51 k))
  rw [pw1_s]
  generalize pw1 k (x / 256) = z
  have e : (pg1 (x % 256) + 256 * z) / 4 = (pg1 (x % 256) / 4 + 64 * (z % 4)) + 256 * (z / 4) := by omega
  rw [e]
  rw [and_sp (by omega) (by decide), and_sp (by omega) (by decide), pg_c _ hg _ (Nat.mod_lt _ (by decide))]
  unfold pg2
  omega
theorem pw2_m (k x : Nat) : pw2 k x % 16 ≤ 4 := by
  cases k with
  | zero =>
    unfold pw2 pk_mk
    simp
  | succ k =>
    rw [pw2_s]
    have := (pg_b (x % 256) (Nat.mod_lt _ (by decide))).2.2.2
    omega
theorem pw3_V (k : Nat) : ∀ x, pw3 k x = pV k x := by
  induction k with
  | zero =>
    intro x
    unfold pw3 pk_mk pV
    simp
  | succ k ih =>
    intro x
    have hb : x % 256 < 256 := Nat.mod_lt _ (by decide)
    have hg := (pg_b _ hb).2.2.1
    have hm := pw2_m k (x / 256)
    have := ih (x / 256)
    unfold pV
    rw [← this]
    unfold pw3
    rw [pw2_s]
    generalize pw2 k (x / 256) = z at *
    have e : pg2 (x % 256) + 256 * z + (pg2 (x % 256) + 256 * z) / 16 = (pg2 (x % 256) + pg2 (x % 256) / 16 + 16 * (z % 16)) + 256 * (z + z / 16) := by omega
    rw [e]
    show _ &&& (15 + 256 * pk_mk 15 k) = _
    rw [and_sp (by omega) (by decide), pg_d _ hb _ (by omega)]
theorem pS_pop (k : Nat) : ∀ x : Nat, pS k x = pop (8 * k) x.testBit := by
  induction k with
  | zero => intro x; rfl
  | succ k ih =>
    intro x
    unfold pS
    rw [ih, show 8 * (k + 1) = 8 + 8 * k by omega, pop_add]
    congr 1
    · exact pop_c (fun i hi => by rw [Nat.testBit_mod_two_pow (j := 8)]; simp [hi])
    · exact pop_c (fun i _ => by
        show (x / 2 ^ 8).testBit i = _
        rw [Nat.testBit_div_two_pow]
        congr 1
        omega)
theorem dv1 {a u : Nat} (h : a < 256) : (a + 256 * u) / 256 = u := by omega
theorem dv2 {a b u : Nat} (h : a < 256) (h2 : b < 256) : (a + 256 * (b + 256 * u)) / 65536 = u := by omega
theorem dv4 {a b c d u : Nat} (h : a < 256) (h2 : b < 256) (h3 : c < 256) (h4 : d < 256) : (a + 256 * (b + 256 * (c + 256 * (d + 256 * u)))) / 4294967296 = u := by
  rw [show 4294967296 = 65536 * 65536 by rfl, ← Nat.div_div_eq_div_mul, dv2 h h2, dv2 h3 h4]
theorem dm7 {a u : Nat} (h : a < 128) : (a + 256 * u) % 128 = a := by omega
theorem dm6 {a u : Nat} (h : a < 64) : (a + 256 * u) % 64 = a := by omega
theorem sum4 {a b c d : Nat} (x y : Nat) (h : b + d = y) (h2 : a + c = x) : (a + 256 * b) + (c + 256 * d) = x + 256 * y := by omega
theorem lt_by {a b m M : Nat} (ha : a < 256) (hM : M = 256 * m) (hb : b < m) : a + 256 * b < M := by omega
theorem key4 (x0 x1 x2 x3 : Nat) (y0 : x0 < 256) (y1 : x1 < 256) (y2 : x2 < 256) (y3 : x3 < 256) : x0 + 256 * (x1 + 256 * (x2 + 256 * (x3 + 256 * 0))) < 4294967296 :=
  lt_by (m := 16777216) y0 rfl (lt_by (m := 65536) y1 rfl (lt_by (m := 256) y2 rfl (by omega)))
theorem key8 (x0 x1 x2 x3 x4 x5 x6 x7 : Nat) (y0 : x0 < 256) (y1 : x1 < 256) (y2 : x2 < 256) (y3 : x3 < 256) (y4 : x4 < 256) (y5 : x5 < 256) (y6 : x6 < 256) (y7 : x7 < 256) : x0 + 256 * (x1 + 256 * (x2 + 256 * (x3 + 256 * (x4 + 256 * (x5 + 256 * (x6 + 256 * (x7 + 256 * 0))))))) < 18446744073709551616 :=
  lt_by (m := 72057594037927936) y0 rfl (lt_by (m := 281474976710656) y1 rfl (lt_by (m := 1099511627776) y2 rfl (lt_by (m := 4294967296) y3 rfl (key4 _ _ _ _ y4 y5 y6 y7))))
theorem pV4 {a b c d : Nat} (h1 : a ≤ 8) (h2 : b ≤ 8) (h3 : c ≤ 8) (h4 : d ≤ 8) (T s4 s5 : Nat) (q1 : T = a + 256 * (b + 256 * (c + 256 * (d + 256 * 0)))) (q2 : s4 = T + T / 256) (q3 : s5 = s4 + s4 / 65536) : T < 4294967296 ∧ s4 < 4294967296 ∧ s5 < 4294967296 ∧ s5 % 64 = a + b + (c + d) := by
  have e4 : T / 256 = b + 256 * (c + 256 * (d + 256 * 0)) := by rw [q1, dv1 (Nat.lt_of_le_of_lt h1 (by decide))]
  have e5 : s4 = (a + b) + 256 * ((b + c) + 256 * ((c + d) + 256 * ((d + 0) + 256 * 0))) := by
    rw [q2, e4, q1]
    exact sum4 _ _ (sum4 _ _ (sum4 _ _ rfl rfl) rfl) rfl
  have e6 : s4 / 65536 = (c + d) + 256 * ((d + 0) + 256 * 0) := by rw [e5, dv2 (by clear q1 q2 q3 e4 e5; omega) (by clear q1 q2 q3 e4 e5; omega)]
  have e7 : s5 = (a + b + (c + d)) + 256 * ((b + c + (d + 0)) + 256 * ((c + d) + 256 * ((d + 0) + 256 * 0))) := by
    rw [q3, e6, e5]
    exact sum4 _ _ (sum4 _ _ rfl rfl) rfl
  clear q2 q3 e4 e6
  refine ⟨?_, ?_, ?_, ?_⟩
  · rw [q1]
    clear q1 e5 e7
    exact key4 _ _ _ _ (by omega) (by omega) (by omega) (by omega)
  · rw [e5]
    clear q1 e5 e7
    exact key4 _ _ _ _ (by omega) (by omega) (by omega) (by omega)
  · rw [e7]
    clear q1 e5 e7
    exact key4 _ _ _ _ (by omega) (by omega) (by omega) (by omega)
  · rw [e7]
    clear q1 e5 e7
    rw [dm6 (by omega)]
theorem pV8 {a b c d e f g h : Nat} (h1 : a ≤ 8) (h2 : b ≤ 8) (h3 : c ≤ 8) (h4 : d ≤ 8) (h5 : e ≤ 8) (h6 : f ≤ 8) (h7 : g ≤ 8) (h8 : h ≤ 8) (T s4 s5 s6 : Nat) (q1 : T = a + 256 * (b + 256 * (c + 256 * (d + 256 * (e + 256 * (f + 256 * (g + 256 * (h + 256 * 0)))))))) (q2 : s4 = T + T / 256) (q3 : s5 = s4 + s4 / 65536) (q4 : s6 = s5 + s5 / 4294967296) : T < 18446744073709551616 ∧ s4 < 18446744073709551616 ∧ s5 < 18446744073709551616 ∧ s6 < 18446744073709551616 ∧ s6 % 128 = (a + b + (c + d)) + (e + f + (g + h)) := by
  have e4 : T / 256 = b + 256 * (c + 256 * (d + 256 * (e + 256 * (f + 256 * (g + 256 * (h + 256 * 0)))))) := by rw [q1, dv1 (Nat.lt_of_le_of_lt h1 (by decide))]
  have e5 : s4 = (a + b) + 256 * ((b + c) + 256 * ((c + d) + 256 * ((d + e) + 256 * ((e + f) + 256 * ((f + g) + 256 * ((g + h) + 256 * ((h + 0) + 256 * 0))))))) := by
    rw [q2, e4, q1]
    exact sum4 _ _ (sum4 _ _ (sum4 _ _ (sum4 _ _ (sum4 _ _ (sum4 _ _ (sum4 _ _ rfl rfl) rfl) rfl) rfl) rfl) rfl) rfl
  have e6 : s4 / 65536 = (c + d) + 256 * ((d + e) + 256 * ((e + f) + 256 * ((f + g) + 256 * ((g + h) + 256 * ((h + 0) + 256 * 0))))) := by rw [e5, dv2 (by clear q1 q2 q3 q4 e4 e5; omega) (by clear q1 q2 q3 q4 e4 e5; omega)]
  have e7 : s5 = (a + b + (c + d)) + 256 * ((b + c + (d + e)) + 256 * ((c + d + (e + f)) + 256 * ((d + e + (f + g)) + 256 * ((e + f + (g + h)) + 256 * ((f + g + (h + 0)) + 256 * ((g + h) + 256 * ((h + 0) + 256 * 0))))))) := by
    rw [q3, e6, e5]
    exact sum4 _ _ (sum4 _ _ (sum4 _ _ (sum4 _ _ (sum4 _ _ (sum4 _ _ rfl rfl) rfl) rfl) rfl) rfl) rfl
  have e8 : s5 / 4294967296 = (e + f + (g + h)) + 256 * ((f + g + (h + 0)) + 256 * ((g + h) + 256 * ((h + 0) + 256 * 0))) := by rw [e7, dv4 (by clear q1 q2 q3 q4 e4 e5 e6 e7; omega) (by clear q1 q2 q3 q4 e4 e5 e6 e7; omega) (by clear q1 q2 q3 q4 e4 e5 e6 e7; omega) (by clear q1 q2 q3 q4 e4 e5 e6 e7; omega)]
  have e9 : s6 = (a + b + (c + d) + (e + f + (g + h))) + 256 * ((b + c + (d + e) + (f + g + (h + 0))) + 256 * ((c + d + (e + f) + (g + h)) + 256 * ((d + e + (f + g) + (h + 0)) + 256 * ((e + f + (g + h)) + 256 * ((f + g + (h + 0)) + 256 * ((g + h) + 256 * ((h + 0) + 256 * 0))))))) := by
    rw [q4, e8, e7]
    exact sum4 _ _ (sum4 _ _ (sum4 _ _ (sum4 _ _ rfl rfl) rfl) rfl) rfl
  clear q2 q3 q4 e4 e6 e8
  refine ⟨?_, ?_, ?_, ?_, ?_⟩
  · rw [q1]
    clear q1 e5 e7 e9
    exact key8 _ _ _ _ _ _ _ _ (by omega) (by omega) (by omega) (by omega) (by omega) (by omega) (by omega) (by omega)
  · rw [e5]
    clear q1 e5 e7 e9
    exact key8 _ _ _ _ _ _ _ _ (by omega) (by omega) (by omega) (by omega) (by omega) (by omega) (by omega) (by omega)
  · rw [e7]
    clear q1 e5 e7 e9
    exact key8 _ _ _ _ _ _ _ _ (by omega) (by omega) (by omega) (by omega) (by omega) (by omega) (by omega) (by omega)
  · rw [e9]
    clear q1 e5 e7 e9
    exact key8 _ _ _ _ _ _ _ _ (by omega) (by omega) (by omega) (by omega) (by omega) (by omega) (by omega) (by omega)
  · rw [e9]
    clear q1 e5 e7 e9
    rw [dm7 (by omega)]
theorem u_shL {n : Nat} (hn : n < 64) (x : Int64) : ((x.toUInt64 >>> ((nI n).toInt64.toUInt64 &&& Int64.toUInt64 63)).toInt64).toBitVec.toNat = x.toBitVec.toNat / 2 ^ n := by
  show (x.toUInt64 >>> ((nI n).toInt64.toUInt64 &&& Int64.toUInt64 63)).toBitVec.toNat = _
  rw [UInt64.toBitVec_shiftRight]
  show (x.toUInt64.toBitVec >>> (((nI n).toInt64.toUInt64 &&& Int64.toUInt64 63).toBitVec % 64).toNat).toNat = _
  rw [sl_u n hn, BitVec.toNat_ushiftRight, Nat.shiftRight_eq_div_pow]
  rfl
theorem u_shI {n : Nat} (hn : n < 32) (x : Int32) : ((x.toUInt32 >>> ((nI n).toUInt32 &&& Int32.toUInt32 31)).toInt32).toBitVec.toNat = x.toBitVec.toNat / 2 ^ n := by
  show (x.toUInt32 >>> ((nI n).toUInt32 &&& Int32.toUInt32 31)).toBitVec.toNat = _
  rw [UInt32.toBitVec_shiftRight]
  show (x.toUInt32.toBitVec >>> (((nI n).toUInt32 &&& Int32.toUInt32 (nI 31)).toBitVec % 32).toNat).toNat = _
  rw [s_u n hn, BitVec.toNat_ushiftRight, Nat.shiftRight_eq_div_pow]
  rfl
theorem u_andL (x y : Int64) : (x &&& y).toBitVec.toNat = x.toBitVec.toNat &&& y.toBitVec.toNat := by rw [Int64.toBitVec_and, BitVec.toNat_and]
theorem u_andI (x y : Int32) : (x &&& y).toBitVec.toNat = x.toBitVec.toNat &&& y.toBitVec.toNat := by rw [Int32.toBitVec_and, BitVec.toNat_and]
theorem u_subL {x y : Int64} {a b : Nat} (hx : x.toBitVec.toNat = a) (hy : y.toBitVec.toNat = b) (h : b ≤ a) : (x - y).toBitVec.toNat = a - b := by
  have := x.toBitVec.isLt
  rw [Int64.toBitVec_sub, BitVec.toNat_sub, hx, hy]
  omega
theorem u_subI {x y : Int32} {a b : Nat} (hx : x.toBitVec.toNat = a) (hy : y.toBitVec.toNat = b) (h : b ≤ a) : (x - y).toBitVec.toNat = a - b := by
  have := x.toBitVec.isLt
  rw [Int32.toBitVec_sub, BitVec.toNat_sub, hx, hy]
  omega
theorem u_addL {x y : Int64} {a b : Nat} (hx : x.toBitVec.toNat = a) (hy : y.toBitVec.toNat = b) (h : a + b < 2 ^ 64) : (x + y).toBitVec.toNat = a + b := by
  rw [Int64.toBitVec_add, BitVec.toNat_add, hx, hy, Nat.mod_eq_of_lt h]
theorem u_addI {x y : Int32} {a b : Nat} (hx : x.toBitVec.toNat = a) (hy : y.toBitVec.toNat = b) (h : a + b < 2 ^ 32) : (x + y).toBitVec.toNat = a + b := by
  rw [Int32.toBitVec_add, BitVec.toNat_add, hx, hy, Nat.mod_eq_of_lt h]
theorem u_127 : ∀ i, i < 32 → bt 127 i = decide (i < 7) := by decide +kernel
theorem u_63 : ∀ i, i < 32 → bt 63 i = decide (i < 6) := by decide +kernel
def bl1 (x : Int64) : Int64 := x - (((x.toUInt64 >>> ((nI 1).toInt64.toUInt64 &&& Int64.toUInt64 63)).toInt64) &&& 6148914691236517205)
def bl2 (a : Int64) : Int64 := (a &&& 3689348814741910323) + (((a.toUInt64 >>> ((nI 2).toInt64.toUInt64 &&& Int64.toUInt64 63)).toInt64) &&& 3689348814741910323)
def bl3 (b : Int64) : Int64 := (b + ((b.toUInt64 >>> ((nI 4).toInt64.toUInt64 &&& Int64.toUInt64 63)).toInt64)) &&& 1085102592571150095
def bl4 (c : Int64) : Int64 := c + ((c.toUInt64 >>> ((nI 8).toInt64.toUInt64 &&& Int64.toUInt64 63)).toInt64)
def bl5 (d : Int64) : Int64 := d + ((d.toUInt64 >>> ((nI 16).toInt64.toUInt64 &&& Int64.toUInt64 63)).toInt64)
def bl6 (e : Int64) : Int64 := e + ((e.toUInt64 >>> ((nI 32).toInt64.toUInt64 &&& Int64.toUInt64 63)).toInt64)
def bcL (x : Int64) : Int32 := (bl6 (bl5 (bl4 (bl3 (bl2 (bl1 x)))))).toInt32 &&& 127
def bi1 (x : Int32) : Int32 := x - (((x.toUInt32 >>> ((nI 1).toUInt32 &&& Int32.toUInt32 31)).toInt32) &&& 1431655765)
def bi2 (a : Int32) : Int32 := (a &&& 858993459) + (((a.toUInt32 >>> ((nI 2).toUInt32 &&& Int32.toUInt32 31)).toInt32) &&& 858993459)
def bi3 (b : Int32) : Int32 := (b + ((b.toUInt32 >>> ((nI 4).toUInt32 &&& Int32.toUInt32 31)).toInt32)) &&& 252645135
def bi4 (c : Int32) : Int32 := c + ((c.toUInt32 >>> ((nI 8).toUInt32 &&& Int32.toUInt32 31)).toInt32)
def bi5 (d : Int32) : Int32 := d + ((d.toUInt32 >>> ((nI 16).toUInt32 &&& Int32.toUInt32 31)).toInt32)
def bcI (x : Int32) : Int32 := bi5 (bi4 (bi3 (bi2 (bi1 x)))) &&& 63
theorem bcL_pop (x : Int64) : bcL x = nI (pop 64 (lb x)) := by
  unfold bcL
  have m1 : (6148914691236517205 : Int64).toBitVec.toNat = pk_mk 85 8 := by decide +kernel
  have m2 : (3689348814741910323 : Int64).toBitVec.toNat = pk_mk 51 8 := by decide +kernel
  have m3 : (1085102592571150095 : Int64).toBitVec.toNat = pk_mk 15 8 := by decide +kernel
  have k2 : pk_mk 51 8 = 3689348814741910323 := by decide +kernel
  have ha : (bl1 x).toBitVec.toNat = pw1 8 x.toBitVec.toNat := by
    unfold bl1
    refine u_subL rfl ?_ (Nat.le_trans Nat.and_le_left (Nat.div_le_self _ _))
    rw [u_andL, u_shL (by decide), m1]
  generalize bl1 x = a at ha ⊢
  have hb : (bl2 a).toBitVec.toNat = pw2 8 x.toBitVec.toNat := by
    unfold bl2
    refine u_addL ?_ ?_ ?_
    · rw [u_andL, m2, ha]
    · rw [u_andL, u_shL (by decide), m2, ha]
    · have h1 : pw1 8 x.toBitVec.toNat &&& pk_mk 51 8 ≤ pk_mk 51 8 := Nat.and_le_right
      have h2 : pw1 8 x.toBitVec.toNat / 4 &&& pk_mk 51 8 ≤ pk_mk 51 8 := Nat.and_le_right
      omega
  generalize bl2 a = b at hb ⊢
  have hc : (bl3 b).toBitVec.toNat = pV 8 x.toBitVec.toNat := by
    unfold bl3
    rw [← pw3_V, u_andL, m3]
    unfold pw3
    rw [u_addL hb (by rw [u_shL (by decide), hb])]
    have h1 : pw1 8 x.toBitVec.toNat &&& pk_mk 51 8 ≤ pk_mk 51 8 := Nat.and_le_right
    have h2 : pw1 8 x.toBitVec.toNat / 4 &&& pk_mk 51 8 ≤ pk_mk 51 8 := Nat.and_le_right
    unfold pw2
    omega
  generalize bl3 b = c at hc ⊢
  have hs := pS_pop 8 x.toBitVec.toNat
  simp only [pV] at hc
  simp only [pS] at hs
  obtain ⟨b1, b2, b3, b4, b5⟩ := pV8 (pop_le 8 _) (pop_le 8 _) (pop_le 8 _) (pop_le 8 _) (pop_le 8 _) (pop_le 8 _) (pop_le 8 _) (pop_le 8 _) _ _ _ _ hc rfl rfl rfl
  have hd : (bl4 c).toBitVec.toNat = c.toBitVec.toNat + c.toBitVec.toNat / 256 := u_addL rfl (u_shL (by decide) _) b2
  generalize bl4 c = d at hd ⊢
  have he : (bl5 d).toBitVec.toNat = d.toBitVec.toNat + d.toBitVec.toNat / 65536 := u_addL rfl (u_shL (by decide) _) (by rw [hd]; exact b3)
  generalize bl5 d = e at he ⊢
  have hf : (bl6 e).toBitVec.toNat = e.toBitVec.toNat + e.toBitVec.toNat / 4294967296 := u_addL rfl (u_shL (by decide) _) (by rw [he, hd]; exact b4)
  generalize bl6 e = f at hf ⊢
  have hp : pop 64 (lb x) = f.toBitVec.toNat % 128 := by
    rw [hf, he, hd, b5]
    show pop 64 x.toBitVec.toNat.testBit = _
    rw [← hs]
    simp only [Nat.add_assoc, Nat.add_zero]
  rw [hp]
  refine b_ext fun i hi => ?_
  rw [b_and, b_l2i f hi, u_127 i hi, b_nI hi, Nat.testBit_mod_two_pow (j := 7), Bool.and_comm]
  rfl
theorem bcI_pop (x : Int32) : bcI x = nI (pop 32 (bt x)) := by
  unfold bcI
  have m1 : (1431655765 : Int32).toBitVec.toNat = pk_mk 85 4 := by decide +kernel
  have m2 : (858993459 : Int32).toBitVec.toNat = pk_mk 51 4 := by decide +kernel
  have m3 : (252645135 : Int32).toBitVec.toNat = pk_mk 15 4 := by decide +kernel
  have k2 : pk_mk 51 4 = 858993459 := by decide +kernel
  have ha : (bi1 x).toBitVec.toNat = pw1 4 x.toBitVec.toNat := by
    unfold bi1
    refine u_subI rfl ?_ (Nat.le_trans Nat.and_le_left (Nat.div_le_self _ _))
    rw [u_andI, u_shI (by decide), m1]
  generalize bi1 x = a at ha ⊢
  have hb : (bi2 a).toBitVec.toNat = pw2 4 x.toBitVec.toNat := by
    unfold bi2
    refine u_addI ?_ ?_ ?_
    · rw [u_andI, m2, ha]
    · rw [u_andI, u_shI (by decide), m2, ha]
    · have h1 : pw1 4 x.toBitVec.toNat &&& pk_mk 51 4 ≤ pk_mk 51 4 := Nat.and_le_right
      have h2 : pw1 4 x.toBitVec.toNat / 4 &&& pk_mk 51 4 ≤ pk_mk 51 4 := Nat.and_le_right
      omega
  generalize bi2 a = b at hb ⊢
  have hc : (bi3 b).toBitVec.toNat = pV 4 x.toBitVec.toNat := by
    unfold bi3
    rw [← pw3_V, u_andI, m3]
    unfold pw3
    rw [u_addI hb (by rw [u_shI (by decide), hb])]
    have h1 : pw1 4 x.toBitVec.toNat &&& pk_mk 51 4 ≤ pk_mk 51 4 := Nat.and_le_right
    have h2 : pw1 4 x.toBitVec.toNat / 4 &&& pk_mk 51 4 ≤ pk_mk 51 4 := Nat.and_le_right
    unfold pw2
    omega
  generalize bi3 b = c at hc ⊢
  have hs := pS_pop 4 x.toBitVec.toNat
  simp only [pV] at hc
  simp only [pS] at hs
  obtain ⟨b1, b2, b3, b4⟩ := pV4 (pop_le 8 _) (pop_le 8 _) (pop_le 8 _) (pop_le 8 _) _ _ _ hc rfl rfl
  have hd : (bi4 c).toBitVec.toNat = c.toBitVec.toNat + c.toBitVec.toNat / 256 := u_addI rfl (u_shI (by decide) _) b2
  generalize bi4 c = d at hd ⊢
  have he : (bi5 d).toBitVec.toNat = d.toBitVec.toNat + d.toBitVec.toNat / 65536 := u_addI rfl (u_shI (by decide) _) (by rw [hd]; exact b3)
  generalize bi5 d = e at he ⊢
  have hp : pop 32 (bt x) = e.toBitVec.toNat % 64 := by
    rw [he, hd, b4]
    show pop 32 x.toBitVec.toNat.testBit = _
    rw [← hs]
    simp only [Nat.add_assoc, Nat.add_zero]
  rw [hp]
  refine b_ext fun i hi => ?_
  rw [b_and, u_63 i hi, b_nI hi, Nat.testBit_mod_two_pow (j := 6), Bool.and_comm]
  rfl
