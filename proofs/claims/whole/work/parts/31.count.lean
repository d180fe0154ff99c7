/-! how many bits: Long.bitCount, and the reference's count -/
def cntN (n : Nat) : Nat → Nat
  | 0 => 0
  | m + 1 => cntN n m + (if n.testBit m then 1 else 0)
/-- how many cells a set has -/
def cnt (x : Int64) : Nat := cntN (uN x) 64
theorem cntN_le (n m : Nat) : cntN n m ≤ m := by
  induction m with
  | zero => exact Nat.le_refl _
  | succ m ih => unfold cntN; split <;> omega
theorem and_split {a c d e : Nat} (ha : a < 256) (hd : d < 256) : (a + 256 * c) &&& (d + 256 * e) = (a &&& d) + 256 * (c &&& e) := by
  apply Nat.eq_of_testBit_eq
  intro j
  have h1 : (a &&& d) < 2 ^ 8 := Nat.and_lt_two_pow _ hd
  rw [Nat.testBit_and, show a + 256 * c = 2 ^ 8 * c + a by omega, show d + 256 * e = 2 ^ 8 * e + d by omega, show (a &&& d) + 256 * (c &&& e) = 2 ^ 8 * (c &&& e) + (a &&& d) by omega, Nat.testBit_two_pow_mul_add _ ha, Nat.testBit_two_pow_mul_add _ hd, Nat.testBit_two_pow_mul_add _ h1]
  by_cases hj : j < 8
  · simp [hj, Nat.testBit_and]
  · simp [hj, Nat.testBit_and]
def mk5 : Nat → Nat
  | 0 => 0
  | k + 1 => 85 + 256 * mk5 k
def mk3 : Nat → Nat
  | 0 => 0
  | k + 1 => 51 + 256 * mk3 k
def mkf : Nat → Nat
  | 0 => 0
  | k + 1 => 15 + 256 * mkf k
theorem by_1 : ∀ b, b < 256 → ∀ t, t < 2 → (b / 2 + 128 * t) &&& 85 = (b / 2) &&& 85 ∧ (b / 2) &&& 85 ≤ b := by decide +kernel
theorem by_2 : ∀ b, b < 256 → ∀ t, t < 4 → (b / 4 + 64 * t) &&& 51 = (b / 4) &&& 51 := by decide +kernel
theorem by_3 : ∀ b, b < 256 → ∀ t, t < 5 → b % 16 < 5 → b / 16 < 5 → b + b / 16 + 16 * t < 256 ∧ (b + b / 16 + 16 * t) &&& 15 = (b + b / 16) &&& 15 := by decide +kernel
def sq1 (k n : Nat) : Nat := n - ((n / 2) &&& mk5 k)
def sq2 (k n : Nat) : Nat := (n &&& mk3 k) + ((n / 4) &&& mk3 k)
def sq3 (k n : Nat) : Nat := (n + n / 16) &&& mkf k
theorem and_le' (a b : Nat) : a &&& b ≤ a := Nat.and_le_left
theorem sq1_s {k b m : Nat} (hb : b < 256) : sq1 (k + 1) (b + 256 * m) = (b - ((b / 2) &&& 85)) + 256 * sq1 k m := by
  have e1 : (b + 256 * m) / 2 = (b / 2 + 128 * (m % 2)) + 256 * (m / 2) := by omega
  have h1 := by_1 b hb (m % 2) (by omega)
  have h2 : (m / 2) &&& mk5 k ≤ m := Nat.le_trans (and_le' _ _) (by omega)
  unfold sq1
  rw [e1, show mk5 (k + 1) = 85 + 256 * mk5 k from rfl, and_split (by omega) (by decide), h1.1]
  have := h1.2
  omega
theorem sq2_s {k c y : Nat} (hc : c < 256) : sq2 (k + 1) (c + 256 * y) = ((c &&& 51) + ((c / 4) &&& 51)) + 256 * sq2 k y := by
  have e1 : (c + 256 * y) / 4 = (c / 4 + 64 * (y % 4)) + 256 * (y / 4) := by omega
  have h1 := by_2 c hc (y % 4) (by omega)
  unfold sq2
  rw [e1, show mk3 (k + 1) = 51 + 256 * mk3 k from rfl, and_split hc (by decide), and_split (by omega) (by decide), h1]
  omega
theorem sq3_s {k e z : Nat} (he : e < 256) (h1 : e % 16 < 5) (h2 : e / 16 < 5) (h3 : z % 16 < 5) : sq3 (k + 1) (e + 256 * z) = ((e + e / 16) &&& 15) + 256 * sq3 k z := by
  have e1 : (e + 256 * z) + (e + 256 * z) / 16 = (e + e / 16 + 16 * (z % 16)) + 256 * (z + z / 16) := by omega
  have h4 := by_3 e he (z % 16) h3 h1 h2
  unfold sq3
  rw [e1, show mkf (k + 1) = 15 + 256 * mkf k from rfl, and_split h4.1 (by decide), h4.2]
/-- a byte's own way -/
def by_s (b : Nat) : Nat := ((b - ((b / 2) &&& 85)) &&& 51) + (((b - ((b / 2) &&& 85)) / 4) &&& 51)
theorem by_all : ∀ b, b < 256 → b - ((b / 2) &&& 85) < 256 ∧ by_s b < 256 ∧ by_s b % 16 < 5 ∧ by_s b / 16 < 5 ∧ (by_s b + by_s b / 16) &&& 15 = cntN b 8 := by decide +kernel
theorem sq_low : ∀ k n, sq2 k (sq1 k n) % 16 < 5 := by
  intro k n
  cases k with
  | zero => simp [sq2, sq1, mk3]
  | succ k =>
    have e : n = n % 256 + 256 * (n / 256) := by omega
    obtain ⟨h1, h2, h3, h4, h5⟩ := by_all (n % 256) (by omega)
    rw [e, sq1_s (by omega), sq2_s h1]
    show (by_s (n % 256) + 256 * _) % 16 < 5
    omega
theorem sq_s {k b m : Nat} (hb : b < 256) : sq3 (k + 1) (sq2 (k + 1) (sq1 (k + 1) (b + 256 * m))) = cntN b 8 + 256 * sq3 k (sq2 k (sq1 k m)) := by
  obtain ⟨h1, h2, h3, h4, h5⟩ := by_all b hb
  rw [sq1_s hb, sq2_s h1]
  show sq3 (k + 1) (by_s b + 256 * _) = _
  rw [sq3_s h2 h3 h4 (sq_low k m), h5]
theorem cntN_add (n m : Nat) : ∀ j, cntN n (m + j) = cntN n m + cntN (n / 2 ^ m) j := by
  intro j
  induction j with
  | zero => rfl
  | succ j ih =>
    have h1 : cntN n (m + (j + 1)) = cntN n (m + j) + (if n.testBit (m + j) then 1 else 0) := rfl
    have h2 : cntN (n / 2 ^ m) (j + 1) = cntN (n / 2 ^ m) j + (if n.testBit (m + j) then 1 else 0) := by
      show _ + (if (n / 2 ^ m).testBit j then 1 else 0) = _
      rw [Nat.testBit_div_two_pow, Nat.add_comm j m]
    rw [h1, h2, ih, Nat.add_assoc]
theorem cntN_mod (n m : Nat) : ∀ j, j ≤ m → cntN (n % 2 ^ m) j = cntN n j := by
  intro j
  induction j with
  | zero => intro _; rfl
  | succ j ih =>
    intro hj
    show cntN _ j + _ = cntN _ j + _
    rw [ih (by omega), Nat.testBit_mod_two_pow]
    simp [show j < m by omega]
theorem cntN_8 (n j : Nat) : cntN n (8 + j) = cntN (n % 256) 8 + cntN (n / 256) j := by
  rw [cntN_add, show (256 : Nat) = 2 ^ 8 from rfl, cntN_mod n 8 8 (Nat.le_refl _)]
def w8 (n : Nat) : Nat := sq3 8 (sq2 8 (sq1 8 n))
theorem w8_eq (n : Nat) (hn : n < 2 ^ 64) : ∃ p0 p1 p2 p3 p4 p5 p6 p7, (p0 ≤ 8 ∧ p1 ≤ 8 ∧ p2 ≤ 8 ∧ p3 ≤ 8 ∧ p4 ≤ 8 ∧ p5 ≤ 8 ∧ p6 ≤ 8 ∧ p7 ≤ 8) ∧ w8 n = p0 + 256 * (p1 + 256 * (p2 + 256 * (p3 + 256 * (p4 + 256 * (p5 + 256 * (p6 + 256 * p7)))))) ∧ cntN n 64 = p0 + (p1 + (p2 + (p3 + (p4 + (p5 + (p6 + p7)))))) := by
  have st : ∀ k m, sq3 (k + 1) (sq2 (k + 1) (sq1 (k + 1) m)) = cntN (m % 256) 8 + 256 * sq3 k (sq2 k (sq1 k (m / 256))) := fun k m => by
    have e : m = m % 256 + 256 * (m / 256) := by omega
    conv => lhs; rw [e]
    exact sq_s (by omega)
  refine ⟨_, _, _, _, _, _, _, _, ⟨cntN_le (n % 256) 8, cntN_le (n / 256 % 256) 8, cntN_le (n / 256 / 256 % 256) 8, cntN_le (n / 256 / 256 / 256 % 256) 8, cntN_le (n / 256 / 256 / 256 / 256 % 256) 8, cntN_le (n / 256 / 256 / 256 / 256 / 256 % 256) 8, cntN_le (n / 256 / 256 / 256 / 256 / 256 / 256 % 256) 8, cntN_le (n / 256 / 256 / 256 / 256 / 256 / 256 / 256 % 256) 8⟩, ?_, ?_⟩
  · unfold w8
    rw [st, st, st, st, st, st, st, st]
    simp [sq3, mkf]
  · rw [cntN_8 n 56, cntN_8 _ 48, cntN_8 _ 40, cntN_8 _ 32, cntN_8 _ 24, cntN_8 _ 16, cntN_8 _ 8]
    have e : cntN (n / 256 / 256 / 256 / 256 / 256 / 256 / 256) 8 = cntN (n / 256 / 256 / 256 / 256 / 256 / 256 / 256 % 256) 8 := by
      rw [Nat.mod_eq_of_lt (by omega)]
    rw [e]
theorem uN_sub {x y : Int64} (h : uN y ≤ uN x) : uN (x - y) = uN x - uN y := by
  show (x.toUInt64 - y.toUInt64).toNat = _
  rw [UInt64.toNat_sub]
  have h1 := uN_lt x
  have h2 := uN_lt y
  unfold uN at h h1 h2 ⊢
  omega
theorem uN_and (x y : Int64) : uN (x &&& y) = uN x &&& uN y := UInt64.toNat_and _ _
theorem uN_toI32 (y : Int64) : y.toInt32 &&& (127 : Int32) = nI (uN y % 128) := by
  rw [pk_and y.toInt32 7 (by decide)]
  congr 1
  have e : y.toInt32.toBitVec.toNat = uN y % 2 ^ 32 := by
    show (y.toBitVec.signExtend 32).toNat = _
    rw [BitVec.signExtend_eq_setWidth_of_le _ (by decide), BitVec.toNat_setWidth]
    rfl
  rw [e]
  omega
theorem dv1 {a y : Nat} (h : a < 256) : (a + 256 * y) / 256 = y := by omega
theorem dv2 {a b y : Nat} (h : a < 256) (h2 : b < 256) : (a + 256 * (b + 256 * y)) / 65536 = y := by omega
theorem dv4 {a b c d y : Nat} (h : a < 256) (h2 : b < 256) (h3 : c < 256) (h4 : d < 256) : (a + 256 * (b + 256 * (c + 256 * (d + 256 * y)))) / 4294967296 = y := by
  rw [show (4294967296 : Nat) = 65536 * 65536 from rfl, ← Nat.div_div_eq_div_mul, dv2 h h2, dv2 h3 h4]
theorem bc_end {p0 p1 p2 p3 p4 p5 p6 p7 a b c d : Nat} (hp : p0 ≤ 8 ∧ p1 ≤ 8 ∧ p2 ≤ 8 ∧ p3 ≤ 8 ∧ p4 ≤ 8 ∧ p5 ≤ 8 ∧ p6 ≤ 8 ∧ p7 ≤ 8) (ha : a = p0 + 256 * (p1 + 256 * (p2 + 256 * (p3 + 256 * (p4 + 256 * (p5 + 256 * (p6 + 256 * p7))))))) (hb : b = a + a / 256) (hc : c = b + b / 65536) (hd : d = c + c / 4294967296) : d % 128 = p0 + (p1 + (p2 + (p3 + (p4 + (p5 + (p6 + p7)))))) := by
  have e1 : a / 256 = p1 + 256 * (p2 + 256 * (p3 + 256 * (p4 + 256 * (p5 + 256 * (p6 + 256 * p7))))) := by rw [ha]; exact dv1 (by omega)
  have e2 : b = (p0 + p1) + 256 * ((p1 + p2) + 256 * ((p2 + p3) + 256 * ((p3 + p4) + 256 * ((p4 + p5) + 256 * ((p5 + p6) + 256 * ((p6 + p7) + 256 * p7)))))) := by rw [hb, e1, ha]; omega
  have e3 : b / 65536 = (p2 + p3) + 256 * ((p3 + p4) + 256 * ((p4 + p5) + 256 * ((p5 + p6) + 256 * ((p6 + p7) + 256 * p7)))) := by rw [e2]; exact dv2 (by omega) (by omega)
  have e4 : c = (p0 + p1 + (p2 + p3)) + 256 * ((p1 + p2 + (p3 + p4)) + 256 * ((p2 + p3 + (p4 + p5)) + 256 * ((p3 + p4 + (p5 + p6)) + 256 * ((p4 + p5 + (p6 + p7)) + 256 * ((p5 + p6 + p7) + 256 * ((p6 + p7) + 256 * p7)))))) := by rw [hc, e3, e2]; omega
  have e5 : c / 4294967296 = (p4 + p5 + (p6 + p7)) + 256 * ((p5 + p6 + p7) + 256 * ((p6 + p7) + 256 * p7)) := by rw [e4]; exact dv4 (by omega) (by omega) (by omega) (by omega)
  obtain ⟨z, hz⟩ : ∃ z, c = (p0 + p1 + (p2 + p3)) + 256 * z := ⟨_, e4⟩
  obtain ⟨w, hw⟩ : ∃ w, c / 4294967296 = (p4 + p5 + (p6 + p7)) + 256 * w := ⟨_, e5⟩
  rw [hd, hw, hz]
  omega
theorem bitCount_ok (x : Int64) : f_J13_bitCount_95d88 x = some (nI (cnt x)) := by
  have hx := uN_lt x
  obtain ⟨x1, e1⟩ : ∃ y, y = x - (((x.toUInt64 >>> ((1 : Int32).toInt64.toUInt64 &&& Int64.toUInt64 63)).toInt64) &&& (6148914691236517205 : Int64)) := ⟨_, rfl⟩
  obtain ⟨x2, e2⟩ : ∃ y, y = (x1 &&& (3689348814741910323 : Int64)) + (((x1.toUInt64 >>> ((2 : Int32).toInt64.toUInt64 &&& Int64.toUInt64 63)).toInt64) &&& (3689348814741910323 : Int64)) := ⟨_, rfl⟩
  obtain ⟨x3, e3⟩ : ∃ y, y = (x2 + ((x2.toUInt64 >>> ((4 : Int32).toInt64.toUInt64 &&& Int64.toUInt64 63)).toInt64)) &&& (1085102592571150095 : Int64) := ⟨_, rfl⟩
  obtain ⟨x4, e4⟩ : ∃ y, y = x3 + ((x3.toUInt64 >>> ((8 : Int32).toInt64.toUInt64 &&& Int64.toUInt64 63)).toInt64) := ⟨_, rfl⟩
  obtain ⟨x5, e5⟩ : ∃ y, y = x4 + ((x4.toUInt64 >>> ((16 : Int32).toInt64.toUInt64 &&& Int64.toUInt64 63)).toInt64) := ⟨_, rfl⟩
  obtain ⟨x6, e6⟩ : ∃ y, y = x5 + ((x5.toUInt64 >>> ((32 : Int32).toInt64.toUInt64 &&& Int64.toUInt64 63)).toInt64) := ⟨_, rfl⟩
  have hf : f_J13_bitCount_95d88 x = some (x6.toInt32 &&& (127 : Int32)) := by
    rw [e6, e5, e4, e3, e2, e1]
    rfl
  have sh : ∀ (y : Int64) (k : Nat), k < 64 → uN ((y.toUInt64 >>> ((nI k).toInt64.toUInt64 &&& Int64.toUInt64 63)).toInt64) = uN y / 2 ^ k := fun y k hk => uN_sk y hk
  have u1 : uN x1 = sq1 8 (uN x) := by
    rw [e1, uN_sub (by rw [uN_and, show (1 : Int32) = nI 1 from rfl, sh x 1 (by decide)]; exact Nat.le_trans (and_le' _ _) (by omega)), uN_and, show (1 : Int32) = nI 1 from rfl, sh x 1 (by decide)]
    rfl
  have hm3 : ∀ a : Nat, a &&& mk3 8 ≤ 3689348814741910323 := fun a => Nat.and_le_right
  have u2 : uN x2 = sq2 8 (uN x1) := by
    rw [e2, uN_add, uN_and, uN_and, show (2 : Int32) = nI 2 from rfl, sh x1 2 (by decide)]
    show ((uN x1 &&& mk3 8) + ((uN x1 / 4) &&& mk3 8)) % _ = _
    have h1 := hm3 (uN x1)
    have h2 := hm3 (uN x1 / 4)
    unfold sq2
    omega
  have hb2 : uN x2 ≤ 7378697629483820646 := by
    rw [u2]
    have h1 := hm3 (uN x1)
    have h2 := hm3 (uN x1 / 4)
    unfold sq2
    omega
  have u3 : uN x3 = w8 (uN x) := by
    rw [e3, uN_and, uN_add, show (4 : Int32) = nI 4 from rfl, sh x2 4 (by decide), Nat.mod_eq_of_lt (by omega), u2, u1]
    rfl
  obtain ⟨p0, p1, p2, p3, p4, p5, p6, p7, hp, hw, hc⟩ := w8_eq (uN x) hx
  rw [hw] at u3
  have u4 : uN x4 = (uN x3 + uN x3 / 256) := by
    rw [e4, uN_add, show (8 : Int32) = nI 8 from rfl, sh x3 8 (by decide), Nat.mod_eq_of_lt (by omega)]
  have u5 : uN x5 = (uN x4 + uN x4 / 65536) := by
    rw [e5, uN_add, show (16 : Int32) = nI 16 from rfl, sh x4 16 (by decide), Nat.mod_eq_of_lt (by omega)]
  have u6 : uN x6 = (uN x5 + uN x5 / 4294967296) := by
    rw [e6, uN_add, show (32 : Int32) = nI 32 from rfl, sh x5 32 (by decide), Nat.mod_eq_of_lt (by omega)]
  rw [hf, uN_toI32]
  congr 2
  show _ = cntN (uN x) 64
  rw [hc]
  exact bc_end hp u3 u4 u5 u6
