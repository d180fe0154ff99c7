theorem wb_tb (n : Nat) : (lN n).toBitVec = BitVec.ofNat 64 n := rfl
theorem wb_inj {a b : Int64} (h : a.toBitVec = b.toBitVec) : a = b := Int64.toBitVec_inj.mp h
theorem wb_tn {n : Nat} (h : n < 2 ^ 64) : (lN n).toBitVec.toNat = n := by rw [wb_tb, BitVec.toNat_ofNat, Nat.mod_eq_of_lt h]
theorem wb_of (x : Int64) : ∃ n, n < 2 ^ 64 ∧ x = lN n := ⟨x.toBitVec.toNat, x.toBitVec.isLt, wb_inj (by rw [wb_tb]; simp)⟩
theorem wb_of32 (x : Int32) : ∃ n, n < 2 ^ 32 ∧ x = nI n := ⟨x.toBitVec.toNat, x.toBitVec.isLt, Int32.toBitVec_inj.mp (by show _ = BitVec.ofNat 32 _; simp)⟩
theorem wb_c : ∀ k, k < 64 → ((nI k).toInt64 &&& 63) = lN k := by decide +kernel
theorem wb_cu : ∀ k, k < 64 → ((nI k).toInt64.toUInt64 &&& Int64.toUInt64 63) = UInt64.ofNat k := by decide +kernel
theorem wb_sm : ∀ k, k < 64 → (BitVec.ofNat 64 k).smod 64 = BitVec.ofNat 64 k := by decide +kernel
theorem wb_pw {a b : Nat} (h : a ≤ b) : 2 ^ b = 2 ^ a * 2 ^ (b - a) := by rw [← Nat.pow_add]; congr 1; omega
theorem wb_lt2 {a b : Nat} (h : a < b) : 2 ^ a < 2 ^ b := Nat.pow_lt_pow_right (by decide) h
theorem wb_mod (n : Nat) : lN n = lN (n % 2 ^ 64) := wb_inj (by rw [wb_tb, wb_tb]; apply BitVec.eq_of_toNat_eq; rw [BitVec.toNat_ofNat, BitVec.toNat_ofNat, Nat.mod_mod])
theorem wb_shr {n k : Nat} (hn : n < 2 ^ 64) (hk : k < 64) : ((lN n).toUInt64 >>> ((nI k).toInt64.toUInt64 &&& Int64.toUInt64 63)).toInt64 = lN (n / 2 ^ k) := by
  rw [wb_cu k hk]
  apply wb_inj
  apply BitVec.eq_of_toNat_eq
  show ((lN n).toUInt64 >>> UInt64.ofNat k).toNat = (BitVec.ofNat 64 _).toNat
  have h1 : (UInt64.ofNat k).toNat = k := by
    show (BitVec.ofNat 64 k).toNat = k
    rw [BitVec.toNat_ofNat, Nat.mod_eq_of_lt (by omega)]
  have h2 : (lN n).toUInt64.toNat = n := wb_tn hn
  rw [UInt64.toNat_shiftRight, h1, h2, Nat.mod_eq_of_lt hk, Nat.shiftRight_eq_div_pow, BitVec.toNat_ofNat, Nat.mod_eq_of_lt (Nat.lt_of_le_of_lt (Nat.div_le_self _ _) hn)]
theorem wb_shl (n : Nat) {k : Nat} (hk : k < 64) : lN n <<< ((nI k).toInt64 &&& 63) = lN (n * 2 ^ k) := by
  rw [wb_c k hk]
  apply wb_inj
  rw [Int64.toBitVec_shiftLeft, wb_tb, wb_tb, wb_tb, wb_sm k hk]
  apply BitVec.eq_of_toNat_eq
  rw [BitVec.shiftLeft_eq', BitVec.toNat_shiftLeft, BitVec.toNat_ofNat, BitVec.toNat_ofNat, BitVec.toNat_ofNat, Nat.mod_eq_of_lt (show k < 2 ^ 64 by omega), Nat.shiftLeft_eq, Nat.mul_mod, Nat.mod_mod, ← Nat.mul_mod]
theorem wb_and {a b : Nat} (ha : a < 2 ^ 64) (hb : b < 2 ^ 64) : lN a &&& lN b = lN (a &&& b) := by
  apply wb_inj
  rw [Int64.toBitVec_and, wb_tb, wb_tb, wb_tb]
  apply BitVec.eq_of_toNat_eq
  rw [BitVec.toNat_and, BitVec.toNat_ofNat, BitVec.toNat_ofNat, BitVec.toNat_ofNat, Nat.mod_eq_of_lt ha, Nat.mod_eq_of_lt hb, Nat.mod_eq_of_lt (Nat.and_lt_two_pow _ hb)]
theorem wb_or {a b : Nat} (ha : a < 2 ^ 64) (hb : b < 2 ^ 64) : lN a ||| lN b = lN (a ||| b) := by
  apply wb_inj
  rw [Int64.toBitVec_or, wb_tb, wb_tb, wb_tb]
  apply BitVec.eq_of_toNat_eq
  rw [BitVec.toNat_or, BitVec.toNat_ofNat, BitVec.toNat_ofNat, BitVec.toNat_ofNat, Nat.mod_eq_of_lt ha, Nat.mod_eq_of_lt hb, Nat.mod_eq_of_lt (Nat.or_lt_two_pow ha hb)]
theorem wb_mask {n k : Nat} (hn : n < 2 ^ 64) (hk : k < 64) : lN n &&& lN (2 ^ k - 1) = lN (n % 2 ^ k) := by
  rw [wb_and hn (by have := wb_lt2 hk; omega), Nat.and_two_pow_sub_one_eq_mod]
theorem wb_a1 {n : Nat} (hn : n < 2 ^ 64) : lN n &&& 1 = lN (n % 2) := wb_mask (k := 1) hn (by decide)
theorem wb_bit {n k : Nat} (hn : n < 2 ^ 64) (hk : k < 64) : ((lN n).toUInt64 >>> ((nI k).toInt64.toUInt64 &&& Int64.toUInt64 63)).toInt64 &&& 1 = lN (n / 2 ^ k % 2) := by
  rw [wb_shr hn hk, wb_a1 (Nat.lt_of_le_of_lt (Nat.div_le_self _ _) hn)]
theorem wb_xor {q k : Nat} (hk : k < 63) (h : 2 ^ k ≤ q) (h2 : q < 2 ^ (k + 1)) : lN q ^^^ lN (2 ^ k) = lN (q - 2 ^ k) := by
  obtain ⟨r, rfl⟩ : ∃ r, q = 2 ^ k + r := ⟨q - 2 ^ k, by omega⟩
  have hr : r < 2 ^ k := by rw [Nat.pow_succ] at h2; omega
  have hx : (2 ^ k + r) ^^^ 2 ^ k = r := by
    apply Nat.eq_of_testBit_eq
    intro i
    rw [Nat.testBit_xor, Nat.testBit_two_pow]
    rcases Nat.lt_trichotomy i k with h | h | h
    · rw [Nat.testBit_two_pow_add_gt h]
      simp [show ¬ k = i by omega]
    · subst h
      rw [Nat.testBit_two_pow_add_eq]
      simp
    · have a1 : 2 ^ (k + 1) ≤ 2 ^ i := Nat.pow_le_pow_right (by decide) h
      rw [Nat.testBit_lt_two_pow (show 2 ^ k + r < 2 ^ i by omega), Nat.testBit_lt_two_pow (show r < 2 ^ i by omega)]
      simp [show ¬ k = i by omega]
  have b1 := wb_lt2 (show k + 1 < 64 by omega)
  have b2 := wb_lt2 (show k < 64 by omega)
  apply wb_inj
  rw [Int64.toBitVec_xor, wb_tb, wb_tb, wb_tb]
  apply BitVec.eq_of_toNat_eq
  rw [BitVec.toNat_xor, BitVec.toNat_ofNat, BitVec.toNat_ofNat, BitVec.toNat_ofNat, Nat.mod_eq_of_lt (by omega : 2 ^ k + r < 2 ^ 64), Nat.mod_eq_of_lt b2, hx, Nat.add_sub_cancel_left, Nat.mod_eq_of_lt (by omega)]
def uN (x : Int64) : Nat := x.toUInt64.toNat
theorem uN_lt (x : Int64) : uN x < 18446744073709551616 := x.toUInt64.toNat_lt
theorem uN_inj {x y : Int64} (h : uN x = uN y) : x = y := congrArg UInt64.toInt64 (UInt64.toNat_inj.mp h)
theorem uN_add (x y : Int64) : uN (x + y) = (uN x + uN y) % 18446744073709551616 := by
  show (x.toUInt64 + y.toUInt64).toNat = _
  exact UInt64.toNat_add _ _
theorem uN_mul (x y : Int64) : uN (x * y) = (uN x * uN y) % 18446744073709551616 := by
  show (x.toUInt64 * y.toUInt64).toNat = _
  exact UInt64.toNat_mul _ _
theorem uN_shl (x : Int64) : uN (x <<< ((1 : Int32).toInt64 &&& 63)) = (2 * uN x) % 18446744073709551616 := by
  have h : (((1 : Int32).toInt64 &&& 63).toBitVec.smod 64).toNat = 1 := by decide
  show (x.toBitVec <<< (((1 : Int32).toInt64 &&& 63).toBitVec.smod 64).toNat).toNat = _
  rw [h, BitVec.toNat_shiftLeft, Nat.shiftLeft_eq, Nat.mul_comm]
  rfl
theorem uN_shr (x : Int64) (s : UInt64) : uN (x.toUInt64 >>> s).toInt64 = uN x / 2 ^ (s.toNat % 64) := by
  show (x.toUInt64 >>> s).toNat = _
  rw [UInt64.toNat_shiftRight, Nat.shiftRight_eq_div_pow]
  rfl
theorem uN_s32 (x : Int64) : uN (x.toUInt64 >>> ((32 : Int32).toInt64.toUInt64 &&& Int64.toUInt64 63)).toInt64 = uN x / 4294967296 := by
  have h : ((32 : Int32).toInt64.toUInt64 &&& Int64.toUInt64 63).toNat % 64 = 32 := by decide
  rw [uN_shr, h]
theorem uN_s63 (x : Int64) : uN (x.toUInt64 >>> ((63 : Int32).toInt64.toUInt64 &&& Int64.toUInt64 63)).toInt64 = uN x / 9223372036854775808 := by
  have h : ((63 : Int32).toInt64.toUInt64 &&& Int64.toUInt64 63).toNat % 64 = 63 := by decide
  rw [uN_shr, h]
theorem uN_lo (x : Int64) : uN (x &&& 4294967295) = uN x % 4294967296 := by
  show (x.toUInt64 &&& Int64.toUInt64 4294967295).toNat = _
  rw [UInt64.toNat_and]
  exact Nat.and_two_pow_sub_one_eq_mod _ 32
theorem uN_bit (x : Int64) : (x &&& 1) = 0 ↔ uN x % 2 = 0 := by
  have h : uN (x &&& 1) = uN x % 2 := by
    show (x.toUInt64 &&& Int64.toUInt64 1).toNat = _
    rw [UInt64.toNat_and]
    exact Nat.and_two_pow_sub_one_eq_mod _ 1
  rw [← h]
  exact ⟨fun z => by rw [z]; rfl, fun z => uN_inj (z.trans rfl)⟩
theorem uN_or {x y : Int64} (hy : uN y < 2) : uN ((x <<< ((1 : Int32).toInt64 &&& 63)) ||| y) = (2 * uN x) % 18446744073709551616 + uN y := by
  have h1 : uN ((x <<< ((1 : Int32).toInt64 &&& 63)) ||| y) = uN (x <<< ((1 : Int32).toInt64 &&& 63)) ||| uN y := UInt64.toNat_or _ _
  have h2 : (2 * uN x) % 18446744073709551616 = 2 ^ 1 * (uN x % 9223372036854775808) := by omega
  rw [h1, uN_shl, h2]
  exact (Nat.two_pow_add_eq_or_of_lt (i := 1) hy _).symm
theorem nat_xor {a : Nat} (h : a < 18446744073709551616) : a ^^^ 2 ^ 63 = (a + 9223372036854775808) % 18446744073709551616 := by
  have h1 : (a ^^^ 2 ^ 63) % 2 ^ 63 = a % 2 ^ 63 := by rw [Nat.xor_mod_two_pow, Nat.mod_self, Nat.xor_zero]
  have h2 : (a ^^^ 2 ^ 63) / 2 ^ 63 = (a / 2 ^ 63) ^^^ 1 := by rw [Nat.xor_div_two_pow, Nat.div_self (Nat.two_pow_pos 63)]
  have h3 : a / 2 ^ 63 = 0 ∨ a / 2 ^ 63 = 1 := by omega
  generalize a ^^^ 2 ^ 63 = t at h1 h2
  rcases h3 with h3 | h3
  · rw [h3] at h2
    have h2 : t / 2 ^ 63 = 1 := h2
    omega
  · rw [h3] at h2
    have h2 : t / 2 ^ 63 = 0 := h2
    omega
theorem uN_xor (x : Int64) : uN (x ^^^ (-9223372036854775808)) = (uN x + 9223372036854775808) % 18446744073709551616 := by
  rw [← nat_xor (uN_lt x)]
  exact UInt64.toNat_xor _ _
theorem uN_int (x : Int64) : x.toInt = if 2 * uN x < 18446744073709551616 then (uN x : Int) else (uN x : Int) - 18446744073709551616 := BitVec.toInt_eq_toNat_cond _
theorem uN_le (x y : Int64) : (x ^^^ (-9223372036854775808)) ≤ (y ^^^ (-9223372036854775808)) ↔ uN x ≤ uN y := by
  have hx := uN_lt x
  have hy := uN_lt y
  rw [Int64.le_iff_toInt_le, uN_int, uN_int, uN_xor, uN_xor]
  omega
theorem uN_sk (x : Int64) {k : Nat} (hk : k < 64) : uN (x.toUInt64 >>> ((nI k).toInt64.toUInt64 &&& Int64.toUInt64 63)).toInt64 = uN x / 2 ^ k := by
  have h : ((nI k).toInt64.toUInt64 &&& Int64.toUInt64 63).toNat % 64 = k := by
    rw [nI_l (by omega), UInt64.toNat_and]
    have e : (lN k).toUInt64.toNat = k % 2 ^ 64 := rfl
    have e2 : (Int64.toUInt64 63).toNat = 2 ^ 6 - 1 := by decide
    rw [e, e2, Nat.and_two_pow_sub_one_eq_mod]
    omega
  rw [uN_shr, h]
/-! sets of cells: the bits of a long -/
def B (x : Int64) (c : Nat) : Bool := (uN x).testBit c
theorem B_and (x y : Int64) (c : Nat) : B (x &&& y) c = (B x c && B y c) := by
  unfold B
  rw [show uN (x &&& y) = uN x &&& uN y from UInt64.toNat_and _ _, Nat.testBit_and]
theorem B_or (x y : Int64) (c : Nat) : B (x ||| y) c = (B x c || B y c) := by
  unfold B
  rw [show uN (x ||| y) = uN x ||| uN y from UInt64.toNat_or _ _, Nat.testBit_or]
theorem B_xor (x y : Int64) (c : Nat) : B (x ^^^ y) c = (B x c ^^ B y c) := by
  unfold B
  rw [show uN (x ^^^ y) = uN x ^^^ uN y from UInt64.toNat_xor _ _, Nat.testBit_xor]
theorem B_big {x : Int64} {c : Nat} (h : 64 ≤ c) : B x c = false := by
  unfold B
  exact Nat.testBit_lt_two_pow (Nat.lt_of_lt_of_le (uN_lt x) (show 2 ^ 64 ≤ 2 ^ c from Nat.pow_le_pow_right (by decide) h))
theorem B_ext {x y : Int64} (h : ∀ c, c < 64 → B x c = B y c) : x = y := by
  apply uN_inj
  apply Nat.eq_of_testBit_eq
  intro c
  by_cases hc : c < 64
  · exact h c hc
  · have h1 : B x c = false := B_big (by omega)
    have h2 : B y c = false := B_big (by omega)
    exact h1.trans h2.symm
theorem B_0 (c : Nat) : B 0 c = false := by
  unfold B
  rw [show uN 0 = 0 from rfl, Nat.zero_testBit]
theorem B_zero {x : Int64} : x = 0 ↔ ∀ c, c < 64 → B x c = false := by
  constructor
  · intro h c _; rw [h]; exact B_0 c
  · intro h; exact B_ext (fun c hc => by rw [h c hc, B_0])
theorem B_shr (x : Int64) {k : Nat} (hk : k < 64) (c : Nat) : B ((x.toUInt64 >>> ((nI k).toInt64.toUInt64 &&& Int64.toUInt64 63)).toInt64) c = B x (c + k) := by
  unfold B
  rw [uN_sk x hk, Nat.testBit_div_two_pow]
theorem uN_shlk (x : Int64) {k : Nat} (hk : k < 64) : uN (x <<< ((nI k).toInt64 &&& 63)) = (uN x * 2 ^ k) % 2 ^ 64 := by
  obtain ⟨n, hn, rfl⟩ := wb_of x
  rw [wb_shl n hk]
  have h1 : ∀ m, uN (lN m) = m % 2 ^ 64 := fun m => rfl
  rw [h1, h1, Nat.mod_eq_of_lt hn]
theorem B_shl (x : Int64) {k : Nat} (hk : k < 64) (c : Nat) : B (x <<< ((nI k).toInt64 &&& 63)) c = (decide (c < 64) && (decide (k ≤ c) && B x (c - k))) := by
  unfold B
  rw [uN_shlk x hk, Nat.testBit_mod_two_pow, Nat.mul_comm, Nat.testBit_two_pow_mul]
theorem B_one {k : Nat} (hk : k < 64) (c : Nat) : B ((1 : Int64) <<< ((nI k).toInt64 &&& 63)) c = decide (c = k) := by
  rw [B_shl _ hk]
  have h1 : ∀ j, B 1 j = decide (j = 0) := fun j => by
    unfold B
    rw [show uN 1 = 1 from rfl]
    cases j with
    | zero => rfl
    | succ j => rw [Nat.testBit_succ]; simp
  rw [h1]
  by_cases h : c = k
  · subst h; simp [hk]
  · by_cases h2 : k ≤ c
    · have : ¬ (c - k = 0) := by omega
      simp [h, h2, this]
    · simp [h, h2]
theorem B_m1 {c : Nat} (hc : c < 64) : B (-1) c = true := by
  unfold B
  rw [show uN (-1) = 2 ^ 64 - 1 from rfl, Nat.testBit_two_pow_sub_one]
  simp [hc]
theorem B_not (x : Int64) {c : Nat} (hc : c < 64) : B (x ^^^ (-1)) c = !B x c := by
  rw [B_xor, B_m1 hc, Bool.xor_true]
/-- the lowest bit -/
theorem B_low {x : Int64} (h : x ≠ 0) : ∃ k, k < 64 ∧ B x k = true ∧ ∀ j, j < k → B x j = false := by
  obtain ⟨k, ⟨h1, h2⟩, h3⟩ := pk_least (fun k => k < 64 ∧ B x k = true) (by
    refine Classical.byContradiction fun hn => h (B_zero.mpr fun c hc => ?_)
    cases hb : B x c with
    | false => rfl
    | true => exact absurd ⟨c, hc, hb⟩ hn)
  refine ⟨k, h1, h2, fun j hj => ?_⟩
  cases hb : B x j with
  | false => rfl
  | true => exact absurd ⟨by omega, hb⟩ (h3 j hj)
/-- n less one: the lowest bit goes, those below it come -/
theorem n_sub1 {n k : Nat} (hk : n.testBit k = true) (hl : ∀ j, j < k → n.testBit j = false) (c : Nat) : (n - 1).testBit c = if c < k then true else if c = k then false else n.testBit c := by
  have e1 : n % 2 ^ k = 0 := by
    apply Nat.eq_of_testBit_eq
    intro j
    rw [Nat.testBit_mod_two_pow, Nat.zero_testBit]
    by_cases hj : j < k
    · simp [hl j hj]
    · simp [hj]
  have e2 : (n / 2 ^ k) % 2 = 1 := by
    have := hk
    rw [show k = 0 + k by omega, ← Nat.testBit_div_two_pow, Nat.testBit_zero] at this
    simpa using this
  obtain ⟨q, hq⟩ : ∃ q, n / 2 ^ k = 2 * q + 1 := ⟨n / 2 ^ k / 2, by omega⟩
  have e3 : n = 2 ^ k * (2 * q + 1) := by
    have := Nat.div_add_mod n (2 ^ k)
    rw [e1, hq] at this
    omega
  have hp : 0 < 2 ^ k := Nat.two_pow_pos k
  have e4 : n - 1 = 2 ^ k * (2 * q) + (2 ^ k - 1) := by
    rw [e3, Nat.mul_add, Nat.mul_one]
    omega
  rw [e4, Nat.testBit_two_pow_mul_add _ (by omega)]
  by_cases h1 : c < k
  · rw [if_pos h1, if_pos h1, Nat.testBit_two_pow_sub_one]
    simp [h1]
  · rw [if_neg h1, if_neg h1]
    by_cases h2 : c = k
    · subst h2
      rw [if_pos rfl, Nat.sub_self, Nat.testBit_zero]
      simp
    · rw [if_neg h2]
      obtain ⟨t, ht⟩ : ∃ t, c - k = t + 1 := ⟨c - k - 1, by omega⟩
      have e5 : n.testBit c = (2 * q + 1).testBit (t + 1) := by
        rw [← hq, ← ht, Nat.testBit_div_two_pow]
        congr 1
        omega
      rw [e5, ht, Nat.testBit_succ, Nat.testBit_succ]
      congr 1
      omega
theorem B_sub1 {x : Int64} {k : Nat} (hk : B x k = true) (hl : ∀ j, j < k → B x j = false) {c : Nat} (hc : c < 64) : B (x - 1) c = if c < k then true else if c = k then false else B x c := by
  have hn := n_sub1 (n := uN x) hk hl c
  have h0 : 0 < uN x := by
    rcases Nat.eq_zero_or_pos (uN x) with h | h
    · unfold B at hk; rw [h, Nat.zero_testBit] at hk; cases hk
    · exact h
  have e : uN (x - 1) = uN x - 1 := by
    show (x.toUInt64 - (1 : Int64).toUInt64).toNat = _
    rw [UInt64.toNat_sub]
    have h1 : ((1 : Int64).toUInt64).toNat = 1 := rfl
    have h2 := uN_lt x
    unfold uN at h0 h2 ⊢
    rw [h1]
    omega
  unfold B
  rw [e]
  exact hn
theorem B_neg (x : Int64) {c : Nat} (hc : c < 64) : B (-x) c = !B (x - 1) c := by
  have e : -x = (x - 1) ^^^ (-1) := by
    apply Int64.toBitVec_inj.mp
    show -x.toBitVec = (x.toBitVec - 1#64) ^^^ (-1#64)
    rw [show (-1#64) = BitVec.allOnes 64 from rfl, BitVec.xor_allOnes]
    apply BitVec.eq_of_toNat_eq
    rw [BitVec.toNat_neg, BitVec.toNat_not, BitVec.toNat_sub]
    have := x.toBitVec.isLt
    have e1 : (1#64).toNat = 1 := rfl
    rw [e1]
    omega
  rw [e, B_not _ hc]
/-- the lowest bit alone -/
theorem B_iso {x : Int64} {k : Nat} (hk64 : k < 64) (hk : B x k = true) (hl : ∀ j, j < k → B x j = false) : x &&& (-x) = (1 : Int64) <<< ((nI k).toInt64 &&& 63) := by
  apply B_ext
  intro c hc
  rw [B_and, B_neg x hc, B_sub1 hk hl hc, B_one hk64]
  by_cases h1 : c < k
  · have : ¬ c = k := by omega
    simp [h1, this]
  · by_cases h2 : c = k
    · subst h2; simp [hk]
    · simp [h1, h2]
/-- the lowest bit goes -/
theorem B_drop {x : Int64} {k : Nat} (hk : B x k = true) (hl : ∀ j, j < k → B x j = false) {c : Nat} (hc : c < 64) : B (x &&& (x - 1)) c = (B x c && !decide (c = k)) := by
  rw [B_and, B_sub1 hk hl hc]
  by_cases h1 : c < k
  · simp [h1, hl c h1]
  · by_cases h2 : c = k
    · subst h2; simp
    · simp [h1, h2]
theorem bc_pow : ∀ k, k < 64 → f_J13_bitCount_95d88 ((1 : Int64) <<< ((nI k).toInt64 &&& 63) - 1) = some (nI k) := by decide +kernel
theorem lowest_ok {x : Int64} {k : Nat} (hk64 : k < 64) (hk : B x k = true) (hl : ∀ j, j < k → B x j = false) : f_X0_lowest x = some (nI k) := by
  unfold f_X0_lowest
  rw [B_iso hk64 hk hl, bc_pow k hk64]
  rfl
