/-! integers in Int32; sets shifted by an integer -/
def iI (x : Int) : Int32 := Int32.ofInt x
theorem iI_v {x : Int} (h1 : -2147483648 ≤ x) (h2 : x < 2147483648) : (iI x).toInt = x := Int32.toInt_ofInt_of_le h1 h2
theorem iI_add (x y : Int) : iI x + iI y = iI (x + y) := (Int32.ofInt_add x y).symm
theorem iI_sub (x y : Int) : iI x - iI y = iI (x - y) := (Int32.ofInt_sub x y).symm
theorem iI_neg (x : Int) : - iI x = iI (-x) := (Int32.ofInt_neg x).symm
theorem iI_mul (x y : Int) : iI x * iI y = iI (x * y) := (Int32.ofInt_mul x y).symm
theorem iI_n (n : Nat) : nI n = iI (n : Int) := by
  unfold nI iI
  first
    | rfl
    | exact (Int32.ofInt_natCast n).symm
    | simp
theorem iI_lt {x y : Int} (h1 : -2147483648 ≤ x) (h2 : x < 2147483648) (h3 : -2147483648 ≤ y) (h4 : y < 2147483648) : (iI x < iI y) = (x < y) := by
  apply propext
  rw [Int32.lt_iff_toInt_lt, iI_v h1 h2, iI_v h3 h4]
theorem iI_le {x y : Int} (h1 : -2147483648 ≤ x) (h2 : x < 2147483648) (h3 : -2147483648 ≤ y) (h4 : y < 2147483648) : (iI x ≤ iI y) = (x ≤ y) := by
  apply propext
  rw [Int32.le_iff_toInt_le, iI_v h1 h2, iI_v h3 h4]
theorem iI_eq {x y : Int} (h1 : -2147483648 ≤ x) (h2 : x < 2147483648) (h3 : -2147483648 ≤ y) (h4 : y < 2147483648) : (iI x = iI y) = (x = y) := by
  apply propext
  constructor
  · intro h
    have := congrArg Int32.toInt h
    rwa [iI_v h1 h2, iI_v h3 h4] at this
  · intro h; rw [h]
/-- a cell out of its coordinates -/
def cel3 (f : Nat → Nat) : Nat := f 0 + 4 * f 1 + 16 * f 2
theorem lt3 {b : Nat} (h : b < 3) : b = 0 ∨ b = 1 ∨ b = 2 := by omega
theorem cel3_ok {f : Nat → Nat} (h : ∀ b, b < 3 → f b < 4) : cel3 f < 64 ∧ ∀ b, b < 3 → co b (cel3 f) = f b := by
  have h0 := h 0 (by decide)
  have h1 := h 1 (by decide)
  have h2 := h 2 (by decide)
  obtain ⟨e0, e1, e2⟩ := co_of h0 h1 h2
  refine ⟨by unfold cel3; omega, fun b hb => ?_⟩
  rcases lt3 hb with rfl | rfl | rfl
  · exact e0
  · exact e1
  · exact e2
theorem co_ext' {c d : Nat} (hc : c < 64) (hd : d < 64) (h : ∀ b, b < 3 → co b c = co b d) : c = d := co_ext hc hd (h 0 (by decide)) (h 1 (by decide)) (h 2 (by decide))
theorem shf_ok (x : Int64) {a : Nat} (ha : a < 3) {g : Int} (h1 : -100000 ≤ g) (h2 : g ≤ 100000) : Ok (f_X0_shifted x (nI a) (iI g)) (fun v => ∀ d, d < 64 → (B v d = true ↔ ∃ c, B x c = true ∧ (co a c : Int) + g = co a d ∧ ∀ b, b < 3 → b ≠ a → co b c = co b d)) := by
  by_cases hu : 0 ≤ g ∧ g < 4
  · obtain ⟨k, rfl⟩ : ∃ k : Nat, g = k := ⟨g.toNat, by omega⟩
    have hk : k < 4 := by omega
    rw [← iI_n, shiftedU_ok x ha hk]
    refine Ok.some (fun d hd => ?_)
    rw [sUp_B x ha hk hd, Bool.and_eq_true, decide_eq_true_eq]
    constructor
    · rintro ⟨q1, q2⟩
      obtain ⟨e1, e2⟩ := co_dn a ha k hk d hd q1
      exact ⟨_, q2, by omega, fun b hb hn => co_od ha hb hk hd (fun z => hn z.symm) q1⟩
    · rintro ⟨c, q1, q2, q3⟩
      have hc := B_lt q1
      have q4 : k ≤ co a d := by omega
      obtain ⟨e1, e2⟩ := co_dn a ha k hk d hd q4
      refine ⟨q4, ?_⟩
      have : c = d - k * 4 ^ a := by
        apply co_ext' hc (by omega)
        intro b hb
        by_cases z : b = a
        · subst z; omega
        · rw [co_od ha hb hk hd (fun y => z y.symm) q4]
          exact q3 b hb z
      rw [← this]
      exact q1
  · by_cases hd : -4 < g ∧ g < 0
    · obtain ⟨k, rfl⟩ : ∃ k : Nat, g = -(k : Int) := ⟨(-g).toNat, by omega⟩
      have hk : k < 4 := by omega
      rw [← iI_neg, ← iI_n, shiftedD_ok x ha (by omega) hk]
      refine Ok.some (fun d hd => ?_)
      rw [sDn_B x ha hk hd, Bool.and_eq_true, decide_eq_true_eq]
      constructor
      · rintro ⟨q1, q2⟩
        obtain ⟨e1, e2⟩ := co_up a ha k hk d hd q1
        exact ⟨_, q2, by omega, fun b hb hn => co_ou ha hb hk hd (fun z => hn z.symm) q1⟩
      · rintro ⟨c, q1, q2, q3⟩
        have hc := B_lt q1
        have q4 : co a d + k ≤ 3 := by
          have := co_lt a c
          omega
        obtain ⟨e1, e2⟩ := co_up a ha k hk d hd q4
        refine ⟨q4, ?_⟩
        have : c = d + k * 4 ^ a := by
          apply co_ext' hc e2
          intro b hb
          by_cases z : b = a
          · subst z; omega
          · rw [co_ou ha hb hk hd (fun y => z y.symm) q4]
            exact q3 b hb z
        rw [← this]
        exact q1
    · have h4 : iI g ≤ (-4 : Int32) ∨ (4 : Int32) ≤ iI g := by
        by_cases z : g ≤ -4
        · left
          rw [show (-4 : Int32) = iI (-4) from rfl, iI_le (by omega) (by omega) (by omega) (by omega)]
          exact z
        · right
          rw [show (4 : Int32) = iI 4 from rfl, iI_le (by omega) (by omega) (by omega) (by omega)]
          omega
      rw [shiftedO_ok x _ h4]
      refine Ok.some (fun d hd => ?_)
      rw [B_0]
      constructor
      · intro z; cases z
      · rintro ⟨c, _, q2, _⟩
        have := co_lt a c
        have := co_lt a d
        omega
/-- do two sets meet, the first being ahead by so much -/
def PH (x y : Int64) (g : Nat → Int) : Prop := ∃ c d, B x c = true ∧ B y d = true ∧ ∀ b, b < 3 → (co b c : Int) + g b = co b d
theorem PH.sym {x y : Int64} {g g' : Nat → Int} (h : PH x y g) (hg : ∀ b, b < 3 → g' b = - g b) : PH y x g' := by
  obtain ⟨c, d, h1, h2, h3⟩ := h
  exact ⟨d, c, h2, h1, fun b hb => by rw [hg b hb]; have := h3 b hb; omega⟩
theorem PH.congr {x y : Int64} {g g' : Nat → Int} (h : PH x y g) (hg : ∀ b, b < 3 → g' b = g b) : PH x y g' := by
  obtain ⟨c, d, h1, h2, h3⟩ := h
  exact ⟨c, d, h1, h2, fun b hb => by rw [hg b hb]; exact h3 b hb⟩
theorem PH.near {x y : Int64} {g : Nat → Int} (h : PH x y g) {b : Nat} (hb : b < 3) : -3 ≤ g b ∧ g b ≤ 3 := by
  obtain ⟨c, d, h1, h2, h3⟩ := h
  have := h3 b hb
  have := co_lt b c
  have := co_lt b d
  omega
def gk (g : Nat → Int) (ax : Nat) (sg : Int) (k : Nat) : Nat → Int := fun b => if b = ax then g b + sg * k else g b
/-- how far a set can go until it meets another -/
def PR (x y : Int64) (g : Nat → Int) (ax : Nat) (sg : Int) (m : Nat) : Prop := m ≤ 500 ∧ (∀ k, 1 ≤ k → k ≤ m → ¬ PH x y (gk g ax sg k)) ∧ (m = 500 ∨ PH x y (gk g ax sg (m + 1)))
