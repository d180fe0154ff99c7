/-! a walk that ends well: the functions' own Hoare rows -/
def Ok {R : Type} (o : Option R) (Q : R → Prop) : Prop := ∃ r, o = some r ∧ Q r
theorem Ok.some {R : Type} {r : R} {Q : R → Prop} (h : Q r) : Ok (some r) Q := ⟨r, rfl, h⟩
theorem Ok.bind {R S : Type} {o : Option R} {k : R → Option S} {P : R → Prop} {Q : S → Prop} (h : Ok o P) (hk : ∀ r, P r → Ok (k r) Q) : Ok (o.bind k) Q := by
  obtain ⟨r, e, hp⟩ := h
  rw [e]
  exact hk r hp
theorem Ok.bindE {R S : Type} {o : Option R} {k : R → Option S} {r : R} {Q : S → Prop} (h : o = .some r) (hk : Ok (k r) Q) : Ok (o.bind k) Q := by
  rw [h]
  exact hk
theorem Ok.mono {R : Type} {o : Option R} {P Q : R → Prop} (h : Ok o P) (hk : ∀ r, P r → Q r) : Ok o Q := by
  obtain ⟨r, e, hp⟩ := h
  exact ⟨r, e, hk r hp⟩
theorem Ok.eq {R : Type} {o : Option R} {r : R} (h : Ok o (fun x => x = r)) : o = .some r := by
  obtain ⟨q, e, hp⟩ := h
  rw [e, hp]
theorem Ok.of {R : Type} {o : Option R} {r : R} (h : o = .some r) : Ok o (fun x => x = r) := ⟨r, h, rfl⟩
theorem Ok.pos {R : Type} {c : Prop} [Decidable c] {A B : Option R} {Q : R → Prop} (h : c) (hA : Ok A Q) : Ok (if c then A else B) Q := by
  rw [if_pos h]; exact hA
theorem Ok.neg {R : Type} {c : Prop} [Decidable c] {A B : Option R} {Q : R → Prop} (h : ¬ c) (hB : Ok B Q) : Ok (if c then A else B) Q := by
  rw [if_neg h]; exact hB
theorem Ok.ite {R : Type} {c : Prop} [Decidable c] {A B : Option R} {Q : R → Prop} (hA : c → Ok A Q) (hB : ¬ c → Ok B Q) : Ok (if c then A else B) Q := by
  by_cases h : c
  · exact Ok.pos h (hA h)
  · exact Ok.neg h (hB h)
theorem Ok.sumB {A B C : Type} {o : Option (A ⊕ B)} {f : A → C} {k : B → Option C} {Q : C → Prop} (h : Ok o (fun s => match s with | .inl a => Q (f a) | .inr b => Ok (k b) Q)) : Ok (sumB o f k) Q := by
  obtain ⟨r, e, hp⟩ := h
  rw [e]
  cases r with
  | inl a => exact ⟨_, rfl, hp⟩
  | inr b => exact hp
/-- a loop with a measure; the fuel for what it calls is K at the least -/
theorem Ok.loop {S R : Type} (f : Nat → S → Option R) (K : Nat) (I : Nat → S → Prop) (Q : R → Prop) (h : ∀ k fu s, K ≤ fu → I k s → (∀ k' s', k' < k → I k' s' → Ok (f fu s') Q) → Ok (f (fu + 1) s) Q) : ∀ k fu s, K + k < fu → I k s → Ok (f fu s) Q := by
  intro k
  induction k using Nat.strongRecOn with
  | ind k ih =>
    intro fu s hf hI
    obtain ⟨n, rfl⟩ : ∃ n, fu = n + 1 := ⟨fu - 1, by omega⟩
    exact h k n s (by omega) hI (fun k' s' hk hI' => ih k' hk n s' (by omega) hI')
theorem ite_mono {R : Type} {c : Prop} [Decidable c] {A B A' B' : Option R} {r : R} (h1 : c → A = some r → A' = some r) (h2 : ¬ c → B = some r → B' = some r) : (if c then A else B) = some r → (if c then A' else B') = some r := by
  by_cases h : c
  · rw [if_pos h, if_pos h]; exact h1 h
  · rw [if_neg h, if_neg h]; exact h2 h
theorem lit32 (n : Nat) : (@OfNat.ofNat Int32 n Int32.instOfNat) = nI (@OfNat.ofNat Nat n (instOfNatNat n)) := rfl
theorem inB_n {i z : Nat} (h : i < z) (hz : z < 2147483648) : inB (nI i) z = true := decide_eq_true (nI_in h hz)
theorem inB_t {i z : Nat} (h : i < z) (hz : z < 2147483648) : (inB (nI i) z = true) = True := eq_true (inB_n h hz)
theorem cl_n {n : Nat} (h : n < 2147483648) : (nI n).toNatClampNeg = n := nI_clamp h
theorem le_n {a b : Nat} (ha : a < 2147483648) (hb : b < 2147483648) : (nI a ≤ nI b) = (a ≤ b) := propext (nI_leI ha hb)
theorem lt_n {a b : Nat} (ha : a < 2147483648) (hb : b < 2147483648) : (nI a < nI b) = (a < b) := propext (nI_ltI ha hb)
theorem eq_n {a b : Nat} (ha : a < 2147483648) (hb : b < 2147483648) : (nI a = nI b) = (a = b) := propext (nI_eq ha hb)
theorem dv_n {a d : Nat} (ha : a < 2147483648) (h0 : 0 < d) (hd : d < 2147483648) : nI a / nI d = nI (a / d) := pk_div ha h0 hd
theorem sb_n {a b : Nat} (h : b ≤ a) : nI a - nI b = nI (a - b) := pk_sub h
theorem m1_n {n : Nat} (h : 0 < n) : nI n + (-1) = nI (n - 1) := by
  obtain ⟨m, rfl⟩ : ∃ m, n = m + 1 := ⟨n - 1, by omega⟩
  exact pk_m1 m
theorem bOk_0 : bOk 0 = true := by decide +kernel
theorem bOk_1 : bOk 1 = true := by decide +kernel
theorem bOk_if {c : Prop} [Decidable c] : bOk (if c then (1 : Int32) else 0) = true := by
  split
  · exact bOk_1
  · exact bOk_0
theorem bOk_if' {c : Prop} [Decidable c] : bOk (if c then (0 : Int32) else 1) = true := by
  split
  · exact bOk_0
  · exact bOk_1
/-- a truth as a number -/
def bI (b : Bool) : Int32 := if b then 1 else 0
theorem bI_0 {b : Bool} : bI b = 0 ↔ b = false := by cases b <;> decide +kernel
theorem bI_n0 {b : Bool} : ¬ bI b = 0 ↔ b = true := by cases b <;> decide +kernel
theorem bI_1 {b : Bool} : bI b = 1 ↔ b = true := by cases b <;> decide +kernel
theorem bI_ok (b : Bool) : bOk (bI b) = true := by cases b <;> decide +kernel
theorem bI_inj {a b : Bool} : bI a = bI b ↔ a = b := by cases a <;> cases b <;> decide +kernel
theorem vu_s {α : Type} {f : Nat → α} {k : Nat} {v : α} : va_up f k v k = v := if_pos rfl
theorem vu_n {α : Type} {f : Nat → α} {k j : Nat} {v : α} (h : j ≠ k) : va_up f k v j = f j := if_neg h
/-- a cell's coordinate on an axis -/
def co (a c : Nat) : Nat := c / 4 ^ a % 4
theorem co_lt (a c : Nat) : co a c < 4 := Nat.mod_lt _ (by decide)
theorem cv_0 (c : Nat) : co 0 c = c % 4 := by simp [co]
theorem cv_1 (c : Nat) : co 1 c = c / 4 % 4 := by simp [co]
theorem cv_2 {c : Nat} (h : c < 64) : co 2 c = c / 16 := by
  show c / 16 % 4 = _
  omega
theorem co_sum {c : Nat} (h : c < 64) : co 0 c + 4 * co 1 c + 16 * co 2 c = c := by
  rw [cv_0, cv_1, cv_2 h]
  omega
theorem co_of {x y z : Nat} (hx : x < 4) (hy : y < 4) (hz : z < 4) : co 0 (x + 4 * y + 16 * z) = x ∧ co 1 (x + 4 * y + 16 * z) = y ∧ co 2 (x + 4 * y + 16 * z) = z := by
  rw [cv_0, cv_1, cv_2 (by omega)]
  omega
theorem co_ext {c d : Nat} (hc : c < 64) (hd : d < 64) (h0 : co 0 c = co 0 d) (h1 : co 1 c = co 1 d) (h2 : co 2 c = co 2 d) : c = d := by
  rw [← co_sum hc, ← co_sum hd, h0, h1, h2]
theorem zS_ok : ∀ a, a < 3 → z_STRIDE a = nI (4 ^ a) := by decide +kernel
theorem floor_ok : ∀ a, a < 3 → ∀ k, k < 4 → ∀ c, c < 64 → B (z_FLOOR a <<< ((nI (k * 4 ^ a)).toInt64 &&& 63)) c = decide (co a c = k) := by decide +kernel
theorem B_ne {x : Int64} : x ≠ 0 ↔ ∃ c, c < 64 ∧ B x c = true := by
  constructor
  · intro h
    obtain ⟨k, h1, h2, _⟩ := B_low h
    exact ⟨k, h1, h2⟩
  · rintro ⟨c, hc, h⟩ e
    rw [e, B_0] at h
    cases h
theorem B_lt {x : Int64} {c : Nat} (h : B x c = true) : c < 64 := by
  by_cases hc : c < 64
  · exact hc
  · rw [B_big (by omega)] at h; cases h
/-- has a set a cell at a coordinate -/
def hasAt (x : Int64) (a k : Nat) : Bool := (List.range 64).any (fun c => B x c && decide (co a c = k))
theorem hasAt_t {x : Int64} {a k : Nat} : hasAt x a k = true ↔ ∃ c, B x c = true ∧ co a c = k := by
  unfold hasAt
  rw [List.any_eq_true]
  constructor
  · rintro ⟨c, _, h⟩
    rw [Bool.and_eq_true, decide_eq_true_eq] at h
    exact ⟨c, h⟩
  · rintro ⟨c, h1, h2⟩
    exact ⟨c, List.mem_range.2 (B_lt h1), by rw [h1, h2]; simp⟩
theorem hasAt_f {x : Int64} {a k : Nat} : hasAt x a k = false ↔ ∀ c, B x c = true → co a c ≠ k := by
  rw [← Bool.not_eq_true, hasAt_t]
  constructor
  · intro h c h1 h2; exact h ⟨c, h1, h2⟩
  · rintro h ⟨c, h1, h2⟩; exact h c h1 h2
theorem floor_z {x : Int64} {a k : Nat} (ha : a < 3) (hk : k < 4) : (x &&& (z_FLOOR a <<< ((nI (k * 4 ^ a)).toInt64 &&& 63))) = 0 ↔ hasAt x a k = false := by
  rw [B_zero, hasAt_f]
  constructor
  · intro h c h1 h2
    have := h c (B_lt h1)
    rw [B_and, floor_ok a ha k hk c (B_lt h1), h1, h2] at this
    simp at this
  · intro h c hc
    rw [B_and, floor_ok a ha k hk c hc]
    cases h1 : B x c with
    | false => rfl
    | true => simp [h c h1]
def lo (x : Int64) (a : Nat) : Nat := if hasAt x a 0 then 0 else if hasAt x a 1 then 1 else if hasAt x a 2 then 2 else 3
def hi (x : Int64) (a : Nat) : Nat := if hasAt x a 3 then 3 else if hasAt x a 2 then 2 else if hasAt x a 1 then 1 else 0
theorem lo_lt (x : Int64) (a : Nat) : lo x a < 4 := by unfold lo; split <;> (try split) <;> (try split) <;> omega
theorem hi_lt (x : Int64) (a : Nat) : hi x a < 4 := by unfold hi; split <;> (try split) <;> (try split) <;> omega
theorem lo_le {x : Int64} {a c : Nat} (h : B x c = true) : lo x a ≤ co a c := by
  have h1 : hasAt x a (co a c) = true := hasAt_t.2 ⟨c, h, rfl⟩
  have h2 := co_lt a c
  generalize hk : co a c = k at h1 h2 ⊢
  unfold lo
  match k, h2 with
  | 0, _ => simp [h1]
  | 1, _ => simp [h1]; split <;> omega
  | 2, _ => simp [h1]; split <;> (try split) <;> omega
  | 3, _ => split <;> (try split) <;> (try split) <;> omega
theorem hi_ge {x : Int64} {a c : Nat} (h : B x c = true) : co a c ≤ hi x a := by
  have h1 : hasAt x a (co a c) = true := hasAt_t.2 ⟨c, h, rfl⟩
  have h2 := co_lt a c
  generalize hk : co a c = k at h1 h2 ⊢
  unfold hi
  match k, h2 with
  | 0, _ => omega
  | 1, _ => simp [h1]; split <;> (try split) <;> omega
  | 2, _ => simp [h1]; split <;> omega
  | 3, _ => simp [h1]
theorem lo_at {x : Int64} (a : Nat) (h : x ≠ 0) : ∃ c, c < 64 ∧ B x c = true ∧ co a c = lo x a := by
  have key : hasAt x a (lo x a) = true := by
    obtain ⟨c, _, h1⟩ := B_ne.1 h
    have h2 : hasAt x a (co a c) = true := hasAt_t.2 ⟨c, h1, rfl⟩
    have h3 := co_lt a c
    generalize hk : co a c = k at h2 h3
    unfold lo
    by_cases q0 : hasAt x a 0 = true
    · simp [q0]
    · by_cases q1 : hasAt x a 1 = true
      · simp [q0, q1]
      · by_cases q2 : hasAt x a 2 = true
        · simp [q0, q1, q2]
        · match k, h3 with
          | 0, _ => exact absurd h2 q0
          | 1, _ => exact absurd h2 q1
          | 2, _ => exact absurd h2 q2
          | 3, _ => simp [q0, q1, q2, h2]
  obtain ⟨c, h1, h2⟩ := hasAt_t.1 key
  exact ⟨c, B_lt h1, h1, h2⟩
theorem hi_at {x : Int64} (a : Nat) (h : x ≠ 0) : ∃ c, c < 64 ∧ B x c = true ∧ co a c = hi x a := by
  have key : hasAt x a (hi x a) = true := by
    obtain ⟨c, _, h1⟩ := B_ne.1 h
    have h2 : hasAt x a (co a c) = true := hasAt_t.2 ⟨c, h1, rfl⟩
    have h3 := co_lt a c
    generalize hk : co a c = k at h2 h3
    unfold hi
    by_cases q0 : hasAt x a 3 = true
    · simp [q0]
    · by_cases q1 : hasAt x a 2 = true
      · simp [q0, q1]
      · by_cases q2 : hasAt x a 1 = true
        · simp [q0, q1, q2]
        · match k, h3 with
          | 3, _ => exact absurd h2 q0
          | 2, _ => exact absurd h2 q1
          | 1, _ => exact absurd h2 q2
          | 0, _ => simp [q0, q1, q2, h2]
  obtain ⟨c, h1, h2⟩ := hasAt_t.1 key
  exact ⟨c, B_lt h1, h1, h2⟩
theorem lo_eq {x : Int64} {a k : Nat} (h1 : ∀ c, B x c = true → k ≤ co a c) (h2 : ∃ c, B x c = true ∧ co a c = k) : lo x a = k := by
  obtain ⟨c, hc, e⟩ := h2
  have q1 := lo_le (a := a) hc
  obtain ⟨d, _, hd, e2⟩ := lo_at a (B_ne.2 ⟨c, B_lt hc, hc⟩)
  have := h1 d hd
  omega
theorem hi_eq {x : Int64} {a k : Nat} (h1 : ∀ c, B x c = true → co a c ≤ k) (h2 : ∃ c, B x c = true ∧ co a c = k) : hi x a = k := by
  obtain ⟨c, hc, e⟩ := h2
  have q1 := hi_ge (a := a) hc
  obtain ⟨d, _, hd, e2⟩ := hi_at a (B_ne.2 ⟨c, B_lt hc, hc⟩)
  have := h1 d hd
  omega
theorem least_ok {fu : Nat} (hf : 4 ≤ fu) (x : Int64) {a : Nat} (ha : a < 3) : f_X0_least fu x (nI a) = some (nI (lo x a)) := by
  obtain ⟨n, rfl⟩ : ∃ n, fu = n + 4 := ⟨fu - 4, by omega⟩
  have st : ∀ m k, k < 3 → f_X0_least_2 x (nI a) (m + 1) (nI k) = if hasAt x a k = false then f_X0_least_2 x (nI a) m (nI (k + 1)) else some (nI k) := by
    intro m k hk
    rw [f_X0_least_2]
    simp (disch := omega) only [lit32, le_n, inB_t, cl_n, zS_ok, pk_mul, nI_add]
    rw [if_neg (by omega)]
    simp only [if_true]
    have := floor_z (x := x) ha (show k < 4 by omega)
    simp only [this]
  have e3 : ∀ m, f_X0_least_2 x (nI a) (m + 1) (nI 3) = some (nI 3) := fun m => by
    rw [f_X0_least_2]
    exact if_pos (by decide +kernel)
  show (f_X0_least_2 x (nI a) (n + 3 + 1) (nI 0)).bind _ = _
  rw [st (n + 3) 0 (by decide), st (n + 2) 1 (by decide), st (n + 1) 2 (by decide), e3 n]
  unfold lo
  cases hasAt x a 0 <;> cases hasAt x a 1 <;> cases hasAt x a 2 <;> rfl
theorem greatest_ok {fu : Nat} (hf : 4 ≤ fu) (x : Int64) {a : Nat} (ha : a < 3) : f_X0_greatest fu x (nI a) = some (nI (hi x a)) := by
  obtain ⟨n, rfl⟩ : ∃ n, fu = n + 4 := ⟨fu - 4, by omega⟩
  have st : ∀ m k, k < 3 → f_X0_greatest_2 x (nI a) (m + 1) (nI (k + 1)) = if hasAt x a (k + 1) = false then f_X0_greatest_2 x (nI a) m (nI k) else some (nI (k + 1)) := by
    intro m k hk
    rw [f_X0_greatest_2]
    simp (disch := omega) only [pk_m1]
    simp (disch := omega) only [lit32, le_n, inB_t, cl_n, zS_ok, pk_mul, nI_add]
    rw [if_neg (by omega)]
    simp only [if_true]
    have := floor_z (x := x) ha (show k + 1 < 4 by omega)
    simp only [this]
  have e3 : ∀ m, f_X0_greatest_2 x (nI a) (m + 1) (nI 0) = some (nI 0) := fun m => by
    rw [f_X0_greatest_2]
    exact if_pos (by decide +kernel)
  show (f_X0_greatest_2 x (nI a) (n + 3 + 1) (nI (2 + 1))).bind _ = _
  rw [st (n + 3) 2 (by decide), st (n + 2) 1 (by decide), st (n + 1) 0 (by decide), e3 n]
  unfold hi
  cases hasAt x a 1 <;> cases hasAt x a 2 <;> cases hasAt x a 3 <;> rfl
