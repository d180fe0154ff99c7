/-! settled, shifted, neighbours -/
/-- how far the set is from its settled place -/
def off (x : Int64) : Nat := lo x 0 + 4 * lo x 1 + 16 * lo x 2
def shr (x : Int64) (k : Nat) : Int64 := (x.toUInt64 >>> ((nI k).toInt64.toUInt64 &&& Int64.toUInt64 63)).toInt64
def shl (x : Int64) (k : Nat) : Int64 := x <<< ((nI k).toInt64 &&& 63)
theorem shr_B (x : Int64) {k : Nat} (hk : k < 64) (c : Nat) : B (shr x k) c = B x (c + k) := B_shr x hk c
theorem shl_B (x : Int64) {k : Nat} (hk : k < 64) (c : Nat) : B (shl x k) c = (decide (c < 64) && (decide (k ≤ c) && B x (c - k))) := B_shl x hk c
def st1 (x : Int64) : Int64 := shr x (lo x 0 * 4 ^ 0)
def st2 (x : Int64) : Int64 := shr (st1 x) (lo (st1 x) 1 * 4 ^ 1)
def st (x : Int64) : Int64 := shr (st2 x) (lo (st2 x) 2 * 4 ^ 2)
theorem settled_ok {fu : Nat} (hf : 8 ≤ fu) (x : Int64) : f_X0_settled fu x = some (st x) := by
  obtain ⟨n, rfl⟩ : ∃ n, fu = n + 8 := ⟨fu - 8, by omega⟩
  have sp : ∀ m y k, 4 ≤ m → k < 3 → f_X0_settled_5 (m + 1) y (nI k) = f_X0_settled_5 m (shr y (lo y k * 4 ^ k)) (nI (k + 1)) := by
    intro m y k hm hk
    rw [f_X0_settled_5, least_ok hm y hk]
    simp (disch := omega) only [Option.bind_some, cl_n, zS_ok, pk_mul]
    rw [if_neg (by rw [show (3 : Int32) = nI 3 from rfl, le_n (by decide) (by omega)]; omega), if_pos (inB_n hk (by decide)), show nI k + 1 = nI (k + 1) from nI_1 k]
    rfl
  show (f_X0_settled_5 (n + 7 + 1) x (nI 0)).bind _ = _
  rw [sp _ _ _ (by omega) (by decide), sp (n + 6) _ _ (by omega) (by decide), sp (n + 5) _ _ (by omega) (by decide)]
  rw [f_X0_settled_5, if_pos (by decide +kernel)]
  rfl
theorem B_0' {x : Int64} (h : x = 0) (c : Nat) : B x c = false := by rw [h, B_0]
theorem st_B (x : Int64) (c : Nat) : B (st x) c = B x (c + off x) := by
  by_cases hx : x = 0
  · have z : ∀ y k, y = 0 → k < 64 → shr y k = 0 := fun y k hy hk => B_zero.2 (fun c _ => by rw [shr_B y hk, hy, B_0])
    have b1 : st1 x = 0 := z _ _ hx (by have := lo_lt x 0; omega)
    have b2 : st2 x = 0 := z _ _ b1 (by have := lo_lt (st1 x) 1; omega)
    have b3 : st x = 0 := z _ _ b2 (by have := lo_lt (st2 x) 2; omega)
    rw [b3, B_0, B_0' hx]
  · have l0 := lo_lt x 0
    have l1 := lo_lt x 1
    have l2 := lo_lt x 2
    have e1 : ∀ c, B (st1 x) c = B x (c + lo x 0) := fun c => by
      unfold st1
      rw [shr_B x (by omega)]; congr 1; omega
    have k1 : ∀ c, B (st1 x) c = true → co 1 c = co 1 (c + lo x 0) ∧ co 2 c = co 2 (c + lo x 0) ∧ co 0 (c + lo x 0) = co 0 c + lo x 0 ∧ c + lo x 0 < 64 := by
      intro c hc
      rw [e1] at hc
      have h := lo_le (a := 0) hc
      have hlt := B_lt hc
      rw [cv_0] at h
      rw [cv_0, cv_0, cv_1, cv_1, cv_2 (by omega), cv_2 hlt]
      omega
    have r1 : ∀ c, B x c = true → ∃ d, c = d + lo x 0 ∧ B (st1 x) d = true := by
      intro c hc
      have h := lo_le (a := 0) hc
      rw [cv_0] at h
      refine ⟨c - lo x 0, by omega, ?_⟩
      rw [e1, show c - lo x 0 + lo x 0 = c by omega, hc]
    have m1 : lo (st1 x) 1 = lo x 1 := by
      apply lo_eq
      · intro c hc
        rw [(k1 c hc).1]
        rw [e1] at hc
        exact lo_le hc
      · obtain ⟨c, _, hc, e⟩ := lo_at 1 hx
        obtain ⟨d, hd, hb⟩ := r1 c hc
        exact ⟨d, hb, by rw [(k1 d hb).1, ← hd, e]⟩
    have e2 : ∀ c, B (st2 x) c = B (st1 x) (c + 4 * lo x 1) := fun c => by
      unfold st2
      rw [m1, shr_B _ (by omega)]; congr 1; omega
    have k2 : ∀ c, B (st2 x) c = true → co 2 c = co 2 (c + 4 * lo x 1) ∧ c + 4 * lo x 1 < 64 := by
      intro c hc
      rw [e2] at hc
      have h := lo_le (a := 1) hc
      have hlt := B_lt hc
      rw [m1, cv_1] at h
      rw [cv_2 (by omega), cv_2 hlt]
      omega
    have r2 : ∀ c, B (st1 x) c = true → ∃ d, c = d + 4 * lo x 1 ∧ B (st2 x) d = true := by
      intro c hc
      have h := lo_le (a := 1) hc
      rw [m1, cv_1] at h
      refine ⟨c - 4 * lo x 1, by omega, ?_⟩
      rw [e2, show c - 4 * lo x 1 + 4 * lo x 1 = c by omega, hc]
    have m2 : lo (st2 x) 2 = lo x 2 := by
      apply lo_eq
      · intro c hc
        rw [(k2 c hc).1]
        rw [e2] at hc
        rw [(k1 _ hc).2.1]
        rw [e1] at hc
        exact lo_le hc
      · obtain ⟨c, _, hc, e⟩ := lo_at 2 hx
        obtain ⟨d, hd, hb⟩ := r1 c hc
        obtain ⟨d2, hd2, hb2⟩ := r2 d hb
        exact ⟨d2, hb2, by rw [(k2 d2 hb2).1, ← hd2, (k1 d hb).2.1, ← hd, e]⟩
    unfold st
    rw [m2, shr_B _ (by omega), e2, e1]
    unfold off
    congr 1
    omega
theorem off_le {x : Int64} {c : Nat} (h : B x c = true) : off x ≤ c ∧ co 0 (c - off x) = co 0 c - lo x 0 ∧ co 1 (c - off x) = co 1 c - lo x 1 ∧ co 2 (c - off x) = co 2 c - lo x 2 := by
  have h0 := lo_le (a := 0) h
  have h1 := lo_le (a := 1) h
  have h2 := lo_le (a := 2) h
  have hs := co_sum (B_lt h)
  have c0 := co_lt 0 c
  have c1 := co_lt 1 c
  have c2 := co_lt 2 c
  have e : c - off x = (co 0 c - lo x 0) + 4 * (co 1 c - lo x 1) + 16 * (co 2 c - lo x 2) := by
    unfold off; omega
  refine ⟨by unfold off; omega, ?_⟩
  rw [e]
  exact co_of (by omega) (by omega) (by omega)
theorem st_in {x : Int64} {c : Nat} (h : B x c = true) : B (st x) (c - off x) = true := by
  rw [st_B, show c - off x + off x = c by have := (off_le h).1; omega, h]
theorem st_ne {x : Int64} (h : x ≠ 0) : st x ≠ 0 := by
  obtain ⟨c, _, hc⟩ := B_ne.1 h
  exact B_ne.2 ⟨_, B_lt (st_in hc), st_in hc⟩
theorem st_0 {x : Int64} (h : x = 0) : st x = 0 := B_zero.2 (fun c _ => by rw [st_B, B_0' h])
/-- which cell a shift takes a cell from: steps up -/
theorem stays_ok : ∀ a, a < 3 → ∀ k, k < 4 → ∀ c, c < 64 → B (z_STAYS (a * 4 + k)) c = decide (co a c + k ≤ 3) := by decide +kernel
def sUp (x : Int64) (a k : Nat) : Int64 := shl (x &&& z_STAYS (a * 4 + k)) (k * 4 ^ a)
def sDn (x : Int64) (a k : Nat) : Int64 := shr x (k * 4 ^ a) &&& z_STAYS (a * 4 + k)
theorem axk {a k : Nat} (ha : a < 3) (hk : k < 4) : k * 4 ^ a < 64 := by
  match a, ha with
  | 0, _ => omega
  | 1, _ => omega
  | 2, _ => omega
theorem co_up : ∀ a, a < 3 → ∀ k, k < 4 → ∀ c, c < 64 → co a c + k ≤ 3 → co a (c + k * 4 ^ a) = co a c + k ∧ c + k * 4 ^ a < 64 := by decide +kernel
theorem co_dn : ∀ a, a < 3 → ∀ k, k < 4 → ∀ c, c < 64 → k ≤ co a c → co a (c - k * 4 ^ a) = co a c - k ∧ k * 4 ^ a ≤ c := by decide +kernel
theorem co_od0 : ∀ i, i < 36 → ∀ c, c < 64 → i / 12 = i / 4 % 3 ∨ ¬ i % 4 ≤ co (i / 12) c ∨ co (i / 4 % 3) (c - i % 4 * 4 ^ (i / 12)) = co (i / 4 % 3) c := by decide +kernel
theorem co_ou0 : ∀ i, i < 36 → ∀ c, c < 64 → i / 12 = i / 4 % 3 ∨ ¬ co (i / 12) c + i % 4 ≤ 3 ∨ co (i / 4 % 3) (c + i % 4 * 4 ^ (i / 12)) = co (i / 4 % 3) c := by decide +kernel
theorem ix36 {a a' k : Nat} (ha : a < 3) (ha' : a' < 3) (hk : k < 4) : a * 12 + a' * 4 + k < 36 ∧ (a * 12 + a' * 4 + k) / 12 = a ∧ (a * 12 + a' * 4 + k) / 4 % 3 = a' ∧ (a * 12 + a' * 4 + k) % 4 = k := by omega
theorem co_od {a a' k c : Nat} (ha : a < 3) (ha' : a' < 3) (hk : k < 4) (hc : c < 64) (hn : a ≠ a') (h : k ≤ co a c) : co a' (c - k * 4 ^ a) = co a' c := by
  obtain ⟨h0, h1, h2, h3⟩ := ix36 ha ha' hk
  have := co_od0 _ h0 c hc
  rw [h1, h2, h3] at this
  rcases this with q | q | q
  · exact absurd q hn
  · exact absurd h q
  · exact q
theorem co_ou {a a' k c : Nat} (ha : a < 3) (ha' : a' < 3) (hk : k < 4) (hc : c < 64) (hn : a ≠ a') (h : co a c + k ≤ 3) : co a' (c + k * 4 ^ a) = co a' c := by
  obtain ⟨h0, h1, h2, h3⟩ := ix36 ha ha' hk
  have := co_ou0 _ h0 c hc
  rw [h1, h2, h3] at this
  rcases this with q | q | q
  · exact absurd q hn
  · exact absurd h q
  · exact q
theorem co_nw : ∀ a, a < 3 → ∀ k, k < 4 → ∀ c, c < 64 → k * 4 ^ a ≤ c → co a (c - k * 4 ^ a) + k ≤ 3 → k ≤ co a c := by decide +kernel
theorem sUp_B (x : Int64) {a k c : Nat} (ha : a < 3) (hk : k < 4) (hc : c < 64) : B (sUp x a k) c = (decide (k ≤ co a c) && B x (c - k * 4 ^ a)) := by
  unfold sUp
  rw [shl_B _ (axk ha hk), B_and]
  by_cases h1 : k ≤ co a c
  · have h2 := co_dn a ha k hk c hc h1
    have h3 := co_lt a c
    rw [stays_ok a ha k hk (c - k * 4 ^ a) (by omega), h2.1]
    simp [hc, h1, h2.2, show co a c - k + k ≤ 3 by omega]
    intro _; omega
  · by_cases h2 : k * 4 ^ a ≤ c
    · rw [stays_ok a ha k hk (c - k * 4 ^ a) (by omega)]
      have h3 : ¬ co a (c - k * 4 ^ a) + k ≤ 3 := fun q => h1 (co_nw a ha k hk c hc h2 q)
      simp [h1, h3]
    · simp [h1, h2]
theorem sDn_B (x : Int64) {a k c : Nat} (ha : a < 3) (hk : k < 4) (hc : c < 64) : B (sDn x a k) c = (decide (co a c + k ≤ 3) && B x (c + k * 4 ^ a)) := by
  unfold sDn
  rw [B_and, shr_B _ (axk ha hk), stays_ok a ha k hk c hc, Bool.and_comm]
theorem shiftedU_ok (x : Int64) {a k : Nat} (ha : a < 3) (hk : k < 4) : f_X0_shifted x (nI a) (nI k) = some (sUp x a k) := by
  unfold f_X0_shifted
  rw [if_neg (by have h : ¬ nI k < 0 := nI_pos (by omega); intro q; exact h (Int32.lt_of_le_of_lt q (by decide)))]
  rw [if_pos (show nI k < 4 from (nI_ltI (b := 4) (by omega) (by decide)).2 hk), if_neg (nI_pos (by omega))]
  simp (disch := omega) only [lit32, pk_mul, nI_add, inB_t, cl_n, zS_ok, if_true]
  rfl
theorem neg_n : ∀ k, k < 4 → -(-(nI k)) = nI k ∧ ∀ a, a < 3 → nI a * 4 - (-(nI k)) = nI (a * 4 + k) := by decide +kernel
theorem neg_l : ∀ k, k < 4 → 0 < k → ¬ -(nI k) ≤ (-4 : Int32) ∧ -(nI k) < (4 : Int32) ∧ -(nI k) < 0 := by decide +kernel
theorem shiftedD_ok (x : Int64) {a k : Nat} (ha : a < 3) (h0 : 0 < k) (hk : k < 4) : f_X0_shifted x (nI a) (-(nI k)) = some (sDn x a k) := by
  unfold f_X0_shifted
  have h := neg_l k hk h0
  have h2 := neg_n k hk
  rw [if_neg h.1, if_pos h.2.1, if_pos h.2.2, h2.1, h2.2 a ha]
  simp (disch := omega) only [pk_mul, inB_t, cl_n, zS_ok, if_true]
  rfl
theorem shiftedO_ok (x : Int64) (a : Int32) {s : Int32} (h : s ≤ (-4 : Int32) ∨ (4 : Int32) ≤ s) : f_X0_shifted x a s = some 0 := by
  unfold f_X0_shifted
  rcases h with h | h
  · rw [if_pos h]
  · by_cases q : s ≤ (-4 : Int32)
    · rw [if_pos q]
    · rw [if_neg q, if_neg (Int32.not_lt.2 h)]
/-- the cells that share a face -/
def adj (a b : Nat) : Bool := decide ((co 0 a = co 0 b ∧ co 1 a = co 1 b ∧ (co 2 a + 1 = co 2 b ∨ co 2 b + 1 = co 2 a)) ∨ (co 0 a = co 0 b ∧ co 2 a = co 2 b ∧ (co 1 a + 1 = co 1 b ∨ co 1 b + 1 = co 1 a)) ∨ (co 1 a = co 1 b ∧ co 2 a = co 2 b ∧ (co 0 a + 1 = co 0 b ∨ co 0 b + 1 = co 0 a)))
def nb (x : Int64) : Int64 := 0 ||| (sUp x 0 1 ||| sDn x 0 1) ||| (sUp x 1 1 ||| sDn x 1 1) ||| (sUp x 2 1 ||| sDn x 2 1)
theorem neighbours_ok {fu : Nat} (hf : 4 ≤ fu) (x : Int64) : f_X0_neighbours fu x = some (nb x) := by
  obtain ⟨n, rfl⟩ : ∃ n, fu = n + 4 := ⟨fu - 4, by omega⟩
  have sp : ∀ m y k, k < 3 → f_X0_neighbours_5 x (m + 1) y (nI k) = f_X0_neighbours_5 x m (y ||| (sUp x k 1 ||| sDn x k 1)) (nI (k + 1)) := by
    intro m y k hk
    rw [f_X0_neighbours_5, show f_X0_shifted x (nI k) (1 : Int32) = _ from shiftedU_ok x hk (k := 1) (by decide), show f_X0_shifted x (nI k) (-1 : Int32) = _ from shiftedD_ok x hk (k := 1) (by decide) (by decide)]
    rw [if_neg (by rw [show (3 : Int32) = nI 3 from rfl, le_n (by decide) (by omega)]; omega), show nI k + 1 = nI (k + 1) from nI_1 k]
    rfl
  show (f_X0_neighbours_5 x (n + 3 + 1) 0 (nI 0)).bind _ = _
  rw [sp _ _ _ (by decide), sp (n + 2) _ _ (by decide), sp (n + 1) _ _ (by decide)]
  rw [f_X0_neighbours_5, if_pos (by decide +kernel)]
  rfl
def adj6 (c d : Nat) : Bool := (decide (1 ≤ co 0 c) && decide (d = c - 1 * 4 ^ 0)) || ((decide (co 0 c + 1 ≤ 3) && decide (d = c + 1 * 4 ^ 0)) || ((decide (1 ≤ co 1 c) && decide (d = c - 1 * 4 ^ 1)) || ((decide (co 1 c + 1 ≤ 3) && decide (d = c + 1 * 4 ^ 1)) || ((decide (1 ≤ co 2 c) && decide (d = c - 1 * 4 ^ 2)) || (decide (co 2 c + 1 ≤ 3) && decide (d = c + 1 * 4 ^ 2))))))
theorem adj_6 : ∀ c, c < 64 → ∀ d, d < 64 → adj d c = true → adj6 c d = true := by decide +kernel
theorem adj_six (c : Nat) (hc : c < 64) (d : Nat) (hd : d < 64) (h : adj d c = true) : (1 ≤ co 0 c ∧ d = c - 1 * 4 ^ 0) ∨ (co 0 c + 1 ≤ 3 ∧ d = c + 1 * 4 ^ 0) ∨ (1 ≤ co 1 c ∧ d = c - 1 * 4 ^ 1) ∨ (co 1 c + 1 ≤ 3 ∧ d = c + 1 * 4 ^ 1) ∨ (1 ≤ co 2 c ∧ d = c - 1 * 4 ^ 2) ∨ (co 2 c + 1 ≤ 3 ∧ d = c + 1 * 4 ^ 2) := by
  have := adj_6 c hc d hd h
  unfold adj6 at this
  simp only [Bool.or_eq_true, Bool.and_eq_true, decide_eq_true_eq] at this
  exact this
theorem six_adj : ∀ c, c < 64 → ∀ a, a < 3 → (1 ≤ co a c → adj (c - 1 * 4 ^ a) c = true) ∧ (co a c + 1 ≤ 3 → adj (c + 1 * 4 ^ a) c = true) := by decide +kernel
theorem nb_B (x : Int64) {c : Nat} (hc : c < 64) : B (nb x) c = true ↔ ∃ d, B x d = true ∧ adj d c = true := by
  unfold nb
  simp only [B_or, B_0, sUp_B x (show 0 < 3 by decide) (show 1 < 4 by decide) hc, sUp_B x (show 1 < 3 by decide) (show 1 < 4 by decide) hc, sUp_B x (show 2 < 3 by decide) (show 1 < 4 by decide) hc, sDn_B x (show 0 < 3 by decide) (show 1 < 4 by decide) hc, sDn_B x (show 1 < 3 by decide) (show 1 < 4 by decide) hc, sDn_B x (show 2 < 3 by decide) (show 1 < 4 by decide) hc, Bool.or_eq_true, Bool.and_eq_true, decide_eq_true_eq]
  constructor
  · intro h
    have s0 := six_adj c hc 0 (by decide)
    have s1 := six_adj c hc 1 (by decide)
    have s2 := six_adj c hc 2 (by decide)
    rcases h with (((h | h) | (h | h)) | (h | h))
    · cases h
    · rcases h with h
      rcases h with h | h
      · exact ⟨_, h.2, s0.1 h.1⟩
      · exact ⟨_, h.2, s0.2 h.1⟩
    · exact ⟨_, h.2, s1.1 h.1⟩
    · exact ⟨_, h.2, s1.2 h.1⟩
    · exact ⟨_, h.2, s2.1 h.1⟩
    · exact ⟨_, h.2, s2.2 h.1⟩
  · rintro ⟨d, h1, h2⟩
    rcases adj_six c hc d (B_lt h1) h2 with ⟨q, e⟩ | ⟨q, e⟩ | ⟨q, e⟩ | ⟨q, e⟩ | ⟨q, e⟩ | ⟨q, e⟩ <;> subst e <;> simp [q, h1]
