/-! moves of a shape -/
def fits (s : Int64) (m : Nat) : Bool := decide (hi s 0 + co 0 m ≤ 3 ∧ hi s 1 + co 1 m ≤ 3 ∧ hi s 2 + co 2 m ≤ 3)
theorem fits_t {s : Int64} {m : Nat} : fits s m = true ↔ hi s 0 + co 0 m ≤ 3 ∧ hi s 1 + co 1 m ≤ 3 ∧ hi s 2 + co 2 m ≤ 3 := by
  unfold fits
  rw [decide_eq_true_eq]
theorem add_co {c m : Nat} (hc : c < 64) (hm : m < 64) (h0 : co 0 c + co 0 m ≤ 3) (h1 : co 1 c + co 1 m ≤ 3) (h2 : co 2 c + co 2 m ≤ 3) : c + m < 64 ∧ co 0 (c + m) = co 0 c + co 0 m ∧ co 1 (c + m) = co 1 c + co 1 m ∧ co 2 (c + m) = co 2 c + co 2 m := by
  have e : c + m = (co 0 c + co 0 m) + 4 * (co 1 c + co 1 m) + 16 * (co 2 c + co 2 m) := by
    have := co_sum hc
    have := co_sum hm
    omega
  refine ⟨by omega, ?_⟩
  rw [e]
  exact co_of (by omega) (by omega) (by omega)
theorem fit_c {s : Int64} {m c : Nat} (hm : m < 64) (hf : fits s m = true) (hc : B s c = true) : c + m < 64 ∧ co 0 (c + m) = co 0 c + co 0 m ∧ co 1 (c + m) = co 1 c + co 1 m ∧ co 2 (c + m) = co 2 c + co 2 m := by
  obtain ⟨h0, h1, h2⟩ := fits_t.1 hf
  have g0 := hi_ge (a := 0) hc
  have g1 := hi_ge (a := 1) hc
  have g2 := hi_ge (a := 2) hc
  exact add_co (B_lt hc) hm (by omega) (by omega) (by omega)
theorem shl_img {s : Int64} {m : Nat} (hm : m < 64) (hf : fits s m = true) (j : Nat) : B (shl s m) j = true ↔ ∃ c, B s c = true ∧ c + m = j := by
  rw [shl_B s hm]
  simp only [Bool.and_eq_true, decide_eq_true_eq]
  constructor
  · rintro ⟨_, h2, h3⟩
    exact ⟨j - m, h3, by omega⟩
  · rintro ⟨c, hc, e⟩
    have := (fit_c hm hf hc).1
    refine ⟨by omega, by omega, ?_⟩
    rw [← e, Nat.add_sub_cancel]
    exact hc
theorem shl_uN {s : Int64} {m : Nat} (hm : m < 64) (hf : fits s m = true) : uN (shl s m) = uN s * 2 ^ m := by
  unfold shl
  rw [uN_shlk s hm]
  apply Nat.mod_eq_of_lt
  have : uN s < 2 ^ (64 - m) := by
    apply Nat.lt_pow_two_of_testBit
    intro i hi
    cases h : (uN s).testBit i
    · rfl
    · have := (fit_c hm hf (show B s i = true from h)).1
      omega
  have e : 2 ^ 64 = 2 ^ (64 - m) * 2 ^ m := by rw [← Nat.pow_add]; congr 1; omega
  rw [e]
  exact Nat.mul_lt_mul_of_pos_right this (Nat.two_pow_pos m)
theorem shl_ne {s : Int64} {m : Nat} (h0 : s ≠ 0) (hm : m < 64) (hf : fits s m = true) : shl s m ≠ 0 := by
  obtain ⟨c, _, hc⟩ := B_ne.1 h0
  have := (shl_img hm hf (c + m)).2 ⟨c, hc, rfl⟩
  exact B_ne.2 ⟨_, B_lt this, this⟩
/-- a set that stands at the box's corner -/
def Set0 (s : Int64) : Prop := s ≠ 0 ∧ lo s 0 = 0 ∧ lo s 1 = 0 ∧ lo s 2 = 0
theorem shp_set0 {S : Int64} {t : Nat} (ht : t < 48) (h : S ≠ 0) : Set0 (shp1 S t) := ⟨shp1_ne ht h, lo_shp ht (by decide) h, lo_shp ht (by decide) h, lo_shp ht (by decide) h⟩
theorem lo_shl {s : Int64} {m a : Nat} (ha : a < 3) (h : Set0 s) (hm : m < 64) (hf : fits s m = true) : lo (shl s m) a = co a m := by
  have e : ∀ c, B s c = true → co a (c + m) = co a c + co a m := by
    intro c hc
    have := fit_c hm hf hc
    match a, ha with
    | 0, _ => exact this.2.1
    | 1, _ => exact this.2.2.1
    | 2, _ => exact this.2.2.2
  have hl : lo s a = 0 := by
    match a, ha with
    | 0, _ => exact h.2.1
    | 1, _ => exact h.2.2.1
    | 2, _ => exact h.2.2.2
  apply lo_eq
  · intro j hj
    obtain ⟨c, hc, rfl⟩ := (shl_img hm hf j).1 hj
    rw [e c hc]
    omega
  · obtain ⟨c, _, hc, q⟩ := lo_at a h.1
    exact ⟨c + m, (shl_img hm hf _).2 ⟨c, hc, rfl⟩, by rw [e c hc, q, hl]; omega⟩
theorem st_shl {s : Int64} {m : Nat} (h : Set0 s) (hm : m < 64) (hf : fits s m = true) : st (shl s m) = s := by
  have ho : off (shl s m) = m := by
    unfold off
    rw [lo_shl (by decide) h hm hf, lo_shl (by decide) h hm hf, lo_shl (by decide) h hm hf]
    exact co_sum hm
  apply Sub.eq
  · intro j hj
    rw [st_B, ho] at hj
    obtain ⟨c, hc, e⟩ := (shl_img hm hf _).1 hj
    rw [show j = c by omega]
    exact hc
  · intro j hj
    rw [st_B, ho]
    exact (shl_img hm hf _).2 ⟨j, hj, rfl⟩
theorem moved6_ok {s : Int64} (h0 : s ≠ 0) {m : Nat} (hm : m < 64) : ∀ k fu i acc, k < fu → k + i = 64 → (∀ c, c < i → B s c = true → co 0 c + co 0 m ≤ 3 ∧ co 1 c + co 1 m ≤ 3 ∧ co 2 c + co 2 m ≤ 3) → (∀ j, B acc j = true ↔ ∃ c, c < i ∧ B s c = true ∧ c + m = j) → Ok (f_X7_moved_6 s (nI (co 0 m)) (nI (co 1 m)) (nI (co 2 m)) fu acc (nI i)) (fun q => (q = .inl 0 ∧ fits s m = false) ∨ (q = .inr (shl s m) ∧ fits s m = true)) := by
  intro k
  induction k with
  | zero =>
    intro fu i acc hf hi hA hB
    obtain ⟨n, rfl⟩ : ∃ n, fu = n + 1 := ⟨fu - 1, by omega⟩
    have : i = 64 := by omega
    subst this
    rw [f_X7_moved_6]
    have hft : fits s m = true := by
      obtain ⟨c0, q0, b0, e0⟩ := hi_at 0 h0
      obtain ⟨c1, q1, b1, e1⟩ := hi_at 1 h0
      obtain ⟨c2, q2, b2, e2⟩ := hi_at 2 h0
      have a0 := hA c0 q0 b0
      have a1 := hA c1 q1 b1
      have a2 := hA c2 q2 b2
      exact fits_t.2 ⟨by omega, by omega, by omega⟩
    refine Ok.pos (by decide +kernel) (Ok.some (Or.inr ⟨?_, hft⟩))
    congr 1
    apply Sub.eq
    · intro j hj
      obtain ⟨c, _, q⟩ := (hB j).1 hj
      exact (shl_img hm hft j).2 ⟨c, q⟩
    · intro j hj
      obtain ⟨c, q⟩ := (shl_img hm hft j).1 hj
      exact (hB j).2 ⟨c, B_lt q.1, q⟩
  | succ k ih =>
    intro fu i acc hf hi hA hB
    obtain ⟨n, rfl⟩ : ∃ n, fu = n + 1 := ⟨fu - 1, by omega⟩
    have hi64 : i < 64 := by omega
    rw [f_X7_moved_6]
    have r0 : nI i - nI i / 4 * 4 = nI (co 0 i) := by rw [cv_0]; exact pk_rem (d := 4) (by omega) (by decide) (by decide)
    have d1 : nI i / 4 = nI (i / 4) := pk_div (d := 4) (by omega) (by decide) (by decide)
    have r1 : nI i / 4 - nI i / 4 / 4 * 4 = nI (co 1 i) := by rw [cv_1, d1]; exact pk_rem (d := 4) (by omega) (by decide) (by decide)
    have r2 : nI i / 16 = nI (co 2 i) := by rw [cv_2 hi64]; exact pk_div (d := 16) (by omega) (by decide) (by decide)
    have b0 := co_lt 0 m
    have b1 := co_lt 1 m
    have b2 := co_lt 2 m
    have c0 := co_lt 0 i
    have c1 := co_lt 1 i
    have c2 := co_lt 2 i
    rw [r0, r1, r2, nI_add, nI_add, nI_add, show (3 : Int32) = nI 3 from rfl, show (4 : Int32) = nI 4 from rfl, show (16 : Int32) = nI 16 from rfl, pk_mul, pk_mul, nI_add, nI_add, show nI i + 1 = nI (i + 1) from nI_1 i]
    refine Ok.neg (by rw [show (64 : Int32) = nI 64 from rfl, le_n (by decide) (by omega)]; omega) (Ok.bindE (has_ok s hi64) (Ok.ite (fun h => ?_) (fun h => ?_)))
    · rw [bI_0] at h
      refine ih n (i + 1) acc (by omega) (by omega) (fun c hc q => ?_) (fun j => (hB j).trans ⟨fun ⟨c, hc, q⟩ => ⟨c, by omega, q⟩, fun ⟨c, hc, q⟩ => ⟨c, ?_, q⟩⟩)
      · by_cases e : c = i
        · subst e; rw [h] at q; cases q
        · exact hA c (by omega) q
      · by_cases e : c = i
        · subst e; rw [h] at q; cases q.1
        · omega
    · rw [bI_n0] at h
      have g0 := hi_ge (a := 0) h
      have g1 := hi_ge (a := 1) h
      have g2 := hi_ge (a := 2) h
      have no : ¬ (co 0 i + co 0 m ≤ 3 ∧ co 1 i + co 1 m ≤ 3 ∧ co 2 i + co 2 m ≤ 3) → fits s m = false := by
        intro q
        rw [← Bool.not_eq_true, fits_t]
        omega
      refine Ok.ite (fun q0 => ?_) (fun q0 => ?_)
      · rw [lt_n (by decide) (by omega)] at q0
        exact Ok.some (Or.inl ⟨rfl, no (by omega)⟩)
      · rw [lt_n (by decide) (by omega)] at q0
        refine Ok.ite (fun q1 => ?_) (fun q1 => ?_)
        · rw [lt_n (by decide) (by omega)] at q1
          exact Ok.some (Or.inl ⟨rfl, no (by omega)⟩)
        · rw [lt_n (by decide) (by omega)] at q1
          refine Ok.ite (fun q2 => ?_) (fun q2 => ?_)
          · rw [le_n (by omega) (by decide)] at q2
            have hs := add_co hi64 hm (by omega) (by omega) q2
            have e : co 0 i + co 0 m + 4 * (co 1 i + co 1 m) + 16 * (co 2 i + co 2 m) = i + m := by
              have := co_sum hi64
              have := co_sum hm
              omega
            rw [e]
            refine ih n (i + 1) _ (by omega) (by omega) (fun c hc q => ?_) (fun j => ?_)
            · by_cases e : c = i
              · subst e; exact ⟨by omega, by omega, q2⟩
              · exact hA c (by omega) q
            · rw [B_set acc hs.1, Bool.or_eq_true, decide_eq_true_eq, hB]
              constructor
              · rintro (⟨c, hc, q⟩ | q)
                · exact ⟨c, by omega, q⟩
                · exact ⟨i, by omega, h, q.symm⟩
              · rintro ⟨c, hc, q⟩
                by_cases e : c = i
                · subst e; exact Or.inr q.2.symm
                · exact Or.inl ⟨c, by omega, q⟩
          · rw [le_n (by omega) (by decide)] at q2
            exact Ok.some (Or.inl ⟨rfl, no (by omega)⟩)
def mvd (s : Int64) (m : Nat) : Int64 := if fits s m then shl s m else 0
theorem moved_ok {fu : Nat} (hf : 70 ≤ fu) {s : Int64} (h0 : s ≠ 0) {m : Nat} (hm : m < 64) : f_X7_moved fu s (nI (co 0 m)) (nI (co 1 m)) (nI (co 2 m)) = some (mvd s m) := by
  apply Ok.eq
  unfold f_X7_moved
  refine Ok.sumB ((moved6_ok h0 hm 64 fu 0 0 (by omega) (by omega) (fun c hc => absurd hc (by omega)) (fun j => ?_)).mono ?_)
  · rw [B_0]
    constructor
    · intro h; cases h
    · rintro ⟨c, h, _⟩; omega
  · rintro q (⟨rfl, h⟩ | ⟨rfl, h⟩)
    · show id 0 = mvd s m
      unfold mvd
      rw [h]; rfl
    · refine Ok.some ?_
      unfold mvd
      rw [h]; rfl
/-- how many moves below m fit -/
def nf (s : Int64) : Nat → Nat
  | 0 => 0
  | m + 1 => nf s m + (if fits s m then 1 else 0)
def nf3 (x y z : Nat) : Nat → Nat
  | 0 => 0
  | m + 1 => nf3 x y z m + (if decide (x + co 0 m ≤ 3 ∧ y + co 1 m ≤ 3 ∧ z + co 2 m ≤ 3) then 1 else 0)
theorem nf_3 (s : Int64) : ∀ m, nf s m = nf3 (hi s 0) (hi s 1) (hi s 2) m := by
  intro m
  induction m with
  | zero => rfl
  | succ m ih =>
    unfold nf nf3
    rw [ih]
    rfl
theorem nf3_64 : ∀ x, x < 4 → ∀ y, y < 4 → ∀ z, z < 4 → nf3 x y z 64 = mvs3 x y z := by decide +kernel
theorem nf_64 (s : Int64) : nf s 64 = mvs s := by
  rw [nf_3, nf3_64 _ (hi_lt s 0) _ (hi_lt s 1) _ (hi_lt s 2)]
  rfl
theorem nf_le (s : Int64) : ∀ m, nf s m ≤ m := by
  intro m
  induction m with
  | zero => exact Nat.le_refl _
  | succ m ih => unfold nf; split <;> omega
theorem nf_mono (s : Int64) {a : Nat} : ∀ k, nf s a ≤ nf s (a + k) := by
  intro k
  induction k with
  | zero => exact Nat.le_refl _
  | succ k ih =>
    show nf s a ≤ nf s (a + k) + (if fits s (a + k) then 1 else 0)
    omega
theorem nf_le' (s : Int64) {a b : Nat} (h : a ≤ b) : nf s a ≤ nf s b := by
  have := nf_mono s (a := a) (b - a)
  rw [show a + (b - a) = b by omega] at this
  exact this
/-- the places of one shape, of the moves below i -/
def OneP (s W : Int64) (i : Nat) (v : Int64) : Prop := ∃ m, m < i ∧ fits s m = true ∧ v = shl s m ∧ Sub v W
theorem OneP.skip {s W : Int64} {i i' : Nat} (hi : i ≤ i') (h : ∀ m, i ≤ m → m < i' → fits s m = false ∨ ¬ Sub (shl s m) W) (v : Int64) : OneP s W i v ↔ OneP s W i' v := by
  constructor
  · rintro ⟨m, hm, q⟩; exact ⟨m, by omega, q⟩
  · rintro ⟨m, hm, q⟩
    by_cases e : m < i
    · exact ⟨m, e, q⟩
    · rcases h m (by omega) hm with z | z
      · rw [z] at q; cases q.1
      · rw [q.2.1] at q; exact absurd q.2.2 z
theorem OneP.app {s W : Int64} {i n : Nat} {f : Nat → Int64} (h0 : s ≠ 0) (hi : i < 64) (hf : fits s i = true) (hs : Sub (shl s i) W) (hr : Row f 0 n (OneP s W i)) : Row (va_up f n (shl s i)) 0 (n + 1) (OneP s W (i + 1)) := by
  have hlt : ∀ j, j < n → uN (f j) < uN (shl s i) := by
    intro j hj
    obtain ⟨m, hm, q1, q2, q3⟩ := (hr.2 (f j)).2 ⟨j, hj, by rw [Nat.zero_add]⟩
    rw [q2, shl_uN (by omega) q1, shl_uN hi hf]
    have hp : 0 < uN s := by
      apply Nat.pos_of_ne_zero
      intro z
      exact h0 (uN_inj z)
    exact Nat.mul_lt_mul_of_pos_left (Nat.pow_lt_pow_right (by decide) hm) hp
  refine ⟨fun a b hab hb => ?_, fun v => ?_⟩
  · rw [Nat.zero_add, Nat.zero_add]
    by_cases e : b = n
    · subst e
      rw [vu_s, vu_n (by omega)]
      exact hlt a (by omega)
    · rw [vu_n e, vu_n (by omega)]
      have := hr.1 a b hab (by omega)
      rw [Nat.zero_add, Nat.zero_add] at this
      exact this
  · constructor
    · rintro ⟨m, hm, q⟩
      by_cases e : m = i
      · subst e
        exact ⟨n, by omega, by rw [Nat.zero_add, vu_s, q.2.1]⟩
      · obtain ⟨j, hj, e2⟩ := (hr.2 v).1 ⟨m, by omega, q⟩
        rw [Nat.zero_add] at e2
        exact ⟨j, by omega, by rw [Nat.zero_add, vu_n (by omega), e2]⟩
    · rintro ⟨j, hj, e⟩
      rw [Nat.zero_add] at e
      by_cases q : j = n
      · subst q
        rw [vu_s] at e
        exact ⟨i, by omega, hf, e.symm, by rw [← e]; exact hs⟩
      · rw [vu_n q] at e
        obtain ⟨m, hm, z⟩ := (hr.2 v).2 ⟨j, by omega, by rw [Nat.zero_add, e]⟩
        exact ⟨m, by omega, z⟩
theorem sub_z {v W : Int64} : (v &&& (W ^^^ (-1 : Int64))) = 0 ↔ Sub v W := by
  rw [B_zero]
  constructor
  · intro h c hc
    have := h c (B_lt hc)
    rw [B_and, B_not W (B_lt hc), hc] at this
    simpa using this
  · intro h c hc
    rw [B_and, B_not W hc]
    cases hv : B v c
    · rfl
    · rw [h c hv]; rfl
