/-! turns -/
def ordT (i : Nat) : Nat := [0, 1, 2, 1, 2, 0, 2, 0, 1, 0, 2, 1, 2, 1, 0, 1, 0, 2].getD i 0
/-- a cell's coordinate on an axis after a turn -/
def tco (t a c : Nat) : Nat := if t % 8 / 2 ^ a % 2 = 0 then co (ordT (t / 8 * 3 + a)) c else 3 - co (ordT (t / 8 * 3 + a)) c
def tcell (t c : Nat) : Nat := tco t 0 c + 4 * tco t 1 c + 16 * tco t 2 c
theorem tco_lt (t a c : Nat) : tco t a c < 4 := by
  unfold tco
  have := co_lt (ordT (t / 8 * 3 + a)) c
  split <;> omega
theorem tcell_lt (t c : Nat) : tcell t c < 64 := by
  unfold tcell
  have h0 := tco_lt t 0 c
  have h1 := tco_lt t 1 c
  have h2 := tco_lt t 2 c
  omega
theorem tcell_co (t c : Nat) : co 0 (tcell t c) = tco t 0 c ∧ co 1 (tcell t c) = tco t 1 c ∧ co 2 (tcell t c) = tco t 2 c := co_of (tco_lt t 0 c) (tco_lt t 1 c) (tco_lt t 2 c)
theorem t39_4 : ∀ t, t < 48 → ∀ c, c < 64 → f_X0_turned_39 ((nI t / 8) * 3) (nI t - nI t / 8 * 8) (nI c) 4 0 0 = some (nI (tcell t c)) := by decide +kernel
theorem t39_mono {a b c : Int32} : ∀ fu x y r, f_X0_turned_39 a b c fu x y = some r → ∀ n, f_X0_turned_39 a b c (fu + n) x y = some r := by
  intro fu
  induction fu with
  | zero => intro x y r h; cases h
  | succ fu ih =>
    intro x y r h n
    revert h
    rw [show fu + 1 + n = (fu + n) + 1 by omega, f_X0_turned_39, f_X0_turned_39]
    refine ite_mono (fun _ => id) (fun _ => ite_mono (fun _ => ite_mono (fun _ => ite_mono (fun _ => ite_mono (fun _ => ?_) (fun _ => id)) (fun _ => id)) (fun _ => id)) (fun _ => id))
    exact fun h => ih _ _ _ h n
theorem t39_ok {fu t c : Nat} (hf : 4 ≤ fu) (ht : t < 48) (hc : c < 64) : f_X0_turned_39 ((nI t / 8) * 3) (nI t - nI t / 8 * 8) (nI c) fu 0 0 = some (nI (tcell t c)) := by
  have := t39_mono _ _ _ _ (t39_4 t ht c hc) (fu - 4)
  rw [show 4 + (fu - 4) = fu by omega] at this
  exact this
/-- the set T is S through g -/
def Img (g : Nat → Nat) (S T : Int64) : Prop := ∀ j, B T j = true ↔ ∃ c, B S c = true ∧ g c = j
theorem Img.uniq {g : Nat → Nat} {S T T' : Int64} (h : Img g S T) (h' : Img g S T') : T = T' := Sub.eq (fun c hc => (h' c).2 ((h c).1 hc)) (fun c hc => (h c).2 ((h' c).1 hc))
theorem low_rest {S R : Int64} {i : Nat} (hR : ∀ c, B R c = (B S c && decide (i ≤ c))) (h0 : R ≠ 0) : ∃ k, i ≤ k ∧ k < 64 ∧ B S k = true ∧ (∀ j, i ≤ j → j < k → B S j = false) ∧ f_X0_lowest R = some (nI k) ∧ ∀ c, B (R &&& (R - 1)) c = (B S c && decide (k + 1 ≤ c)) := by
  obtain ⟨k, h1, h2, h3⟩ := B_low h0
  have hk := h2
  rw [hR, Bool.and_eq_true, decide_eq_true_eq] at hk
  have hz : ∀ j, i ≤ j → j < k → B S j = false := by
    intro j hj hjk
    have := h3 j hjk
    rw [hR] at this
    simpa [hj] using this
  refine ⟨k, hk.2, h1, hk.1, hz, lowest_ok h1 h2 h3, ?_⟩
  intro c
  by_cases hc : c < 64
  · rw [B_drop h2 h3 hc, hR]
    cases hS : B S c
    · simp
    · by_cases q : c = k
      · subst q; simp
      · by_cases q2 : c < k
        · by_cases q3 : i ≤ c
          · rw [hz c q3 q2] at hS; cases hS
          · simp [q3, show ¬ k + 1 ≤ c by omega]
        · simp [q, show i ≤ c by omega, show k + 1 ≤ c by omega]
  · rw [B_big (by omega), B_big (x := S) (by omega)]; rfl
theorem t19_ok {S : Int64} {t : Nat} (ht : t < 48) : ∀ k fu (acc R : Int64) (i : Nat), 4 + k < fu → 64 ≤ k + i → (∀ c, B R c = (B S c && decide (i ≤ c))) → (∀ j, B acc j = true ↔ ∃ c, c < i ∧ B S c = true ∧ tcell t c = j) → Ok (f_X0_turned_19 ((nI t / 8) * 3) (nI t - nI t / 8 * 8) fu acc R) (Img (tcell t) S) := by
  intro k
  induction k with
  | zero =>
    intro fu acc R i hf hi hR hA
    obtain ⟨n, rfl⟩ : ∃ n, fu = n + 1 := ⟨fu - 1, by omega⟩
    have h0 : R = 0 := B_zero.2 (fun c hc => by rw [hR]; simp; intro _; omega)
    rw [f_X0_turned_19]
    refine Ok.pos h0 (Ok.some (fun j => (hA j).trans ⟨fun ⟨c, _, h⟩ => ⟨c, h⟩, fun ⟨c, h⟩ => ⟨c, ?_, h⟩⟩))
    have := B_lt h.1
    omega
  | succ k ih =>
    intro fu acc R i hf hi hR hA
    obtain ⟨n, rfl⟩ : ∃ n, fu = n + 1 := ⟨fu - 1, by omega⟩
    rw [f_X0_turned_19]
    refine Ok.ite (fun h0 => ?_) (fun h0 => ?_)
    · refine Ok.some (fun j => (hA j).trans ⟨fun ⟨c, _, h⟩ => ⟨c, h⟩, fun ⟨c, h⟩ => ⟨c, ?_, h⟩⟩)
      by_cases q : c < i
      · exact q
      · have := hR c
        rw [h0, B_0, h.1] at this
        simp at this
        omega
    · obtain ⟨m, h1, h2, h3, h4, h5, h6⟩ := low_rest hR h0
      refine Ok.bindE h5 (Ok.bindE (t39_ok (by omega) ht h2) (ih n _ _ (m + 1) (by omega) (by omega) h6 ?_))
      intro j
      rw [B_set acc (tcell_lt t m), Bool.or_eq_true, decide_eq_true_eq, hA]
      constructor
      · rintro (⟨c, hc, h⟩ | h)
        · exact ⟨c, by omega, h⟩
        · exact ⟨m, by omega, h3, h.symm⟩
      · rintro ⟨c, hc, h⟩
        by_cases q : c = m
        · subst q; exact Or.inr h.2.symm
        · by_cases q2 : c < i
          · exact Or.inl ⟨c, q2, h⟩
          · have := h4 c (by omega) (by omega)
            rw [this] at h
            cases h.1
theorem turnedE {fu t : Nat} (hf : 80 ≤ fu) (ht : t < 48) (S : Int64) : Ok (f_X0_turned fu S (nI t)) (Img (tcell t) S) := by
  unfold f_X0_turned
  refine Ok.bind (t19_ok ht 64 fu 0 S 0 (by omega) (by omega) (fun c => by simp) (fun j => ?_)) (fun r h => Ok.some h)
  rw [B_0]
  constructor
  · intro h; cases h
  · rintro ⟨c, h, _⟩; omega
/-- the set turned -/
def trn (S : Int64) (t : Nat) : Int64 := ((f_X0_turned 80 S (nI t)).getD 0)
theorem trn_img {t : Nat} (ht : t < 48) (S : Int64) : Img (tcell t) S (trn S t) := by
  obtain ⟨r, e, h⟩ := turnedE (Nat.le_refl 80) ht S
  unfold trn
  rw [e]
  exact h
theorem turned_ok {fu t : Nat} (hf : 80 ≤ fu) (ht : t < 48) (S : Int64) : f_X0_turned fu S (nI t) = some (trn S t) := by
  obtain ⟨r, e, h⟩ := turnedE hf ht S
  rw [e, h.uniq (trn_img ht S)]
theorem trn_ne {t : Nat} (ht : t < 48) {S : Int64} (h : S ≠ 0) : trn S t ≠ 0 := by
  obtain ⟨c, _, hc⟩ := B_ne.1 h
  have := (trn_img ht S (tcell t c)).2 ⟨c, hc, rfl⟩
  exact B_ne.2 ⟨_, B_lt this, this⟩
/-- a shape: the set turned, settled -/
def shp1 (S : Int64) (t : Nat) : Int64 := st (trn S t)
def Mn (S : Int64) (g : Nat → Nat) (i m : Nat) : Prop := m ≤ 3 ∧ (∀ c, c < i → B S c = true → m ≤ g c) ∧ (m = 3 ∨ ∃ c, c < i ∧ B S c = true ∧ g c = m)
theorem Mn.skip {S : Int64} {g : Nat → Nat} {i m : Nat} (h : Mn S g i m) (hb : B S i = false) : Mn S g (i + 1) m := by
  refine ⟨h.1, fun c hc hB => ?_, h.2.2.imp_right (fun ⟨c, hc, q⟩ => ⟨c, by omega, q⟩)⟩
  by_cases q : c = i
  · subst q; rw [hb] at hB; cases hB
  · exact h.2.1 c (by omega) hB
theorem Mn.take {S : Int64} {g : Nat → Nat} {i m : Nat} (h : Mn S g i m) (hb : B S i = true) (hg : g i < 4) : Mn S g (i + 1) (if m ≤ g i then m else g i) := by
  have h1 := h.1
  refine ⟨by split <;> omega, fun c hc hB => ?_, ?_⟩
  · by_cases q : c = i
    · subst q; split <;> omega
    · have := h.2.1 c (by omega) hB
      split <;> omega
  · split
    · exact h.2.2.imp_right (fun ⟨c, hc, q⟩ => ⟨c, by omega, q⟩)
    · exact Or.inr ⟨i, by omega, hb, rfl⟩
theorem Mn.fin {S T : Int64} {t a m : Nat} (ha : a < 3) (hT : Img (tcell t) S T) (h : Mn S (tco t a) 64 m) : m = lo T a := by
  have e : ∀ c, co a (tcell t c) = tco t a c := by
    intro c
    have := tcell_co t c
    match a, ha with
    | 0, _ => exact this.1
    | 1, _ => exact this.2.1
    | 2, _ => exact this.2.2
  have low : ∀ j, B T j = true → m ≤ co a j := by
    intro j hj
    obtain ⟨c, hc, rfl⟩ := (hT j).1 hj
    rw [e]
    exact h.2.1 c (B_lt hc) hc
  by_cases h0 : T = 0
  · have hS : ∀ c, B S c = false := by
      intro c
      cases hc : B S c
      · rfl
      · have := (hT _).2 ⟨c, hc, rfl⟩
        rw [h0, B_0] at this
        cases this
    rcases h.2.2 with q | ⟨c, _, q, _⟩
    · have hh : ∀ k, hasAt T a k = false := fun k => hasAt_f.2 (fun c hc => by rw [h0, B_0] at hc; cases hc)
      unfold lo
      simp [hh, q]
    · rw [hS c] at q; cases q
  · rcases h.2.2 with q | ⟨c, _, q, q2⟩
    · obtain ⟨j, _, hj, ej⟩ := lo_at a h0
      have h1 := low j hj
      have h2 := lo_lt T a
      omega
    · exact (lo_eq low ⟨tcell t c, (hT _).2 ⟨c, q, rfl⟩, by rw [e, q2]⟩).symm
theorem t49_ok {S : Int64} {t : Nat} {l3 l4 l5 l6 : Int32} (h0 : ∀ c, c < 64 → f_X7_axis (nI c) l4 (if (l3 &&& 1) = 1 then 1 else 0) = some (nI (tco t 0 c))) (h1 : ∀ c, c < 64 → f_X7_axis (nI c) l5 (if (l3 &&& 2) = 2 then 1 else 0) = some (nI (tco t 1 c))) (h2 : ∀ c, c < 64 → f_X7_axis (nI c) l6 (if (l3 &&& 4) = 4 then 1 else 0) = some (nI (tco t 2 c))) : ∀ k fu i m0 m1 m2, k < fu → k + i = 64 → Mn S (tco t 0) i m0 → Mn S (tco t 1) i m1 → Mn S (tco t 2) i m2 → Ok (f_X7_turned_49 S l3 l4 l5 l6 fu (nI m0) (nI m1) (nI m2) (nI i)) (fun q => ∃ m0 m1 m2, q = (nI m0, nI m1, nI m2) ∧ Mn S (tco t 0) 64 m0 ∧ Mn S (tco t 1) 64 m1 ∧ Mn S (tco t 2) 64 m2) := by
  intro k
  induction k with
  | zero =>
    intro fu i m0 m1 m2 hf hi g0 g1 g2
    obtain ⟨n, rfl⟩ : ∃ n, fu = n + 1 := ⟨fu - 1, by omega⟩
    have : i = 64 := by omega
    subst this
    rw [f_X7_turned_49]
    exact Ok.pos (by decide +kernel) (Ok.some ⟨m0, m1, m2, rfl, g0, g1, g2⟩)
  | succ k ih =>
    intro fu i m0 m1 m2 hf hi g0 g1 g2
    obtain ⟨n, rfl⟩ : ∃ n, fu = n + 1 := ⟨fu - 1, by omega⟩
    have hi64 : i < 64 := by omega
    rw [f_X7_turned_49]
    refine Ok.neg (by rw [show (64 : Int32) = nI 64 from rfl, le_n (by decide) (by omega)]; omega) (Ok.bindE (has_ok S hi64) (Ok.ite (fun h => ?_) (fun h => ?_)))
    · rw [bI_0] at h
      rw [show nI i + 1 = nI (i + 1) from nI_1 i]
      exact ih n (i + 1) m0 m1 m2 (by omega) (by omega) (g0.skip h) (g1.skip h) (g2.skip h)
    · rw [bI_n0] at h
      refine Ok.bindE (h0 i hi64) (Ok.bindE (h1 i hi64) (Ok.bindE (h2 i hi64) ?_))
      have e : ∀ m a, m ≤ 3 → (if nI m ≤ nI (tco t a i) then nI m else nI (tco t a i)) = nI (if m ≤ tco t a i then m else tco t a i) := by
        intro m a hm
        have := tco_lt t a i
        by_cases q : m ≤ tco t a i
        · rw [if_pos ((nI_leI (by omega) (by omega)).2 q), if_pos q]
        · rw [if_neg (fun z => q ((nI_leI (by omega) (by omega)).1 z)), if_neg q]
      rw [e m0 0 g0.1, e m1 1 g1.1, e m2 2 g2.1, show nI i + 1 = nI (i + 1) from nI_1 i]
      exact ih n (i + 1) _ _ _ (by omega) (by omega) (g0.take h (tco_lt _ _ _)) (g1.take h (tco_lt _ _ _)) (g2.take h (tco_lt _ _ _))
theorem t191_ok {S T : Int64} {t : Nat} (hT : Img (tcell t) S T) {l3 l4 l5 l6 : Int32} (h0 : ∀ c, c < 64 → f_X7_axis (nI c) l4 (if (l3 &&& 1) = 1 then 1 else 0) = some (nI (tco t 0 c))) (h1 : ∀ c, c < 64 → f_X7_axis (nI c) l5 (if (l3 &&& 2) = 2 then 1 else 0) = some (nI (tco t 1 c))) (h2 : ∀ c, c < 64 → f_X7_axis (nI c) l6 (if (l3 &&& 4) = 4 then 1 else 0) = some (nI (tco t 2 c))) : ∀ k fu i acc, k < fu → k + i = 64 → (∀ j, B acc j = true ↔ ∃ c, c < i ∧ B S c = true ∧ tcell t c = j + off T) → Ok (f_X7_turned_191 S l3 l4 l5 l6 (nI (lo T 0)) (nI (lo T 1)) (nI (lo T 2)) fu acc (nI i)) (fun q => q = st T) := by
  intro k
  induction k with
  | zero =>
    intro fu i acc hf hi hA
    obtain ⟨n, rfl⟩ : ∃ n, fu = n + 1 := ⟨fu - 1, by omega⟩
    have : i = 64 := by omega
    subst this
    rw [f_X7_turned_191]
    refine Ok.pos (by decide +kernel) (Ok.some (Sub.eq (fun j hj => ?_) (fun j hj => ?_)))
    · obtain ⟨c, _, h1, h2⟩ := (hA j).1 hj
      rw [st_B, ← h2]
      exact (hT _).2 ⟨c, h1, rfl⟩
    · rw [st_B] at hj
      obtain ⟨c, h1, h2⟩ := (hT _).1 hj
      exact (hA j).2 ⟨c, B_lt h1, h1, h2⟩
  | succ k ih =>
    intro fu i acc hf hi hA
    obtain ⟨n, rfl⟩ : ∃ n, fu = n + 1 := ⟨fu - 1, by omega⟩
    have hi64 : i < 64 := by omega
    rw [f_X7_turned_191]
    refine Ok.neg (by rw [show (64 : Int32) = nI 64 from rfl, le_n (by decide) (by omega)]; omega) (Ok.bindE (has_ok S hi64) (Ok.ite (fun h => ?_) (fun h => ?_)))
    · rw [bI_0] at h
      rw [show nI i + 1 = nI (i + 1) from nI_1 i]
      refine ih n (i + 1) acc (by omega) (by omega) (fun j => (hA j).trans ⟨fun ⟨c, hc, q⟩ => ⟨c, by omega, q⟩, fun ⟨c, hc, q⟩ => ⟨c, ?_, q⟩⟩)
      by_cases e : c = i
      · subst e; rw [h] at q; cases q.1
      · omega
    · rw [bI_n0] at h
      refine Ok.bindE (h0 i hi64) (Ok.bindE (h1 i hi64) (Ok.bindE (h2 i hi64) ?_))
      have hB : B T (tcell t i) = true := (hT _).2 ⟨i, h, rfl⟩
      have hl0 := lo_le (a := 0) hB
      have hl1 := lo_le (a := 1) hB
      have hl2 := lo_le (a := 2) hB
      have hc := tcell_co t i
      rw [hc.1] at hl0
      rw [hc.2.1] at hl1
      rw [hc.2.2] at hl2
      have b0 := tco_lt t 0 i
      have b1 := tco_lt t 1 i
      have b2 := tco_lt t 2 i
      rw [sb_n hl0, sb_n hl1, sb_n hl2, show (4 : Int32) = nI 4 from rfl, show (16 : Int32) = nI 16 from rfl, pk_mul, pk_mul, nI_add, nI_add, show nI i + 1 = nI (i + 1) from nI_1 i]
      have ho : tco t 0 i - lo T 0 + 4 * (tco t 1 i - lo T 1) + 16 * (tco t 2 i - lo T 2) + off T = tcell t i := by
        unfold off tcell
        omega
      refine ih n (i + 1) _ (by omega) (by omega) (fun j => ?_)
      rw [B_set acc (by omega), Bool.or_eq_true, decide_eq_true_eq, hA]
      constructor
      · rintro (⟨c, hc, q⟩ | q)
        · exact ⟨c, by omega, q⟩
        · exact ⟨i, by omega, h, by omega⟩
      · rintro ⟨c, hc, q⟩
        by_cases e : c = i
        · subst e; exact Or.inr (by omega)
        · exact Or.inl ⟨c, by omega, q⟩
theorem rturn_core {fu : Nat} (hf : 70 ≤ fu) {S : Int64} {t : Nat} (ht : t < 48) {l3 l4 l5 l6 : Int32} (h0 : ∀ c, c < 64 → f_X7_axis (nI c) l4 (if (l3 &&& 1) = 1 then 1 else 0) = some (nI (tco t 0 c))) (h1 : ∀ c, c < 64 → f_X7_axis (nI c) l5 (if (l3 &&& 2) = 2 then 1 else 0) = some (nI (tco t 1 c))) (h2 : ∀ c, c < 64 → f_X7_axis (nI c) l6 (if (l3 &&& 4) = 4 then 1 else 0) = some (nI (tco t 2 c))) : ((f_X7_turned_49 S l3 l4 l5 l6 fu 3 3 3 0).bind fun q => ((f_X7_turned_191 S l3 l4 l5 l6 q.1 q.2.1 q.2.2 fu 0 0).bind fun q => some q)) = some (shp1 S t) := by
  have hT := trn_img ht S
  apply Ok.eq
  have m3 : ∀ a, Mn S (tco t a) 0 3 := fun a => ⟨Nat.le_refl _, fun c hc => absurd hc (by omega), Or.inl rfl⟩
  refine Ok.bind (t49_ok h0 h1 h2 64 fu 0 3 3 3 (by omega) (by omega) (m3 0) (m3 1) (m3 2)) ?_
  rintro q ⟨m0, m1, m2, rfl, g0, g1, g2⟩
  rw [g0.fin (by decide) hT, g1.fin (by decide) hT, g2.fin (by decide) hT]
  refine Ok.bind (t191_ok hT h0 h1 h2 64 fu 0 0 (by omega) (by omega) (fun j => ?_)) (fun r h => Ok.some h)
  rw [B_0]
  constructor
  · intro h; cases h
  · rintro ⟨c, h, _⟩; omega
/-- the class's turn that is the reference's row and signs -/
def tOf (r s : Nat) : Nat := [0, 3, 1, 5, 2, 4].getD r 0 * 8 + s
theorem tOf_lt : ∀ r, r < 6 → ∀ s, s < 8 → tOf r s < 48 := by decide +kernel
def ax1 (r : Nat) : Int32 := if (nI r - nI r / 2 * 2) = 0 then ((nI r / 2 + 1) - (nI r / 2 + 1) / 3 * 3) else ((nI r / 2 + 2) - (nI r / 2 + 2) / 3 * 3)
theorem axis0 : ∀ r, r < 6 → ∀ s, s < 8 → ∀ c, c < 64 → f_X7_axis (nI c) (nI r / 2) (if (nI s &&& 1) = 1 then 1 else 0) = some (nI (tco (tOf r s) 0 c)) := by decide +kernel
theorem axis1 : ∀ r, r < 6 → ∀ s, s < 8 → ∀ c, c < 64 → f_X7_axis (nI c) (ax1 r) (if (nI s &&& 2) = 2 then 1 else 0) = some (nI (tco (tOf r s) 1 c)) := by decide +kernel
theorem axis2 : ∀ r, r < 6 → ∀ s, s < 8 → ∀ c, c < 64 → f_X7_axis (nI c) ((3 - (nI r / 2)) - ax1 r) (if (nI s &&& 4) = 4 then 1 else 0) = some (nI (tco (tOf r s) 2 c)) := by decide +kernel
theorem rturned_ok {fu r s : Nat} (hf : 70 ≤ fu) (hr : r < 6) (hs : s < 8) (S : Int64) : f_X7_turned fu S (nI r) (nI s) = some (shp1 S (tOf r s)) := by
  have key := rturn_core hf (S := S) (tOf_lt r hr s hs) (axis0 r hr s hs) (axis1 r hr s hs) (axis2 r hr s hs)
  unfold f_X7_turned
  by_cases h : (nI r - nI r / 2 * 2) = 0
  · rw [if_pos h]
    unfold ax1 at key
    rw [if_pos h] at key
    exact key
  · rw [if_neg h]
    unfold ax1 at key
    rw [if_neg h] at key
    exact key
/-- does a turn change the hand -/
def mir (t : Nat) : Bool := decide (3 ≤ t / 8) != decide ((t % 2 + t / 2 % 2 + t / 4 % 2) % 2 = 1)
theorem mirrors_ok : ∀ t, t < 48 → f_X0_mirrors (nI t) = some (bI (mir t)) := by decide +kernel
theorem flips_ok : ∀ r, r < 6 → ∀ s, s < 8 → ((((((nI r - nI r / 2 * 2) + (nI s &&& 1)) + ((nI s >>> ((1 : Int32) &&& 31)) &&& 1)) + (nI s >>> ((2 : Int32) &&& 31))) - ((((nI r - nI r / 2 * 2) + (nI s &&& 1)) + ((nI s >>> ((1 : Int32) &&& 31)) &&& 1)) + (nI s >>> ((2 : Int32) &&& 31))) / 2 * 2) = 0 ↔ mir (tOf r s) = false) := by decide +kernel
theorem tOf_on : ∀ t, t < 48 → ∃ r, r < 6 ∧ ∃ s, s < 8 ∧ tOf r s = t := by decide +kernel
