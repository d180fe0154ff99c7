/-! the reference's cubes, and whether they meet -/
def CubP (x : Int64) (cub : Nat → Int32) (p m i : Nat) : Prop := (∀ c, c < m → ∃ y, y < i ∧ B x y = true ∧ ∀ a, a < 3 → cub ((p * 10 + c) * 3 + a) = nI (co a y)) ∧ (∀ y, y < i → B x y = true → ∃ c, c < m ∧ ∀ a, a < 3 → cub ((p * 10 + c) * 3 + a) = nI (co a y))
def CubOK (A : Nat → Int64) (cbs cub : Nat → Int32) : Prop := ∀ p, p < 6 → ∃ m, m ≤ 10 ∧ cbs p = nI m ∧ CubP (A p) cub p m 64
theorem cntN_s (n i : Nat) : cntN n (i + 1) = cntN n i + (if n.testBit i then 1 else 0) := rfl
theorem cntN_up (n : Nat) {i : Nat} (h : i ≤ 64) : cntN n i ≤ cntN n 64 := by
  have := cntN_add n i (64 - i)
  rw [show i + (64 - i) = 64 by omega] at this
  omega
theorem pl128_ok {A : Nat → Int64} {p : Nat} (hp : p < 6) (hc : cnt (A p) ≤ 10) {cbs0 cub0 : Nat → Int32} : ∀ k fu i cbs cub, k < fu → k + i = 64 → cbs p = nI (cntN (uN (A p)) i) → (∀ j, j ≠ p → cbs j = cbs0 j) → (∀ j, j < p * 30 ∨ p * 30 + 30 ≤ j → cub j = cub0 j) → CubP (A p) cub p (cntN (uN (A p)) i) i → Ok (f_X7_plan_128 (nI p) A fu (nI i) cbs cub) (fun q => q.1 p = nI (cnt (A p)) ∧ (∀ j, j ≠ p → q.1 j = cbs0 j) ∧ (∀ j, j < p * 30 ∨ p * 30 + 30 ≤ j → q.2 j = cub0 j) ∧ CubP (A p) q.2 p (cnt (A p)) 64) := by
  intro k
  induction k with
  | zero =>
    intro fu i cbs cub hf hk h1 h2 h3 h4
    obtain ⟨w, rfl⟩ : ∃ w, fu = w + 1 := ⟨fu - 1, by omega⟩
    have : i = 64 := by omega
    subst this
    rw [f_X7_plan_128]
    exact Ok.pos (by decide +kernel) (Ok.some ⟨h1, h2, h3, h4⟩)
  | succ k ih =>
    intro fu i cbs cub hf hk h1 h2 h3 h4
    obtain ⟨w, rfl⟩ : ∃ w, fu = w + 1 := ⟨fu - 1, by omega⟩
    have hi : i < 64 := by omega
    have hcs := cntN_s (uN (A p)) i
    have hup := cntN_up (uN (A p)) (i := i + 1) (by omega)
    have hB : B (A p) i = (uN (A p)).testBit i := rfl
    obtain ⟨a0, a1, a2⟩ := co_args hi
    rw [f_X7_plan_128, show nI i + 1 = nI (i + 1) from nI_1 i, cl_n (by omega), a0, a1, a2]
    refine Ok.neg (nI_ge (b := 64) hi (by decide)) (Ok.pos (inB_n hp (by decide)) (Ok.bindE (has_ok (A p) hi) (Ok.ite (fun z => ?_) (fun z => ?_))))
    · rw [bI_0, hB] at z
      rw [z] at hcs
      have e : cntN (uN (A p)) (i + 1) = cntN (uN (A p)) i := by rw [hcs]; rfl
      refine ih w (i + 1) cbs cub (by omega) (by omega) (by rw [e]; exact h1) h2 h3 ?_
      rw [e]
      refine ⟨fun c hc => ?_, fun y hy hb => ?_⟩
      · obtain ⟨y, g1, g2⟩ := h4.1 c hc
        exact ⟨y, by omega, g2⟩
      · by_cases q : y = i
        · subst q; rw [hB, z] at hb; cases hb
        · exact h4.2 y (by omega) hb
    · rw [bI_n0, hB] at z
      rw [z] at hcs
      have e : cntN (uN (A p)) (i + 1) = cntN (uN (A p)) i + 1 := by rw [hcs]; rfl
      have hm : cntN (uN (A p)) i < 10 := by
        have : cntN (uN (A p)) 64 = cnt (A p) := rfl
        omega
      generalize hmm : cntN (uN (A p)) i = m at *
      have hidx : (nI p * 10 + nI m) * 3 = nI ((p * 10 + m) * 3) := by rw [show (10 : Int32) = nI 10 from rfl, show (3 : Int32) = nI 3 from rfl, pk_mul, nI_add, pk_mul]
      rw [h1, hidx, show (1 : Int32) = nI 1 from rfl, show (2 : Int32) = nI 2 from rfl, nI_add, nI_add, nI_add, cl_n (by omega), cl_n (by omega), cl_n (by omega)]
      refine Ok.pos (inB_n hp (by decide)) (Ok.pos (inB_n (by omega) (by decide)) (Ok.pos (inB_n (by omega) (by decide)) (Ok.pos (inB_n (by omega) (by decide)) (Ok.pos (inB_n hp (by decide)) (Ok.pos (inB_n hp (by decide)) (ih w (i + 1) _ _ (by omega) (by omega) ?_ (fun j hj => ?_) (fun j hj => ?_) ?_))))))
      · rw [e]; exact vu_s
      · rw [vu_n hj]; exact h2 j hj
      · rw [vu_n (by omega), vu_n (by omega), vu_n (by omega)]; exact h3 j hj
      · rw [e]
        have old : ∀ c a, c < m → a < 3 → va_up (va_up (va_up cub ((p * 10 + m) * 3) (nI (co 0 i))) ((p * 10 + m) * 3 + 1) (nI (co 1 i))) ((p * 10 + m) * 3 + 2) (nI (co 2 i)) ((p * 10 + c) * 3 + a) = cub ((p * 10 + c) * 3 + a) := by
          intro c a hc ha
          rw [vu_n (by omega), vu_n (by omega), vu_n (by omega)]
        have new : ∀ a, a < 3 → va_up (va_up (va_up cub ((p * 10 + m) * 3) (nI (co 0 i))) ((p * 10 + m) * 3 + 1) (nI (co 1 i))) ((p * 10 + m) * 3 + 2) (nI (co 2 i)) ((p * 10 + m) * 3 + a) = nI (co a i) := by
          intro a ha
          rcases lt3 ha with rfl | rfl | rfl
          · rw [vu_n (by omega), vu_n (by omega)]; exact vu_s
          · rw [vu_n (by omega), vu_s]
          · rw [vu_s]
        refine ⟨fun c hc => ?_, fun y hy hb => ?_⟩
        · by_cases q : c = m
          · subst q; exact ⟨i, by omega, z, new⟩
          · obtain ⟨y, g1, g2, g3⟩ := h4.1 c (by omega)
            exact ⟨y, by omega, g2, fun a ha => by rw [old c a (by omega) ha]; exact g3 a ha⟩
        · by_cases q : y = i
          · subst q; exact ⟨m, by omega, new⟩
          · obtain ⟨c, g1, g2⟩ := h4.2 y (by omega) hb
            exact ⟨c, by omega, fun a ha => by rw [old c a g1 ha]; exact g2 a ha⟩
theorem pl110_ok {A : Nat → Int64} (hc : ∀ p, p < 6 → cnt (A p) ≤ 10) : ∀ k fu i cbs cub, 100 + k < fu → k + i = 6 → (∀ p, p < i → cbs p = nI (cnt (A p)) ∧ CubP (A p) cub p (cnt (A p)) 64) → Ok (f_X7_plan_110 A fu (nI i) cbs cub) (fun q => CubOK A q.1 q.2) := by
  intro k
  induction k with
  | zero =>
    intro fu i cbs cub hf hk h
    obtain ⟨w, rfl⟩ : ∃ w, fu = w + 1 := ⟨fu - 1, by omega⟩
    have : i = 6 := by omega
    subst this
    rw [f_X7_plan_110]
    exact Ok.pos (by decide +kernel) (Ok.some (fun p hp => ⟨_, hc p hp, (h p hp).1, (h p hp).2⟩))
  | succ k ih =>
    intro fu i cbs cub hf hk h
    obtain ⟨w, rfl⟩ : ∃ w, fu = w + 1 := ⟨fu - 1, by omega⟩
    have hi : i < 6 := by omega
    rw [f_X7_plan_110, show nI i + 1 = nI (i + 1) from nI_1 i, cl_n (by omega)]
    refine Ok.neg (nI_ge (b := 6) hi (by decide)) (Ok.pos (inB_n hi (by decide)) (Ok.bind (pl128_ok hi (hc i hi) (cbs0 := cbs) (cub0 := cub) 64 w 0 _ cub (by omega) (by omega) vu_s (fun j hj => vu_n hj) (fun j hj => rfl) ⟨fun c hc => absurd hc (Nat.not_lt_zero c), fun y hy => absurd hy (by omega)⟩) ?_))
    rintro q ⟨h1, h2, h3, h4⟩
    refine ih w (i + 1) _ _ (by omega) (by omega) (fun p hp => ?_)
    by_cases z : p = i
    · subst z; exact ⟨h1, h4⟩
    · obtain ⟨g1, g2⟩ := h p (by omega)
      have hcp := hc p (by omega)
      refine ⟨by rw [h2 p z]; exact g1, fun c hc => ?_, fun y hy hb => ?_⟩
      · obtain ⟨y, k1, k2, k3⟩ := g2.1 c hc
        exact ⟨y, k1, k2, fun a ha => by rw [h3 _ (Or.inl (by omega))]; exact k3 a ha⟩
      · obtain ⟨c, k1, k2⟩ := g2.2 y hy hb
        exact ⟨c, k1, fun a ha => by rw [h3 _ (Or.inl (by omega))]; exact k2 a ha⟩
/-- where a cube is now -/
def cv (cub wrk : Nat → Int32) (p c a : Nat) : Int32 := cub ((p * 10 + c) * 3 + a) + wrk (3 * p + a)
theorem at_ok (cub wrk : Nat → Int32) {p c a : Nat} (hp : p < 6) (hc : c < 10) (ha : a < 3) : f_X7_at cub wrk (nI p) (nI c) (nI a) = some (cv cub wrk p c a) := by
  unfold f_X7_at
  have e1 : (nI p * 10 + nI c) * 3 + nI a = nI ((p * 10 + c) * 3 + a) := by rw [show (10 : Int32) = nI 10 from rfl, show (3 : Int32) = nI 3 from rfl, pk_mul, nI_add, pk_mul, nI_add]
  have e2 : (3 : Int32) * nI p + nI a = nI (3 * p + a) := by rw [show (3 : Int32) = nI 3 from rfl, pk_mul, nI_add]
  rw [e1, e2, if_pos (inB_n (by omega) (by decide)), if_pos (inB_n (by omega) (by decide)), cl_n (by omega), cl_n (by omega)]
  rfl
def EQ3 (cub wrk : Nat → Int32) (p c q d : Nat) : Prop := cv cub wrk p c 0 = cv cub wrk q d 0 ∧ cv cub wrk p c 1 = cv cub wrk q d 1 ∧ cv cub wrk p c 2 = cv cub wrk q d 2
theorem h59_ok {cbs cub wrk : Nat → Int32} {p c q m : Nat} (hp : p < 6) (hc : c < 10) (hq : q < 6) (hm : m ≤ 10) (hq2 : cbs q = nI m) : ∀ k fu d, k < fu → k + d = m → (∀ d', d' < d → ¬ EQ3 cub wrk p c q d') → Ok (f_X7_hits_59 (nI p) (nI q) (nI c) cbs cub wrk fu (nI d)) (fun r => match r with | .inl z => z = 1 ∧ ∃ d, d < m ∧ EQ3 cub wrk p c q d | .inr _ => ∀ d, d < m → ¬ EQ3 cub wrk p c q d) := by
  intro k
  induction k with
  | zero =>
    intro fu d hf hk h
    obtain ⟨w, rfl⟩ : ∃ w, fu = w + 1 := ⟨fu - 1, by omega⟩
    have : d = m := by omega
    subst this
    rw [f_X7_hits_59, cl_n (by omega), hq2]
    exact Ok.pos (inB_n hq (by decide)) (Ok.pos (nI_le (Nat.le_refl _) (by omega)) (Ok.some h))
  | succ k ih =>
    intro fu d hf hk h
    obtain ⟨w, rfl⟩ : ∃ w, fu = w + 1 := ⟨fu - 1, by omega⟩
    rw [f_X7_hits_59, cl_n (by omega), hq2, show nI d + 1 = nI (d + 1) from nI_1 d]
    have go : ¬ EQ3 cub wrk p c q d → Ok (f_X7_hits_59 (nI p) (nI q) (nI c) cbs cub wrk w (nI (d + 1))) (fun r => match r with | .inl z => z = 1 ∧ ∃ d, d < m ∧ EQ3 cub wrk p c q d | .inr _ => ∀ d, d < m → ¬ EQ3 cub wrk p c q d) := by
      intro hn
      refine ih w (d + 1) (by omega) (by omega) (fun d' hd' => ?_)
      by_cases z : d' = d
      · subst z; exact hn
      · exact h d' (by omega)
    refine Ok.pos (inB_n hq (by decide)) (Ok.neg (nI_ge (by omega) (by omega)) (Ok.bindE (at_ok cub wrk (a := 0) hp hc (by decide)) (Ok.bindE (at_ok cub wrk (a := 0) hq (show d < 10 by omega) (by decide)) (Ok.ite (fun z0 => ?_) (fun z0 => go (fun z => z0 z.1))))))
    refine Ok.bindE (at_ok cub wrk (a := 1) hp hc (by decide)) (Ok.bindE (at_ok cub wrk (a := 1) hq (show d < 10 by omega) (by decide)) (Ok.ite (fun z1 => ?_) (fun z1 => go (fun z => z1 z.2.1))))
    refine Ok.bindE (at_ok cub wrk (a := 2) hp hc (by decide)) (Ok.bindE (at_ok cub wrk (a := 2) hq (show d < 10 by omega) (by decide)) (Ok.ite (fun z2 => ?_) (fun z2 => go (fun z => z2 z.2.2))))
    exact Ok.some ⟨rfl, d, by omega, z0, z1, z2⟩
theorem h45_ok {cbs cub wrk : Nat → Int32} {p q m mp : Nat} (hp : p < 6) (hq : q < 6) (hm : m ≤ 10) (hmp : mp ≤ 10) (hp2 : cbs p = nI mp) (hq2 : cbs q = nI m) : ∀ k fu c, 20 + k < fu → k + c = mp → (∀ c', c' < c → ∀ d, d < m → ¬ EQ3 cub wrk p c' q d) → Ok (f_X7_hits_45 (nI p) (nI q) cbs cub wrk fu (nI c)) (fun r => match r with | .inl z => z = 1 ∧ ∃ c d, c < mp ∧ d < m ∧ EQ3 cub wrk p c q d | .inr _ => ∀ c, c < mp → ∀ d, d < m → ¬ EQ3 cub wrk p c q d) := by
  intro k
  induction k with
  | zero =>
    intro fu c hf hk h
    obtain ⟨w, rfl⟩ : ∃ w, fu = w + 1 := ⟨fu - 1, by omega⟩
    have : c = mp := by omega
    subst this
    rw [f_X7_hits_45, cl_n (by omega), hp2]
    exact Ok.pos (inB_n hp (by decide)) (Ok.pos (nI_le (Nat.le_refl _) (by omega)) (Ok.some h))
  | succ k ih =>
    intro fu c hf hk h
    obtain ⟨w, rfl⟩ : ∃ w, fu = w + 1 := ⟨fu - 1, by omega⟩
    rw [f_X7_hits_45, cl_n (by omega), hp2, show nI c + 1 = nI (c + 1) from nI_1 c]
    refine Ok.pos (inB_n hp (by decide)) (Ok.neg (nI_ge (by omega) (by omega)) (Ok.sumB (Ok.mono (h59_ok hp (show c < 10 by omega) hq hm hq2 m w 0 (by omega) (by omega) (fun d' hd' => absurd hd' (by omega))) ?_)))
    intro r hr
    cases r with
    | inl z =>
      obtain ⟨z1, d, z2, z3⟩ := hr
      exact ⟨z1, c, d, by omega, z2, z3⟩
    | inr z =>
      refine ih w (c + 1) (by omega) (by omega) (fun c' hc' d hd => ?_)
      by_cases y : c' = c
      · subst y; exact hr d hd
      · exact h c' (by omega) d hd
/-- where all pieces are now -/
def RowW (wrk : Nat → Int32) (ω : Nat → Nat → Int) : Prop := ∀ p, p < 6 → ∀ a, a < 3 → wrk (3 * p + a) = iI (ω p a)
theorem cv_i {cub wrk : Nat → Int32} {ω : Nat → Nat → Int} (h : RowW wrk ω) {p c a y : Nat} (hp : p < 6) (ha : a < 3) (hy : cub ((p * 10 + c) * 3 + a) = nI (co a y)) : cv cub wrk p c a = iI ((co a y : Int) + ω p a) := by
  unfold cv
  rw [hy, h p hp a ha, iI_n, iI_add]
theorem eq3_PH {A : Nat → Int64} {cub wrk : Nat → Int32} {ω : Nat → Nat → Int} (h : RowW wrk ω) (hb : Bd 10000 ω) {p q mp mq : Nat} (hp : p < 6) (hq : q < 6) (c1 : CubP (A p) cub p mp 64) (c2 : CubP (A q) cub q mq 64) : (∃ c d, c < mp ∧ d < mq ∧ EQ3 cub wrk p c q d) ↔ PH (A p) (A q) (gp ω p q) := by
  have one : ∀ a, a < 3 → ∀ y z, ((iI ((co a y : Int) + ω p a) = iI ((co a z : Int) + ω q a)) ↔ (co a y : Int) + gp ω p q a = co a z) := by
    intro a ha y z
    have b1 := hb p hp a ha
    have b2 := hb q hq a ha
    have := co_lt a y
    have := co_lt a z
    rw [iI_eq (by omega) (by omega) (by omega) (by omega)]
    unfold gp
    omega
  constructor
  · rintro ⟨c, d, hc, hd, e0, e1, e2⟩
    obtain ⟨y, _, y1, y2⟩ := c1.1 c hc
    obtain ⟨z, _, z1, z2⟩ := c2.1 d hd
    refine ⟨y, z, y1, z1, fun a ha => (one a ha y z).1 ?_⟩
    rw [← cv_i h hp ha (y2 a ha), ← cv_i h hq ha (z2 a ha)]
    rcases lt3 ha with rfl | rfl | rfl
    · exact e0
    · exact e1
    · exact e2
  · rintro ⟨y, z, y1, z1, hh⟩
    obtain ⟨c, hc, y2⟩ := c1.2 y (B_lt y1) y1
    obtain ⟨d, hd, z2⟩ := c2.2 z (B_lt z1) z1
    have e : ∀ a, a < 3 → cv cub wrk p c a = cv cub wrk q d a := by
      intro a ha
      rw [cv_i h hp ha (y2 a ha), cv_i h hq ha (z2 a ha)]
      exact (one a ha y z).2 (hh a ha)
    exact ⟨c, d, hc, hd, e 0 (by decide), e 1 (by decide), e 2 (by decide)⟩
theorem h11_ok {A : Nat → Int64} {cbs cub wrk : Nat → Int32} {ω : Nat → Nat → Int} (hC : CubOK A cbs cub) (h : RowW wrk ω) (hb : Bd 10000 ω) {P G p : Nat} (hP : P < 64) (hG : G < 64) (hp : p < 6) : ∀ k fu q, 40 + k < fu → k + q = 6 → (∀ q', q' < q → ¬ (G.testBit p = true ∧ P.testBit q' = true ∧ G.testBit q' = false ∧ PH (A p) (A q') (gp ω p q'))) → Ok (f_X7_hits_11 (nI P) (nI G) (nI p) cbs cub wrk fu (nI q)) (fun r => match r with | .inl z => z = 1 ∧ ∃ q, q < 6 ∧ G.testBit p = true ∧ P.testBit q = true ∧ G.testBit q = false ∧ PH (A p) (A q) (gp ω p q) | .inr _ => ∀ q, q < 6 → ¬ (G.testBit p = true ∧ P.testBit q = true ∧ G.testBit q = false ∧ PH (A p) (A q) (gp ω p q))) := by
  intro k
  induction k with
  | zero =>
    intro fu q hf hk hn
    obtain ⟨w, rfl⟩ : ∃ w, fu = w + 1 := ⟨fu - 1, by omega⟩
    have : q = 6 := by omega
    subst this
    rw [f_X7_hits_11]
    exact Ok.pos (by decide +kernel) (Ok.some hn)
  | succ k ih =>
    intro fu q hf hk hn
    obtain ⟨w, rfl⟩ : ∃ w, fu = w + 1 := ⟨fu - 1, by omega⟩
    have hq : q < 6 := by omega
    obtain ⟨e1, e2⟩ := rest_i P hP G hG
    rw [f_X7_hits_11, e1, show nI q + 1 = nI (q + 1) from nI_1 q]
    have go : ¬ (G.testBit p = true ∧ P.testBit q = true ∧ G.testBit q = false ∧ PH (A p) (A q) (gp ω p q)) → Ok (f_X7_hits_11 (nI P) (nI G) (nI p) cbs cub wrk w (nI (q + 1))) (fun r => match r with | .inl z => z = 1 ∧ ∃ q, q < 6 ∧ G.testBit p = true ∧ P.testBit q = true ∧ G.testBit q = false ∧ PH (A p) (A q) (gp ω p q) | .inr _ => ∀ q, q < 6 → ¬ (G.testBit p = true ∧ P.testBit q = true ∧ G.testBit q = false ∧ PH (A p) (A q) (gp ω p q))) := by
      intro hx
      refine ih w (q + 1) (by omega) (by omega) (fun q' hq' => ?_)
      by_cases z : q' = q
      · subst z; exact hx
      · exact hn q' (by omega)
    refine Ok.neg (nI_ge (b := 6) hq (by decide)) (Ok.ite (fun z => ?_) (fun z => Ok.ite (fun y => ?_) (fun y => ?_)))
    · rw [bit1 G hG p hp] at z
      exact go (fun x => by rw [z] at x; cases x.1)
    · rw [bit1 _ e2 q hq, rest_b P hP G hG q hq] at y
      exact go (fun x => by rw [x.2.1, x.2.2.1] at y; cases y)
    · rw [bit1 G hG p hp, Bool.not_eq_false] at z
      rw [bit1 _ e2 q hq, rest_b P hP G hG q hq, Bool.not_eq_false, Bool.and_eq_true, Bool.not_eq_true'] at y
      obtain ⟨mp, k1, k2, k3⟩ := hC p hp
      obtain ⟨mq, j1, j2, j3⟩ := hC q hq
      have hiff := eq3_PH h hb hp hq k3 j3
      refine Ok.sumB (Ok.mono (h45_ok hp hq j1 k1 k2 j2 mp w 0 (by omega) (by omega) (fun c' hc' => absurd hc' (by omega))) ?_)
      intro r hr
      cases r with
      | inl x => exact ⟨hr.1, q, hq, z, y.1, y.2, hiff.1 hr.2⟩
      | inr x =>
        refine go (fun u => ?_)
        obtain ⟨c, d, u1, u2, u3⟩ := hiff.2 u.2.2.2
        exact hr c u1 d u2 u3
theorem hits_ok {fu : Nat} (hf : 100 ≤ fu) {A : Nat → Int64} {cbs cub wrk : Nat → Int32} {ω : Nat → Nat → Int} (hC : CubOK A cbs cub) (h : RowW wrk ω) (hb : Bd 10000 ω) {P G : Nat} (hP : P < 64) (hG : G < 64) : Ok (f_X7_hits fu cbs cub wrk (nI P) (nI G)) (fun r => (r = 1 ∧ Hit A P G ω) ∨ (r = 0 ∧ ¬ Hit A P G ω)) := by
  have loop : ∀ k fu p, 50 + k < fu → k + p = 6 → (∀ p', p' < p → ∀ q, q < 6 → ¬ (G.testBit p' = true ∧ P.testBit q = true ∧ G.testBit q = false ∧ PH (A p') (A q) (gp ω p' q))) → Ok (f_X7_hits_2 (nI P) (nI G) cbs cub wrk fu (nI p)) (fun r => match r with | .inl z => z = 1 ∧ Hit A P G ω | .inr _ => ¬ Hit A P G ω) := by
    intro k
    induction k with
    | zero =>
      intro fu p hf hk hn
      obtain ⟨w, rfl⟩ : ∃ w, fu = w + 1 := ⟨fu - 1, by omega⟩
      have : p = 6 := by omega
      subst this
      rw [f_X7_hits_2]
      refine Ok.pos (by decide +kernel) (Ok.some ?_)
      rintro ⟨p, q, hp, hq, z⟩
      exact hn p hp q hq z
    | succ k ih =>
      intro fu p hf hk hn
      obtain ⟨w, rfl⟩ : ∃ w, fu = w + 1 := ⟨fu - 1, by omega⟩
      have hp : p < 6 := by omega
      rw [f_X7_hits_2, show nI p + 1 = nI (p + 1) from nI_1 p]
      refine Ok.neg (nI_ge (b := 6) hp (by decide)) (Ok.sumB (Ok.mono (h11_ok hC h hb hP hG hp 6 w 0 (by omega) (by omega) (fun q' hq' => absurd hq' (by omega))) ?_))
      intro r hr
      cases r with
      | inl x =>
        obtain ⟨z1, q, z2, z3⟩ := hr
        exact ⟨z1, p, q, hp, z2, z3⟩
      | inr x =>
        refine ih w (p + 1) (by omega) (by omega) (fun p' hp' q hq => ?_)
        by_cases y : p' = p
        · subst y; exact hr q hq
        · exact hn p' (by omega) q hq
  unfold f_X7_hits
  refine Ok.sumB (Ok.mono (loop 6 fu 0 (by omega) (by omega) (fun p' hp' => absurd hp' (by omega))) ?_)
  intro r hr
  cases r with
  | inl x => exact Or.inl hr
  | inr x => exact Ok.some (Or.inr ⟨rfl, hr⟩)
