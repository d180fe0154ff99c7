/-! boxes around groups -/
def BxF (x : Int64) (l h : Nat → Int32) : Prop := ∀ a, a < 3 → l a = nI (lo x a) ∧ h a = nI (hi x a)
theorem fit2_ok {x : Int64} : ∀ k fu i l h, 10 + k < fu → k + i = 3 → (∀ a, a < i → l a = nI (lo x a) ∧ h a = nI (hi x a)) → Ok (f_X3_fit_2 x fu (nI i) l h) (fun q => BxF x q.1 q.2) := by
  intro k
  induction k with
  | zero =>
    intro fu i l h hf hk hl
    obtain ⟨w, rfl⟩ : ∃ w, fu = w + 1 := ⟨fu - 1, by omega⟩
    have : i = 3 := by omega
    subst this
    rw [f_X3_fit_2]
    exact Ok.pos (by decide +kernel) (Ok.some hl)
  | succ k ih =>
    intro fu i l h hf hk hl
    obtain ⟨w, rfl⟩ : ∃ w, fu = w + 1 := ⟨fu - 1, by omega⟩
    have hi3 : i < 3 := by omega
    rw [f_X3_fit_2, show nI i + 1 = nI (i + 1) from nI_1 i, cl_n (by omega)]
    refine Ok.neg (nI_ge (b := 3) hi3 (by decide)) (Ok.bindE (least_ok (by omega) x hi3) (Ok.pos (inB_n hi3 (by decide)) (Ok.bindE (greatest_ok (by omega) x hi3) (Ok.pos (inB_n hi3 (by decide)) (ih w (i + 1) _ _ (by omega) (by omega) (fun a ha => ?_))))))
    by_cases z : a = i
    · subst z; rw [vu_s, vu_s]; exact ⟨rfl, rfl⟩
    · rw [vu_n z, vu_n z]; exact hl a (by omega)
theorem fit_ok {fu : Nat} (hf : 20 ≤ fu) (x : Int64) (l h : Nat → Int32) : Ok (f_X3_fit fu l h x) (fun q => BxF x q.1 q.2.1) := by
  unfold f_X3_fit
  exact Ok.bind (fit2_ok 3 fu 0 l h (by omega) (by omega) (fun a ha => absurd ha (by omega))) (fun q hq => Ok.some hq)
/-- the box around those pieces that F says, an axis -/
def BxA (A : Nat → Int64) (σ : Nat → Nat → Int) (F : Nat → Prop) (a : Nat) (l h : Int32) : Prop := ∃ L H : Int, l = iI L ∧ h = iI H ∧ (∀ p, F p → L ≤ (lo (A p) a : Int) + σ p a ∧ (hi (A p) a : Int) + σ p a ≤ H) ∧ (∃ p, F p ∧ L = (lo (A p) a : Int) + σ p a) ∧ (∃ p, F p ∧ H = (hi (A p) a : Int) + σ p a)
def BxOK (A : Nat → Int64) (σ : Nat → Nat → Int) (F : Nat → Prop) (l h : Nat → Int32) (em : Int32) : Prop := (∀ p, F p → p < 6) ∧ ((em = 1 ∧ ∀ p, ¬ F p) ∨ (em = 0 ∧ ∀ a, a < 3 → BxA A σ F a (l a) (h a)))
theorem BxA.one {A : Nat → Int64} {σ : Nat → Nat → Int} {F : Nat → Prop} (hF : ∀ p, ¬ F p) (p a : Nat) : BxA A σ (fun q => F q ∨ q = p) a (iI ((lo (A p) a : Int) + σ p a)) (iI ((hi (A p) a : Int) + σ p a)) := by
  refine ⟨_, _, rfl, rfl, ?_, ⟨p, Or.inr rfl, rfl⟩, ⟨p, Or.inr rfl, rfl⟩⟩
  rintro q (h | rfl)
  · exact absurd h (hF q)
  · exact ⟨Int.le_refl _, Int.le_refl _⟩
theorem iI_min {x y : Int} (h1 : -2147483648 ≤ x) (h2 : x < 2147483648) (h3 : -2147483648 ≤ y) (h4 : y < 2147483648) : (if iI x < iI y then iI x else iI y) = iI (if x < y then x else y) := by
  by_cases z : x < y
  · rw [if_pos z, if_pos (by rw [iI_lt h1 h2 h3 h4]; exact z)]
  · rw [if_neg z, if_neg (by rw [iI_lt h1 h2 h3 h4]; exact z)]
theorem iI_max {x y : Int} (h1 : -2147483648 ≤ x) (h2 : x < 2147483648) (h3 : -2147483648 ≤ y) (h4 : y < 2147483648) : (if iI y < iI x then iI x else iI y) = iI (if y < x then x else y) := by
  by_cases z : y < x
  · rw [if_pos z, if_pos (by rw [iI_lt h3 h4 h1 h2]; exact z)]
  · rw [if_neg z, if_neg (by rw [iI_lt h3 h4 h1 h2]; exact z)]
theorem BxA.add {A : Nat → Int64} {σ : Nat → Nat → Int} {F : Nat → Prop} {a : Nat} {l h : Int32} (hb : Bd 100 σ) (ha : a < 3) (hF6 : ∀ p, F p → p < 6) (hB : BxA A σ F a l h) {p : Nat} (hp : p < 6) : BxA A σ (fun q => F q ∨ q = p) a (if iI ((lo (A p) a : Int) + σ p a) < l then iI ((lo (A p) a : Int) + σ p a) else l) (if h < iI ((hi (A p) a : Int) + σ p a) then iI ((hi (A p) a : Int) + σ p a) else h) := by
  obtain ⟨L, H, rfl, rfl, h1, ⟨pl, h2, h3⟩, ⟨ph, h4, h5⟩⟩ := hB
  have b1 := hb p hp a ha
  have b2 := hb pl (hF6 _ h2) a ha
  have b3 := hb ph (hF6 _ h4) a ha
  have c1 := lo_lt (A p) a
  have c2 := hi_lt (A p) a
  have c3 := lo_lt (A pl) a
  have c4 := hi_lt (A ph) a
  rw [iI_min (by omega) (by omega) (by omega) (by omega), iI_max (by omega) (by omega) (by omega) (by omega)]
  refine ⟨if (lo (A p) a : Int) + σ p a < L then (lo (A p) a : Int) + σ p a else L, if H < (hi (A p) a : Int) + σ p a then (hi (A p) a : Int) + σ p a else H, rfl, rfl, ?_, ?_, ?_⟩
  · rintro q (hq | rfl)
    · have := h1 q hq
      constructor
      · split <;> omega
      · split <;> omega
    · constructor
      · split <;> omega
      · split <;> omega
  · split
    · exact ⟨p, Or.inr rfl, rfl⟩
    · exact ⟨pl, Or.inl h2, h3⟩
  · split
    · exact ⟨p, Or.inr rfl, rfl⟩
    · exact ⟨ph, Or.inl h4, h5⟩
theorem cover_ok {fu : Nat} (hf : 20 ≤ fu) {A : Nat → Int64} {at' : Nat → Int32} {s : Nat} {σ : Nat → Nat → Int} (hs : s ≤ 300) (h : RowC at' s σ) (hb : Bd 100 σ) {F : Nat → Prop} {l0 h0 l2 h2 : Nat → Int32} {em : Int32} {p : Nat} (hp : p < 6) (hx : BxF (A p) l2 h2) (hO : BxOK A σ F l0 h0 em) : Ok (f_X3_cover fu 5418 l0 h0 em l2 h2 at' (nI (s * 18 + p * 3))) (fun q => BxOK A σ (fun r => F r ∨ r = p) q.1 q.2.1 q.2.2) := by
  unfold f_X3_cover
  have loop : ∀ k fu i l h', k < fu → k + i = 3 → (∀ a, a < i → BxA A σ (fun r => F r ∨ r = p) a (l a) (h' a)) → (∀ a, i ≤ a → l a = l0 a ∧ h' a = h0 a) → Ok (f_X3_cover_3 5418 (nI (s * 18 + p * 3)) em l2 h2 at' fu (nI i) l h') (fun q => ∀ a, a < 3 → BxA A σ (fun r => F r ∨ r = p) a (q.1 a) (q.2 a)) := by
    intro k
    induction k with
    | zero =>
      intro fu i l h' hf hk hl hr
      obtain ⟨w, rfl⟩ : ∃ w, fu = w + 1 := ⟨fu - 1, by omega⟩
      have : i = 3 := by omega
      subst this
      rw [f_X3_cover_3]
      exact Ok.pos (by decide +kernel) (Ok.some hl)
    | succ k ih =>
      intro fu i l h' hf hk hl hr
      obtain ⟨w, rfl⟩ : ∃ w, fu = w + 1 := ⟨fu - 1, by omega⟩
      have hi3 : i < 3 := by omega
      have ei : inB (nI i) 3 = true := inB_n hi3 (by decide)
      have ei2 : inB (nI (s * 18 + p * 3 + i)) 5418 = true := inB_n (by omega) (by decide)
      obtain ⟨x1, x2⟩ := hx i hi3
      obtain ⟨r1, r2⟩ := hr i (Nat.le_refl _)
      have s1 : nI (lo (A p) i) + at' (s * 18 + p * 3 + i) = iI ((lo (A p) i : Int) + σ p i) := by rw [h p hp i hi3, iI_n, iI_add]
      have s2 : nI (hi (A p) i) + at' (s * 18 + p * 3 + i) = iI ((hi (A p) i : Int) + σ p i) := by rw [h p hp i hi3, iI_n, iI_add]
      rw [f_X3_cover_3]
      simp only [ei, ei2, if_true, nI_add, show nI i + 1 = nI (i + 1) from nI_1 i, cl_n (show i < 2147483648 by omega), cl_n (show s * 18 + p * 3 + i < 2147483648 by omega), x1, x2, r1, r2, s1, s2]
      refine Ok.neg (nI_ge (b := 3) hi3 (by decide)) ?_
      obtain ⟨hF6, hO⟩ := hO
      rcases hO with ⟨rfl, hO⟩ | ⟨rfl, hO⟩
      · refine Ok.neg (by decide) (Ok.neg (by decide) (ih w (i + 1) _ _ (by omega) (by omega) (fun a ha => ?_) (fun a ha => ?_)))
        · by_cases z : a = i
          · subst z; rw [vu_s, vu_s]; exact BxA.one hO p a
          · rw [vu_n z, vu_n z]; exact hl a (by omega)
        · rw [vu_n (by omega), vu_n (by omega)]; exact hr a (by omega)
      · refine Ok.pos rfl (Ok.pos rfl (ih w (i + 1) _ _ (by omega) (by omega) (fun a ha => ?_) (fun a ha => ?_)))
        · by_cases z : a = i
          · subst z; rw [vu_s, vu_s]; exact (hO a hi3).add hb hi3 hF6 hp
          · rw [vu_n z, vu_n z]; exact hl a (by omega)
        · rw [vu_n (by omega), vu_n (by omega)]; exact hr a (by omega)
  refine Ok.bind (loop 3 fu 0 l0 h0 (by omega) (by omega) (fun a ha => absurd ha (by omega)) (fun a _ => ⟨rfl, rfl⟩)) (fun q hq => Ok.some ⟨?_, Or.inr ⟨rfl, hq⟩⟩)
  rintro r (z | rfl)
  · exact hO.1 r z
  · exact hp
theorem BxOK.congr {A : Nat → Int64} {σ : Nat → Nat → Int} {F F' : Nat → Prop} {l h : Nat → Int32} {em : Int32} (hB : BxOK A σ F l h em) (hF : ∀ p, F p ↔ F' p) : BxOK A σ F' l h em := by
  have : F = F' := funext (fun p => propext (hF p))
  rw [← this]
  exact hB
theorem bit1 : ∀ P, P < 64 → ∀ p, p < 6 → ((nI P >>> (nI p &&& 31)) &&& (1 : Int32) = 0 ↔ P.testBit p = false) := by decide +kernel
theorem mb_ok {A : Nat → Int64} {at' : Nat → Int32} {s P G : Nat} (hP : P < 64) (hG : G < 64) {σ : Nat → Nat → Int} (hs : s ≤ 300) (h : RowC at' s σ) (hb : Bd 100 σ) {blo bhi : Nat → Nat → Int32} (hx : ∀ p, p < 6 → BxF (A p) (blo p) (bhi p)) : ∀ k fu i gl gh ge rl rh re, 30 + k < fu → k + i = 6 → BxOK A σ (fun p => p < i ∧ P.testBit p = true ∧ G.testBit p = true) gl gh ge → BxOK A σ (fun p => p < i ∧ P.testBit p = true ∧ G.testBit p = false) rl rh re → Ok (f_X5_measureBoxes_16 (nI s) (nI G) at' blo bhi (nI P) fu (nI i) gl gh ge rl rh re) (fun q => BxOK A σ (fun p => p < 6 ∧ P.testBit p = true ∧ G.testBit p = true) q.1 q.2.1 q.2.2.1 ∧ BxOK A σ (fun p => p < 6 ∧ P.testBit p = true ∧ G.testBit p = false) q.2.2.2.1 q.2.2.2.2.1 q.2.2.2.2.2) := by
  intro k
  induction k with
  | zero =>
    intro fu i gl gh ge rl rh re hf hk h1 h2
    obtain ⟨w, rfl⟩ : ∃ w, fu = w + 1 := ⟨fu - 1, by omega⟩
    have : i = 6 := by omega
    subst this
    rw [f_X5_measureBoxes_16]
    exact Ok.pos (by decide +kernel) (Ok.some ⟨h1, h2⟩)
  | succ k ih =>
    intro fu i gl gh ge rl rh re hf hk h1 h2
    obtain ⟨w, rfl⟩ : ∃ w, fu = w + 1 := ⟨fu - 1, by omega⟩
    have hi6 : i < 6 := by omega
    rw [f_X5_measureBoxes_16, show nI i + 1 = nI (i + 1) from nI_1 i, cl_n (by omega)]
    have hrow : f_X4_rowOf (nI s) (nI i) = some (nI (s * 18 + i * 3)) := by
      unfold f_X4_rowOf
      rw [show (18 : Int32) = nI 18 from rfl, show (3 : Int32) = nI 3 from rfl, pk_mul, pk_mul, nI_add]
    have same : ∀ {b : Bool} {l h' : Nat → Int32} {e : Int32}, ¬ (P.testBit i = true ∧ G.testBit i = b) → BxOK A σ (fun p => p < i ∧ P.testBit p = true ∧ G.testBit p = b) l h' e → BxOK A σ (fun p => p < i + 1 ∧ P.testBit p = true ∧ G.testBit p = b) l h' e := by
      intro b l h' e hn hB
      refine hB.congr (fun p => ⟨fun z => ⟨by omega, z.2⟩, fun z => ⟨?_, z.2⟩⟩)
      have : p ≠ i := by rintro rfl; exact hn z.2
      omega
    have more : ∀ {b : Bool} {l h' : Nat → Int32} {e : Int32}, P.testBit i = true → G.testBit i = b → BxOK A σ (fun r => (r < i ∧ P.testBit r = true ∧ G.testBit r = b) ∨ r = i) l h' e → BxOK A σ (fun p => p < i + 1 ∧ P.testBit p = true ∧ G.testBit p = b) l h' e := by
      intro b l h' e hn1 hn2 hB
      refine hB.congr (fun p => ⟨?_, fun z => ?_⟩)
      · rintro (z | rfl)
        · exact ⟨by omega, z.2⟩
        · exact ⟨by omega, hn1, hn2⟩
      · by_cases y : p = i
        · exact Or.inr y
        · exact Or.inl ⟨by omega, z.2⟩
    refine Ok.neg (nI_ge (b := 6) hi6 (by decide)) (Ok.ite (fun z => ?_) (fun z => Ok.ite (fun y => ?_) (fun y => ?_)))
    · rw [bit1 P hP i hi6] at z
      exact ih w (i + 1) _ _ _ _ _ _ (by omega) (by omega) (same (fun y => by rw [z] at y; cases y.1) h1) (same (fun y => by rw [z] at y; cases y.1) h2)
    · rw [bit1 P hP i hi6, Bool.not_eq_false] at z
      rw [bit1 G hG i hi6] at y
      refine Ok.pos (inB_n hi6 (by decide)) (Ok.bindE rfl (Ok.bindE hrow (Ok.pos (inB_n hi6 (by decide)) (Ok.bind (cover_ok (by omega) hs h hb hi6 (hx i hi6) h2) ?_))))
      intro q hq
      exact ih w (i + 1) _ _ _ _ _ _ (by omega) (by omega) (same (fun x => by rw [y] at x; cases x.2) h1) (more z y hq)
    · rw [bit1 P hP i hi6, Bool.not_eq_false] at z
      rw [bit1 G hG i hi6, Bool.not_eq_false] at y
      refine Ok.pos (inB_n hi6 (by decide)) (Ok.bindE rfl (Ok.bindE hrow (Ok.pos (inB_n hi6 (by decide)) (Ok.bind (cover_ok (by omega) hs h hb hi6 (hx i hi6) h1) ?_))))
      intro q hq
      exact ih w (i + 1) _ _ _ _ _ _ (by omega) (by omega) (more z y hq) (same (fun x => by rw [y] at x; cases x.2) h2)
/-- are a group and the rest of a part apart -/
def Ap (A : Nat → Int64) (P G : Nat) (σ : Nat → Nat → Int) : Prop := ∃ a, a < 3 ∧ ((∀ p q, p < 6 → q < 6 → P.testBit p = true → G.testBit p = true → P.testBit q = true → G.testBit q = false → (hi (A q) a : Int) + σ q a < (lo (A p) a : Int) + σ p a) ∨ (∀ p q, p < 6 → q < 6 → P.testBit p = true → G.testBit p = true → P.testBit q = true → G.testBit q = false → (hi (A p) a : Int) + σ p a < (lo (A q) a : Int) + σ q a))
def Bx2 (A : Nat → Int64) (P G : Nat) (σ : Nat → Nat → Int) (gl gh rl rh : Nat → Int32) : Prop := (∀ a, a < 3 → BxA A σ (fun p => p < 6 ∧ P.testBit p = true ∧ G.testBit p = true) a (gl a) (gh a)) ∧ (∀ a, a < 3 → BxA A σ (fun p => p < 6 ∧ P.testBit p = true ∧ G.testBit p = false) a (rl a) (rh a))
theorem measureBoxes_ok {fu : Nat} (hf : 100 ≤ fu) {A : Nat → Int64} {at' : Nat → Int32} {s P G : Nat} (hP : P < 64) (hG : G < 64) (hg : ∃ p, p < 6 ∧ P.testBit p = true ∧ G.testBit p = true) (hr : ∃ p, p < 6 ∧ P.testBit p = true ∧ G.testBit p = false) {σ : Nat → Nat → Int} (hs : s ≤ 300) (h : RowC at' s σ) (hb : Bd 100 σ) {blo bhi : Nat → Nat → Int32} (hx : ∀ p, p < 6 → BxF (A p) (blo p) (bhi p)) (gl gh rl rh : Nat → Int32) : Ok (f_X5_measureBoxes fu at' blo bhi gl gh rl rh (nI P) (nI s) (nI G)) (fun q => Bx2 A P G σ q.1 q.2.1 q.2.2.2.1 q.2.2.2.2.1) := by
  unfold f_X5_measureBoxes f_X3_clear
  refine Ok.bindE rfl (Ok.bindE rfl (Ok.bind (mb_ok hP hG hs h hb hx 6 fu 0 gl gh 1 rl rh 1 (by omega) (by omega) ⟨fun p z => absurd z.1 (by omega), Or.inl ⟨rfl, fun p z => absurd z.1 (by omega)⟩⟩ ⟨fun p z => absurd z.1 (by omega), Or.inl ⟨rfl, fun p z => absurd z.1 (by omega)⟩⟩) ?_))
  rintro q ⟨⟨_, h1⟩, ⟨_, h2⟩⟩
  obtain ⟨p, hp⟩ := hg
  obtain ⟨r, hr⟩ := hr
  rcases h1 with ⟨_, h1⟩ | ⟨_, h1⟩
  · exact absurd hp (h1 p)
  · rcases h2 with ⟨_, h2⟩ | ⟨_, h2⟩
    · exact absurd hr (h2 r)
    · exact Ok.some ⟨h1, h2⟩
theorem BxA.bd {A : Nat → Int64} {σ : Nat → Nat → Int} {F : Nat → Prop} {a : Nat} {L H : Int} (hb : Bd 100 σ) (ha : a < 3) (hF6 : ∀ p, F p → p < 6) (h1 : ∃ p, F p ∧ L = (lo (A p) a : Int) + σ p a) (h2 : ∃ p, F p ∧ H = (hi (A p) a : Int) + σ p a) : -200 ≤ L ∧ L ≤ 200 ∧ -200 ≤ H ∧ H ≤ 200 := by
  obtain ⟨p, f1, e1⟩ := h1
  obtain ⟨q, f2, e2⟩ := h2
  have b2 := hb p (hF6 _ f1) a ha
  have b3 := hb q (hF6 _ f2) a ha
  have c3 := lo_lt (A p) a
  have c4 := hi_lt (A q) a
  omega
theorem apart_ok {fu : Nat} (hf : 10 ≤ fu) {A : Nat → Int64} {P G ax : Nat} (hax : ax < 3) {σ : Nat → Nat → Int} (hb : Bd 100 σ) {gl gh rl rh : Nat → Int32} (h : Bx2 A P G σ gl gh rl rh) {by0 : Int} (hby : -10000 ≤ by0 ∧ by0 ≤ 10000) : Ok (f_X3_isApart fu gl gh rl rh (nI ax) (iI by0)) (fun r => (r = 1 ∧ Ap A P G (mvG σ G ax by0)) ∨ (r = 0 ∧ ¬ Ap A P G (mvG σ G ax by0))) := by
  unfold f_X3_isApart
  obtain ⟨hg, hr⟩ := h
  have one : ∀ a, a < 3 → ∃ gL gH rL rH : Int, gl a = iI gL ∧ gh a = iI gH ∧ rl a = iI rL ∧ rh a = iI rH ∧ -200 ≤ gL ∧ gL ≤ 200 ∧ -200 ≤ gH ∧ gH ≤ 200 ∧ -200 ≤ rL ∧ rL ≤ 200 ∧ -200 ≤ rH ∧ rH ≤ 200 ∧ ((∀ p q, p < 6 → q < 6 → P.testBit p = true → G.testBit p = true → P.testBit q = true → G.testBit q = false → (hi (A q) a : Int) + mvG σ G ax by0 q a < (lo (A p) a : Int) + mvG σ G ax by0 p a) ↔ rH < gL + (if a = ax then by0 else 0)) ∧ ((∀ p q, p < 6 → q < 6 → P.testBit p = true → G.testBit p = true → P.testBit q = true → G.testBit q = false → (hi (A p) a : Int) + mvG σ G ax by0 p a < (lo (A q) a : Int) + mvG σ G ax by0 q a) ↔ gH + (if a = ax then by0 else 0) < rL) := by
    intro a ha
    obtain ⟨gL, gH, e1, e2, g1, g2, g3⟩ := hg a ha
    obtain ⟨rL, rH, e3, e4, r1, r2, r3⟩ := hr a ha
    obtain ⟨n1, n2, n3, n4⟩ := BxA.bd hb ha (fun p z => z.1) g2 g3
    obtain ⟨m1, m2, m3, m4⟩ := BxA.bd hb ha (fun p z => z.1) r2 r3
    have mvg : ∀ p, G.testBit p = true → mvG σ G ax by0 p a = σ p a + (if a = ax then by0 else 0) := by
      intro p hp
      unfold mvG
      by_cases z : a = ax
      · rw [if_pos ⟨hp, z⟩, if_pos z]
      · rw [if_neg (fun y => z y.2), if_neg z, Int.add_zero]
    have mvr : ∀ q, G.testBit q = false → mvG σ G ax by0 q a = σ q a := by
      intro q hq
      unfold mvG
      rw [if_neg (fun y => by rw [hq] at y; cases y.1)]
    generalize hz : (if a = ax then by0 else 0) = z at *
    refine ⟨gL, gH, rL, rH, e1, e2, e3, e4, n1, n2, n3, n4, m1, m2, m3, m4, ?_, ?_⟩
    · constructor
      · intro hh
        obtain ⟨p, ⟨p1, p2, p3⟩, p4⟩ := g2
        obtain ⟨q, ⟨q1, q2, q3⟩, q4⟩ := r3
        have := hh p q p1 q1 p2 p3 q2 q3
        rw [mvg p p3, mvr q q3] at this
        omega
      · intro hh p q p1 q1 p2 p3 q2 q3
        rw [mvg p p3, mvr q q3]
        have := (g1 p ⟨p1, p2, p3⟩).1
        have := (r1 q ⟨q1, q2, q3⟩).2
        omega
    · constructor
      · intro hh
        obtain ⟨p, ⟨p1, p2, p3⟩, p4⟩ := g3
        obtain ⟨q, ⟨q1, q2, q3⟩, q4⟩ := r2
        have := hh p q p1 q1 p2 p3 q2 q3
        rw [mvg p p3, mvr q q3] at this
        omega
      · intro hh p q p1 q1 p2 p3 q2 q3
        rw [mvg p p3, mvr q q3]
        have := (g1 p ⟨p1, p2, p3⟩).2
        have := (r1 q ⟨q1, q2, q3⟩).1
        omega
  have loop : ∀ k fu i, k < fu → k + i = 3 → (∀ a, a < i → ¬ ((∀ p q, p < 6 → q < 6 → P.testBit p = true → G.testBit p = true → P.testBit q = true → G.testBit q = false → (hi (A q) a : Int) + mvG σ G ax by0 q a < (lo (A p) a : Int) + mvG σ G ax by0 p a) ∨ (∀ p q, p < 6 → q < 6 → P.testBit p = true → G.testBit p = true → P.testBit q = true → G.testBit q = false → (hi (A p) a : Int) + mvG σ G ax by0 p a < (lo (A q) a : Int) + mvG σ G ax by0 q a))) → Ok (f_X3_isApart_3 (nI ax) (iI by0) gl gh rl rh fu (nI i)) (fun r => match r with | .inl z => z = 1 ∧ Ap A P G (mvG σ G ax by0) | .inr _ => ¬ Ap A P G (mvG σ G ax by0)) := by
    intro k
    induction k with
    | zero =>
      intro fu i hf hk hn
      obtain ⟨w, rfl⟩ : ∃ w, fu = w + 1 := ⟨fu - 1, by omega⟩
      have : i = 3 := by omega
      subst this
      rw [f_X3_isApart_3]
      refine Ok.pos (by decide +kernel) (Ok.some ?_)
      rintro ⟨a, ha, z⟩
      exact hn a ha z
    | succ k ih =>
      intro fu i hf hk hn
      obtain ⟨w, rfl⟩ : ∃ w, fu = w + 1 := ⟨fu - 1, by omega⟩
      have hi3 : i < 3 := by omega
      obtain ⟨gL, gH, rL, rH, e1, e2, e3, e4, n1, n2, n3, n4, m1, m2, m3, m4, k1, k2⟩ := one i hi3
      have ez : (if nI i = nI ax then iI by0 else (0 : Int32)) = iI (if i = ax then by0 else 0) := by
        by_cases y : i = ax
        · subst y; rw [if_pos rfl, if_pos rfl]
        · rw [if_neg y, if_neg (fun x => y (by rwa [eq_n (by omega) (by omega)] at x))]; rfl
      rw [f_X3_isApart_3, show nI i + 1 = nI (i + 1) from nI_1 i, cl_n (by omega), e1, e2, e3, e4, ez, iI_add, iI_add]
      generalize hz : (if i = ax then by0 else 0) = z at k1 k2
      have hzb : -10000 ≤ z ∧ z ≤ 10000 := by
        rw [← hz]
        split <;> omega
      refine Ok.neg (nI_ge (b := 3) hi3 (by decide)) (Ok.pos (inB_n hi3 (by decide)) (Ok.pos (inB_n hi3 (by decide)) (Ok.ite (fun y => ?_) (fun y => ?_))))
      · rw [iI_lt (by omega) (by omega) (by omega) (by omega)] at y
        exact Ok.some ⟨rfl, i, hi3, Or.inl (k1.2 y)⟩
      · rw [iI_lt (by omega) (by omega) (by omega) (by omega)] at y
        refine Ok.pos (inB_n hi3 (by decide)) (Ok.pos (inB_n hi3 (by decide)) (Ok.ite (fun x => ?_) (fun x => ?_)))
        · rw [iI_le (by omega) (by omega) (by omega) (by omega)] at x
          refine ih w (i + 1) (by omega) (by omega) (fun a ha => ?_)
          by_cases ea : a = i
          · subst ea
            rintro (u | u)
            · exact y (k1.1 u)
            · have := k2.1 u
              omega
          · exact hn a (by omega)
        · rw [iI_le (by omega) (by omega) (by omega) (by omega)] at x
          exact Ok.some ⟨rfl, i, hi3, Or.inr (k2.2 (by omega))⟩
  refine Ok.sumB (Ok.mono (loop 3 fu 0 (by omega) (by omega) (fun a ha => absurd ha (by omega))) ?_)
  intro r hr
  cases r with
  | inl z => exact Or.inl hr
  | inr z => exact Ok.some (Or.inr ⟨rfl, hr⟩)
