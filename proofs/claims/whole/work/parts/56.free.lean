/-! the reference's edges: whether a group is apart -/
def bl (b : Bool) (x v : Int) : Prop := if b then x ≤ v else v ≤ x
theorem bl_t {x v : Int} : bl true x v ↔ x ≤ v := Iff.rfl
theorem bl_f {x v : Int} : bl false x v ↔ v ≤ x := Iff.rfl
theorem bl_r (b : Bool) (v : Int) : bl b v v := by cases b <;> exact Int.le_refl v
theorem bl_tr {b : Bool} {x y z : Int} (h1 : bl b x y) (h2 : bl b y z) : bl b x z := by
  cases b
  · exact Int.le_trans h2 h1
  · exact Int.le_trans h1 h2
theorem bl_pick (b : Bool) (v x : Int32) : ∃ w, (if bI b = 0 then (if v ≤ x then v else x) else (if x ≤ v then v else x)) = w ∧ bl b v.toInt w.toInt ∧ bl b x.toInt w.toInt ∧ (w = v ∨ w = x) := by
  cases b
  · rw [if_pos (show bI false = 0 from rfl)]
    by_cases h : v ≤ x
    · rw [if_pos h]
      exact ⟨v, rfl, Int.le_refl _, Int32.le_iff_toInt_le.1 h, Or.inl rfl⟩
    · rw [if_neg h]
      refine ⟨x, rfl, ?_, Int.le_refl _, Or.inr rfl⟩
      have : x < v := Int32.not_le.1 h
      have := Int32.lt_iff_toInt_lt.1 this
      show x.toInt ≤ v.toInt
      omega
  · rw [if_neg (by decide)]
    by_cases h : x ≤ v
    · rw [if_pos h]
      exact ⟨v, rfl, Int.le_refl _, Int32.le_iff_toInt_le.1 h, Or.inl rfl⟩
    · rw [if_neg h]
      refine ⟨x, rfl, ?_, Int.le_refl _, Or.inr rfl⟩
      have : v < x := Int32.not_le.1 h
      have := Int32.lt_iff_toInt_lt.1 this
      show v.toInt ≤ x.toInt
      omega
theorem bit1' : ∀ P, P < 64 → ∀ p, p < 6 → ((nI P >>> (nI p &&& 31)) &&& (1 : Int32) = 1 ↔ P.testBit p = true) := by decide +kernel
theorem e26_ok {cbs cub wrk : Nat → Int32} {L a p m : Nat} (b : Bool) (hL : L < 64) (ha : a < 3) (hp : p < 6) (hm : m ≤ 10) (hc : cbs p = nI m) : ∀ k fu c v, k < fu → k + c = m → Ok (f_X7_edge_26 (nI L) (nI a) (bI b) (nI p) cbs cub wrk fu v (nI c)) (fun w => bl b v.toInt w.toInt ∧ (L.testBit p = true → ∀ c', c ≤ c' → c' < m → bl b (cv cub wrk p c' a).toInt w.toInt) ∧ (w = v ∨ (L.testBit p = true ∧ ∃ c', c' < m ∧ w = cv cub wrk p c' a))) := by
  intro k
  induction k with
  | zero =>
    intro fu c v hf hk
    obtain ⟨w, rfl⟩ : ∃ w, fu = w + 1 := ⟨fu - 1, by omega⟩
    have : c = m := by omega
    subst this
    rw [f_X7_edge_26, cl_n (by omega), hc]
    exact Ok.pos (inB_n hp (by decide)) (Ok.pos (nI_le (Nat.le_refl _) (by omega)) (Ok.some ⟨bl_r b _, fun _ c' h1 h2 => absurd h2 (by omega), Or.inl rfl⟩))
  | succ k ih =>
    intro fu c v hf hk
    obtain ⟨w, rfl⟩ : ∃ w, fu = w + 1 := ⟨fu - 1, by omega⟩
    rw [f_X7_edge_26, cl_n (by omega), hc, show nI c + 1 = nI (c + 1) from nI_1 c]
    refine Ok.pos (inB_n hp (by decide)) (Ok.neg (nI_ge (by omega) (by omega)) (Ok.ite (fun z => ?_) (fun z => ?_)))
    · rw [bit1' L hL p hp] at z
      refine Ok.bindE (at_ok cub wrk hp (show c < 10 by omega) ha) ?_
      obtain ⟨u, e, u1, u2, u3⟩ := bl_pick b v (cv cub wrk p c a)
      rw [e]
      refine Ok.mono (ih w (c + 1) u (by omega) (by omega)) ?_
      rintro r ⟨h1, h2, h3⟩
      refine ⟨bl_tr u1 h1, fun _ c' g1 g2 => ?_, ?_⟩
      · by_cases y : c' = c
        · subst y; exact bl_tr u2 h1
        · exact h2 z c' (by omega) g2
      · rcases h3 with rfl | h3
        · rcases u3 with rfl | rfl
          · exact Or.inl rfl
          · exact Or.inr ⟨z, c, by omega, rfl⟩
        · exact Or.inr h3
    · rw [bit1' L hL p hp] at z
      exact Ok.some ⟨bl_r b _, fun y => absurd y z, Or.inl rfl⟩
def iniE (b : Bool) : Int32 := if bI b = 0 then (100000 : Int32) else (-100000 : Int32)
theorem edge_ok {fu : Nat} (hf : 40 ≤ fu) {A : Nat → Int64} {cbs cub wrk : Nat → Int32} (hC : CubOK A cbs cub) {L a : Nat} (b : Bool) (hL : L < 64) (ha : a < 3) : Ok (f_X7_edge fu cbs cub wrk (nI L) (nI a) (bI b)) (fun w => (∀ p, p < 6 → L.testBit p = true → ∀ m c, cbs p = nI m → m ≤ 10 → c < m → bl b (cv cub wrk p c a).toInt w.toInt) ∧ (w = iniE b ∨ ∃ p m c, p < 6 ∧ L.testBit p = true ∧ cbs p = nI m ∧ m ≤ 10 ∧ c < m ∧ w = cv cub wrk p c a)) := by
  have loop : ∀ k fu i v, 20 + k < fu → k + i = 6 → (∀ p, p < i → L.testBit p = true → ∀ m c, cbs p = nI m → m ≤ 10 → c < m → bl b (cv cub wrk p c a).toInt v.toInt) → (v = iniE b ∨ ∃ p m c, p < 6 ∧ L.testBit p = true ∧ cbs p = nI m ∧ m ≤ 10 ∧ c < m ∧ v = cv cub wrk p c a) → Ok (f_X7_edge_16 (nI L) (nI a) (bI b) cbs cub wrk fu v (nI i)) (fun w => (∀ p, p < 6 → L.testBit p = true → ∀ m c, cbs p = nI m → m ≤ 10 → c < m → bl b (cv cub wrk p c a).toInt w.toInt) ∧ (w = iniE b ∨ ∃ p m c, p < 6 ∧ L.testBit p = true ∧ cbs p = nI m ∧ m ≤ 10 ∧ c < m ∧ w = cv cub wrk p c a)) := by
    intro k
    induction k with
    | zero =>
      intro fu i v hf hk h1 h2
      obtain ⟨w, rfl⟩ : ∃ w, fu = w + 1 := ⟨fu - 1, by omega⟩
      have : i = 6 := by omega
      subst this
      rw [f_X7_edge_16]
      exact Ok.pos (by decide +kernel) (Ok.some ⟨h1, h2⟩)
    | succ k ih =>
      intro fu i v hf hk h1 h2
      obtain ⟨w, rfl⟩ : ∃ w, fu = w + 1 := ⟨fu - 1, by omega⟩
      have hi : i < 6 := by omega
      obtain ⟨m, k1, k2, k3⟩ := hC i hi
      rw [f_X7_edge_16, show nI i + 1 = nI (i + 1) from nI_1 i]
      refine Ok.neg (nI_ge (b := 6) hi (by decide)) (Ok.bind (e26_ok b hL ha hi k1 k2 m w 0 v (by omega) (by omega)) ?_)
      rintro u ⟨u1, u2, u3⟩
      refine ih w (i + 1) u (by omega) (by omega) (fun p hp hb m' c g1 g2 g3 => ?_) ?_
      · by_cases y : p = i
        · subst y
          have : m' = m := by
            rw [k2, eq_n (by omega) (by omega)] at g1
            omega
          subst this
          exact u2 hb c (Nat.zero_le _) g3
        · exact bl_tr (h1 p (by omega) hb m' c g1 g2 g3) u1
      · rcases u3 with rfl | ⟨x1, c, x2, x3⟩
        · exact h2
        · exact Or.inr ⟨i, m, c, hi, x1, k2, k1, x2, x3⟩
  unfold f_X7_edge
  exact Ok.bind (loop 6 fu 0 _ (by omega) (by omega) (fun p hp => absurd hp (by omega)) (Or.inl rfl)) (fun r hr => Ok.some hr)
/-- an edge as a number -/
theorem edge_v {fu : Nat} (hf : 40 ≤ fu) {A : Nat → Int64} {cbs cub wrk : Nat → Int32} (hC : CubOK A cbs cub) {ω : Nat → Nat → Int} (h : RowW wrk ω) (hb : Bd 10000 ω) {L a : Nat} (b : Bool) (hL : L < 64) (ha : a < 3) (hne : ∃ p, p < 6 ∧ L.testBit p = true ∧ A p ≠ 0) : Ok (f_X7_edge fu cbs cub wrk (nI L) (nI a) (bI b)) (fun w => ∃ v, w = iI v ∧ -20000 ≤ v ∧ v ≤ 20000 ∧ (∀ p, p < 6 → L.testBit p = true → ∀ y, B (A p) y = true → bl b ((co a y : Int) + ω p a) v) ∧ (∃ p y, p < 6 ∧ L.testBit p = true ∧ B (A p) y = true ∧ v = (co a y : Int) + ω p a)) := by
  refine Ok.mono (edge_ok hf hC b hL ha) ?_
  rintro w ⟨h1, h2⟩
  have hval : ∀ p c y, p < 6 → (cub ((p * 10 + c) * 3 + a) = nI (co a y)) → (cv cub wrk p c a).toInt = (co a y : Int) + ω p a := by
    intro p c y hp e
    have := co_lt a y
    have := hb p hp a ha
    rw [cv_i h hp ha e, iI_v (by omega) (by omega)]
  have hall : ∀ p, p < 6 → L.testBit p = true → ∀ y, B (A p) y = true → bl b ((co a y : Int) + ω p a) w.toInt := by
    intro p hp hl y hy
    obtain ⟨m, k1, k2, k3⟩ := hC p hp
    obtain ⟨c, hc, e⟩ := k3.2 y (B_lt hy) hy
    have := h1 p hp hl m c k2 k1 hc
    rwa [hval p c y hp (e a ha)] at this
  rcases h2 with h2 | ⟨p, m, c, p1, p2, p3, p4, p5, p6⟩
  · exfalso
    obtain ⟨p, hp, hl, hA⟩ := hne
    obtain ⟨y, _, hy⟩ := B_ne.1 hA
    have h3 := hall p hp hl y hy
    have := co_lt a y
    have := hb p hp a ha
    rw [h2] at h3
    cases b
    · have e : (iniE false).toInt = 100000 := by decide
      rw [e] at h3
      have : (100000 : Int) ≤ (co a y : Int) + ω p a := h3
      omega
    · have e : (iniE true).toInt = -100000 := by decide
      rw [e] at h3
      have : (co a y : Int) + ω p a ≤ -100000 := h3
      omega
  · obtain ⟨m', k1, k2, k3⟩ := hC p p1
    have : m' = m := by
      rw [k2, eq_n (by omega) (by omega)] at p3
      exact p3
    subst this
    obtain ⟨y, _, y1, y2⟩ := k3.1 c p5
    have e := hval p c y p1 (y2 a ha)
    have := co_lt a y
    have := hb p p1 a ha
    refine ⟨(co a y : Int) + ω p a, ?_, by omega, by omega, ?_, p, y, p1, p2, y1, rfl⟩
    · rw [p6, cv_i h p1 ha (y2 a ha)]
    · rw [← e, ← p6]
      exact hall
theorem isFree_ok {fu : Nat} (hf : 100 ≤ fu) {A : Nat → Int64} {cbs cub wrk : Nat → Int32} {ω : Nat → Nat → Int} (hC : CubOK A cbs cub) (h : RowW wrk ω) (hb : Bd 10000 ω) {P G : Nat} (hP : P < 64) (hG : G < 64) (hGP : ∀ p, p < 6 → G.testBit p = true → P.testBit p = true) (hA : ∀ p, p < 6 → P.testBit p = true → A p ≠ 0) (hg : ∃ p, p < 6 ∧ G.testBit p = true) (hr : ∃ p, p < 6 ∧ P.testBit p = true ∧ G.testBit p = false) : Ok (f_X7_isFree fu cbs cub wrk (nI P) (nI G)) (fun r => (r = 1 ∧ Ap A P G ω) ∨ (r = 0 ∧ ¬ Ap A P G ω)) := by
  obtain ⟨e1, e2⟩ := rest_i P hP G hG
  have hne1 : ∃ p, p < 6 ∧ G.testBit p = true ∧ A p ≠ 0 := by
    obtain ⟨p, h1, h2⟩ := hg
    exact ⟨p, h1, h2, hA p h1 (hGP p h1 h2)⟩
  have hrb : ∀ q, q < 6 → ((P &&& (G ^^^ 63)).testBit q = true ↔ P.testBit q = true ∧ G.testBit q = false) := by
    intro q hq
    rw [rest_b P hP G hG q hq, Bool.and_eq_true, Bool.not_eq_true']
  have hne2 : ∃ p, p < 6 ∧ (P &&& (G ^^^ 63)).testBit p = true ∧ A p ≠ 0 := by
    obtain ⟨p, h1, h2, h3⟩ := hr
    exact ⟨p, h1, (hrb p h1).2 ⟨h2, h3⟩, hA p h1 h2⟩
  have cmp : ∀ a, a < 3 → ∀ X Y : Nat, ∀ u v : Int, (∀ p, p < 6 → X.testBit p = true → A p ≠ 0) → (∀ p, p < 6 → Y.testBit p = true → A p ≠ 0) → (∀ p, p < 6 → X.testBit p = true → ∀ y, B (A p) y = true → bl true ((co a y : Int) + ω p a) u) → (∃ p y, p < 6 ∧ X.testBit p = true ∧ B (A p) y = true ∧ u = (co a y : Int) + ω p a) → (∀ p, p < 6 → Y.testBit p = true → ∀ y, B (A p) y = true → bl false ((co a y : Int) + ω p a) v) → (∃ p y, p < 6 ∧ Y.testBit p = true ∧ B (A p) y = true ∧ v = (co a y : Int) + ω p a) → (u < v ↔ ∀ p q, p < 6 → q < 6 → X.testBit p = true → Y.testBit q = true → (hi (A p) a : Int) + ω p a < (lo (A q) a : Int) + ω q a) := by
    intro a ha X Y u v nX nY x1 x2 y1 y2
    constructor
    · intro huv p q hp hq hx hy
      obtain ⟨c, _, c1, c2⟩ := hi_at a (nX p hp hx)
      obtain ⟨d, _, d1, d2⟩ := lo_at a (nY q hq hy)
      have g1 : (co a c : Int) + ω p a ≤ u := x1 p hp hx c c1
      have g2 : v ≤ (co a d : Int) + ω q a := y1 q hq hy d d1
      omega
    · intro hh
      obtain ⟨p, y, g1, g2, g3, g4⟩ := x2
      obtain ⟨q, z, k1, k2, k3, k4⟩ := y2
      have := hh p q g1 k1 g2 k2
      have h1 := hi_ge (a := a) g3
      have h2 := lo_le (a := a) k3
      omega
  have nG : ∀ p, p < 6 → G.testBit p = true → A p ≠ 0 := fun p hp z => hA p hp (hGP p hp z)
  have nR : ∀ p, p < 6 → (P &&& (G ^^^ 63)).testBit p = true → A p ≠ 0 := fun p hp z => hA p hp ((hrb p hp).1 z).1
  have loop : ∀ k fu i, 50 + k < fu → k + i = 3 → (∀ a, a < i → ¬ ((∀ p q, p < 6 → q < 6 → P.testBit p = true → G.testBit p = true → P.testBit q = true → G.testBit q = false → (hi (A q) a : Int) + ω q a < (lo (A p) a : Int) + ω p a) ∨ (∀ p q, p < 6 → q < 6 → P.testBit p = true → G.testBit p = true → P.testBit q = true → G.testBit q = false → (hi (A p) a : Int) + ω p a < (lo (A q) a : Int) + ω q a))) → Ok (f_X7_isFree_2 (nI P) (nI G) cbs cub wrk fu (nI i)) (fun r => match r with | .inl z => z = 1 ∧ Ap A P G ω | .inr _ => ¬ Ap A P G ω) := by
    intro k
    induction k with
    | zero =>
      intro fu i hf hk hn
      obtain ⟨w, rfl⟩ : ∃ w, fu = w + 1 := ⟨fu - 1, by omega⟩
      have : i = 3 := by omega
      subst this
      rw [f_X7_isFree_2]
      refine Ok.pos (by decide +kernel) (Ok.some ?_)
      rintro ⟨a, ha, z⟩
      exact hn a ha z
    | succ k ih =>
      intro fu i hf hk hn
      obtain ⟨w, rfl⟩ : ∃ w, fu = w + 1 := ⟨fu - 1, by omega⟩
      have hi3 : i < 3 := by omega
      rw [f_X7_isFree_2, e1, show nI i + 1 = nI (i + 1) from nI_1 i]
      refine Ok.neg (nI_ge (b := 3) hi3 (by decide)) (Ok.bind (edge_v (by omega) hC h hb true hG hi3 hne1) ?_)
      rintro _ ⟨u1, rfl, b1, b2, x1, x2⟩
      refine Ok.bind (edge_v (by omega) hC h hb false e2 hi3 hne2) ?_
      rintro _ ⟨u2, rfl, b3, b4, y1, y2⟩
      have c1 := cmp i hi3 G (P &&& (G ^^^ 63)) u1 u2 nG nR x1 x2 y1 y2
      refine Ok.ite (fun z => ?_) (fun z => ?_)
      · rw [iI_lt (by omega) (by omega) (by omega) (by omega)] at z
        refine Ok.some ⟨rfl, i, hi3, Or.inr (fun p q hp hq p1 p2 q1 q2 => c1.1 z p q hp hq p2 ((hrb q hq).2 ⟨q1, q2⟩))⟩
      · rw [iI_lt (by omega) (by omega) (by omega) (by omega)] at z
        refine Ok.bind (edge_v (by omega) hC h hb true e2 hi3 hne2) ?_
        rintro _ ⟨u3, rfl, b5, b6, x3, x4⟩
        refine Ok.bind (edge_v (by omega) hC h hb false hG hi3 hne1) ?_
        rintro _ ⟨u4, rfl, b7, b8, y3, y4⟩
        have c2 := cmp i hi3 (P &&& (G ^^^ 63)) G u3 u4 nR nG x3 x4 y3 y4
        refine Ok.ite (fun y => ?_) (fun y => ?_)
        · rw [iI_le (by omega) (by omega) (by omega) (by omega)] at y
          refine ih w (i + 1) (by omega) (by omega) (fun a ha => ?_)
          by_cases ea : a = i
          · subst ea
            rintro (t | t)
            · have := c2.2 (fun q p hq hp q1 p1 => t p q hp hq (hGP p hp p1) p1 ((hrb q hq).1 q1).1 ((hrb q hq).1 q1).2)
              omega
            · exact z (c1.2 (fun p q hp hq p1 q1 => t p q hp hq (hGP p hp p1) p1 ((hrb q hq).1 q1).1 ((hrb q hq).1 q1).2))
          · exact hn a (by omega)
        · rw [iI_le (by omega) (by omega) (by omega) (by omega)] at y
          refine Ok.some ⟨rfl, i, hi3, Or.inl (fun p q hp hq p1 p2 q1 q2 => c2.1 (by omega) q p hq hp ((hrb q hq).2 ⟨q1, q2⟩) p2)⟩
  unfold f_X7_isFree
  refine Ok.sumB (Ok.mono (loop 3 fu 0 (by omega) (by omega) (fun a ha => absurd ha (by omega))) ?_)
  intro r hr
  cases r with
  | inl z => exact Or.inl hr
  | inr z => exact Ok.some (Or.inr ⟨rfl, hr⟩)
