/-! the reference's states; two programs side by side -/
def Ok2 {R S : Type} (x : Option R) (y : Option S) (Q : R → S → Prop) : Prop := ∃ a b, x = some a ∧ y = some b ∧ Q a b
theorem Ok2.some {R S : Type} {a : R} {b : S} {Q : R → S → Prop} (h : Q a b) : Ok2 (some a) (some b) Q := ⟨a, b, rfl, rfl, h⟩
theorem Ok2.bind {R S R' S' : Type} {x : Option R} {y : Option S} {k : R → Option R'} {l : S → Option S'} {P : R → S → Prop} {Q : R' → S' → Prop} (h : Ok2 x y P) (hk : ∀ a b, P a b → Ok2 (k a) (l b) Q) : Ok2 (x.bind k) (y.bind l) Q := by
  obtain ⟨a, b, e1, e2, hp⟩ := h
  rw [e1, e2]
  exact hk a b hp
theorem Ok2.L {R R' S : Type} {x : Option R} {y : Option S} {k : R → Option R'} {P : R → Prop} {Q : R' → S → Prop} (h : Ok x P) (hk : ∀ a, P a → Ok2 (k a) y Q) : Ok2 (x.bind k) y Q := by
  obtain ⟨a, e1, hp⟩ := h
  rw [e1]
  exact hk a hp
theorem Ok2.R {R S S' : Type} {x : Option R} {y : Option S} {l : S → Option S'} {P : S → Prop} {Q : R → S' → Prop} (h : Ok y P) (hk : ∀ b, P b → Ok2 x (l b) Q) : Ok2 x (y.bind l) Q := by
  obtain ⟨b, e1, hp⟩ := h
  rw [e1]
  exact hk b hp
theorem Ok2.LE {R R' S : Type} {x : Option R} {y : Option S} {k : R → Option R'} {a : R} {Q : R' → S → Prop} (h : x = .some a) (hk : Ok2 (k a) y Q) : Ok2 (x.bind k) y Q := by
  rw [h]
  exact hk
theorem Ok2.RE {R S S' : Type} {x : Option R} {y : Option S} {l : S → Option S'} {b : S} {Q : R → S' → Prop} (h : y = .some b) (hk : Ok2 x (l b) Q) : Ok2 x (y.bind l) Q := by
  rw [h]
  exact hk
theorem Ok2.posL {R S : Type} {c : Prop} [Decidable c] {x x' : Option R} {y : Option S} {Q : R → S → Prop} (h : c) (hx : Ok2 x y Q) : Ok2 (if c then x else x') y Q := by
  rw [if_pos h]; exact hx
theorem Ok2.negL {R S : Type} {c : Prop} [Decidable c] {x x' : Option R} {y : Option S} {Q : R → S → Prop} (h : ¬ c) (hx : Ok2 x' y Q) : Ok2 (if c then x else x') y Q := by
  rw [if_neg h]; exact hx
theorem Ok2.posR {R S : Type} {c : Prop} [Decidable c] {x : Option R} {y y' : Option S} {Q : R → S → Prop} (h : c) (hx : Ok2 x y Q) : Ok2 x (if c then y else y') Q := by
  rw [if_pos h]; exact hx
theorem Ok2.negR {R S : Type} {c : Prop} [Decidable c] {x : Option R} {y y' : Option S} {Q : R → S → Prop} (h : ¬ c) (hx : Ok2 x y' Q) : Ok2 x (if c then y else y') Q := by
  rw [if_neg h]; exact hx
theorem Ok2.iteL {R S : Type} {c : Prop} [Decidable c] {x x' : Option R} {y : Option S} {Q : R → S → Prop} (h1 : c → Ok2 x y Q) (h2 : ¬ c → Ok2 x' y Q) : Ok2 (if c then x else x') y Q := by
  by_cases h : c
  · exact Ok2.posL h (h1 h)
  · exact Ok2.negL h (h2 h)
theorem Ok2.mono {R S : Type} {x : Option R} {y : Option S} {P Q : R → S → Prop} (h : Ok2 x y P) (hk : ∀ a b, P a b → Q a b) : Ok2 x y Q := by
  obtain ⟨a, b, e1, e2, hp⟩ := h
  exact ⟨a, b, e1, e2, hk a b hp⟩
theorem Ok2.sumB {A A' C B B' D : Type} {x : Option (A ⊕ A')} {y : Option (B ⊕ B')} {f : A → C} {g : B → D} {k : A' → Option C} {l : B' → Option D} {Q : C → D → Prop} (h : Ok2 x y (fun s t => match s, t with | .inl a, .inl b => Q (f a) (g b) | .inr a, .inr b => Ok2 (k a) (l b) Q | _, _ => False)) : Ok2 (sumB x f k) (sumB y g l) Q := by
  obtain ⟨s, t, e1, e2, hp⟩ := h
  rw [e1, e2]
  cases s with
  | inl a =>
    cases t with
    | inl b => exact ⟨f a, g b, rfl, rfl, hp⟩
    | inr b => exact absurd hp (fun z => z)
  | inr a =>
    cases t with
    | inl b => exact absurd hp (fun z => z)
    | inr b => exact hp
def RowR (stt : Nat → Int32) (t : Nat) (ω : Nat → Nat → Int) : Prop := ∀ p, p < 6 → ∀ a, a < 3 → stt (t * 18 + (3 * p + a)) = iI (ω p a)
theorem k18 {k : Nat} (h : k < 18) : ∃ p a, p < 6 ∧ a < 3 ∧ k = 3 * p + a := ⟨k / 3, k % 3, by omega, by omega, by omega⟩
theorem run3_ok {fu s : Nat} (hf : 20 ≤ fu) (hs : s < 300) {stt wrk : Nat → Int32} {ω : Nat → Nat → Int} (h : RowR stt s ω) : Ok (f_X7_run_3 (nI s) stt fu 0 wrk) (fun q => RowW q ω) := by
  have loop : ∀ k fu i wrk, k < fu → k + i = 18 → (∀ j, j < i → wrk j = stt (s * 18 + j)) → Ok (f_X7_run_3 (nI s) stt fu (nI i) wrk) (fun q => ∀ j, j < 18 → q j = stt (s * 18 + j)) := by
    intro k
    induction k with
    | zero =>
      intro fu i wrk hf hk h
      obtain ⟨w, rfl⟩ : ∃ w, fu = w + 1 := ⟨fu - 1, by omega⟩
      have : i = 18 := by omega
      subst this
      rw [f_X7_run_3]
      exact Ok.pos (by decide +kernel) (Ok.some h)
    | succ k ih =>
      intro fu i wrk hf hk h
      obtain ⟨w, rfl⟩ : ∃ w, fu = w + 1 := ⟨fu - 1, by omega⟩
      rw [f_X7_run_3, ix_18, cl_n (by omega), cl_n (by omega), show nI i + 1 = nI (i + 1) from nI_1 i]
      refine Ok.neg (nI_ge (b := 18) (by omega) (by decide)) (Ok.pos (inB_n (by omega) (by decide)) (Ok.pos (inB_n (by omega) (by decide)) (ih w (i + 1) _ (by omega) (by omega) (fun j hj => ?_))))
      by_cases z : j = i
      · subst z; exact vu_s
      · rw [vu_n z]; exact h j (by omega)
  refine Ok.mono (loop 18 fu 0 wrk (by omega) (by omega) (fun j hj => absurd hj (by omega))) ?_
  intro q hq p hp a ha
  rw [hq _ (by omega)]
  exact h p hp a ha
theorem run44_ok {fu G d : Nat} (hf : 10 ≤ fu) (hG : G < 64) (hd : d < 6) {wrk : Nat → Int32} {ω : Nat → Nat → Int} (h : RowW wrk ω) : Ok (f_X7_run_44 (nI G) (nI d) fu 0 wrk) (fun q => RowW q (mvG ω G (d / 2) (sgn d))) := by
  obtain ⟨e1, e2⟩ := sgn_i d hd
  have loop : ∀ k fu i f, k < fu → k + i = 6 → RowW f (mvU ω G (d / 2) (sgn d) i) → Ok (f_X7_run_44 (nI G) (nI d) fu (nI i) f) (fun q => RowW q (mvG ω G (d / 2) (sgn d))) := by
    intro k
    induction k with
    | zero =>
      intro fu i f hf hk h2
      obtain ⟨w, rfl⟩ : ∃ w, fu = w + 1 := ⟨fu - 1, by omega⟩
      have : i = 6 := by omega
      subst this
      rw [f_X7_run_44]
      refine Ok.pos (by decide +kernel) (Ok.some (fun p hp a ha => ?_))
      rw [h2 p hp a ha, mvU_lt hp]
    | succ k ih =>
      intro fu i f hf hk h2
      obtain ⟨w, rfl⟩ : ∃ w, fu = w + 1 := ⟨fu - 1, by omega⟩
      have hi6 : i < 6 := by omega
      have hidx : (3 : Int32) * nI i + nI (d / 2) = nI (3 * i + d / 2) := by rw [show (3 : Int32) = nI 3 from rfl, pk_mul, nI_add]
      rw [f_X7_run_44, e1, e2, hidx, show nI i + 1 = nI (i + 1) from nI_1 i, cl_n (by omega)]
      refine Ok.neg (nI_ge (b := 6) hi6 (by decide)) (Ok.ite (fun z => ?_) (fun z => ?_))
      · rw [bit1' G hG i hi6] at z
        refine Ok.pos (inB_n (by omega) (by decide)) (Ok.pos (inB_n (by omega) (by decide)) (ih w (i + 1) _ (by omega) (by omega) (fun p hp a ha => ?_)))
        by_cases y : p = i
        · subst y
          rw [mvU_lt (show p < p + 1 by omega)]
          have e := h2 p hp a ha
          rw [mvU_ge (Nat.le_refl p)] at e
          unfold mvG
          by_cases x : a = d / 2
          · subst x
            rw [vu_s, e, iI_add, if_pos ⟨z, rfl⟩]
          · rw [vu_n (by omega), e, if_neg (fun u => x u.2)]
        · rw [vu_n (by omega), h2 p hp a ha]
          by_cases y2 : p < i
          · rw [mvU_lt y2, mvU_lt (show p < i + 1 by omega)]
          · rw [mvU_ge (show i ≤ p by omega), mvU_ge (show i + 1 ≤ p by omega)]
      · rw [bit1' G hG i hi6, Bool.not_eq_true] at z
        refine ih w (i + 1) f (by omega) (by omega) (fun p hp a ha => ?_)
        rw [h2 p hp a ha]
        by_cases y : p = i
        · subst y
          rw [mvU_ge (Nat.le_refl p), mvU_lt (show p < p + 1 by omega)]
          unfold mvG
          rw [if_neg (fun x => by rw [z] at x; cases x.1)]
        · by_cases y2 : p < i
          · rw [mvU_lt y2, mvU_lt (show p < i + 1 by omega)]
          · rw [mvU_ge (show i ≤ p by omega), mvU_ge (show i + 1 ≤ p by omega)]
  refine loop 6 fu 0 wrk (by omega) (by omega) (fun p hp a ha => ?_)
  rw [mvU_ge (Nat.zero_le p)]
  exact h p hp a ha
theorem run185_ok {fu n : Nat} (hf : 20 ≤ fu) (hn : n < 300) {stt oth : Nat → Int32} : Ok (f_X7_run_185 (nI n) oth fu 0 stt) (fun q => (∀ j, j < 18 → q (n * 18 + j) = oth j) ∧ ∀ j, j < n * 18 → q j = stt j) := by
  have loop : ∀ k fu i f, k < fu → k + i = 18 → (∀ j, j < i → f (n * 18 + j) = oth j) → (∀ j, j < n * 18 → f j = stt j) → Ok (f_X7_run_185 (nI n) oth fu (nI i) f) (fun q => (∀ j, j < 18 → q (n * 18 + j) = oth j) ∧ ∀ j, j < n * 18 → q j = stt j) := by
    intro k
    induction k with
    | zero =>
      intro fu i f hf hk h1 h2
      obtain ⟨w, rfl⟩ : ∃ w, fu = w + 1 := ⟨fu - 1, by omega⟩
      have : i = 18 := by omega
      subst this
      rw [f_X7_run_185]
      exact Ok.pos (by decide +kernel) (Ok.some ⟨h1, h2⟩)
    | succ k ih =>
      intro fu i f hf hk h1 h2
      obtain ⟨w, rfl⟩ : ∃ w, fu = w + 1 := ⟨fu - 1, by omega⟩
      rw [f_X7_run_185, ix_18, cl_n (by omega), cl_n (by omega), show nI i + 1 = nI (i + 1) from nI_1 i]
      refine Ok.neg (nI_ge (b := 18) (by omega) (by decide)) (Ok.pos (inB_n (by omega) (by decide)) (Ok.pos (inB_n (by omega) (by decide)) (ih w (i + 1) _ (by omega) (by omega) (fun j hj => ?_) (fun j hj => ?_))))
      · by_cases z : j = i
        · subst z; exact vu_s
        · rw [vu_n (by omega)]; exact h1 j (by omega)
      · rw [vu_n (by omega)]; exact h2 j hj
  exact loop 18 fu 0 stt (by omega) (by omega) (fun j hj => absurd hj (by omega)) (fun _ _ => rfl)
/-- offsets of a part's pieces, its first piece lying still -/
def nrm (P f : Nat) (ω : Nat → Nat → Int) : Nat → Nat → Int := fun p a => if P.testBit p then ω p a - ω f a else 0
theorem ik2_ok {P : Nat} (hP : P < 64) (h0 : P ≠ 0) : ∀ k fu i, k < fu → k + i = lowP P → f_X7_isKnown_2 (nI P) fu (nI i) = some (nI (lowP P)) := by
  obtain ⟨l1, l2, l3, l4⟩ := lowP_ok P hP h0
  intro k
  induction k with
  | zero =>
    intro fu i hf hk
    obtain ⟨w, rfl⟩ : ∃ w, fu = w + 1 := ⟨fu - 1, by omega⟩
    have : i = lowP P := by omega
    subst this
    rw [f_X7_isKnown_2, if_neg]
    rw [bit1 P hP _ l1, l2]
    decide
  | succ k ih =>
    intro fu i hf hk
    obtain ⟨w, rfl⟩ : ∃ w, fu = w + 1 := ⟨fu - 1, by omega⟩
    rw [f_X7_isKnown_2, if_pos ((bit1 P hP i (by omega)).2 (l3 i (by omega) (by omega))), show nI i + 1 = nI (i + 1) from nI_1 i]
    exact ih w (i + 1) (by omega) (by omega)
theorem d3_i : ∀ k, k < 18 → nI k / (3 : Int32) = nI (k / 3) ∧ nI k - nI k / (3 : Int32) * (3 : Int32) = nI (k % 3) := by decide +kernel
theorem ik18_ok {P f : Nat} (hP : P < 64) (hf6 : f < 6) {wrk : Nat → Int32} : ∀ k fu i oth, k < fu → k + i = 18 → (∀ j, j < i → oth j = if P.testBit (j / 3) then wrk j - wrk (3 * f + j % 3) else 0) → Ok (f_X7_isKnown_18 (nI P) (nI f) wrk fu (nI i) oth) (fun q => ∀ j, j < 18 → q j = if P.testBit (j / 3) then wrk j - wrk (3 * f + j % 3) else 0) := by
  intro k
  induction k with
  | zero =>
    intro fu i oth hf hk h
    obtain ⟨w, rfl⟩ : ∃ w, fu = w + 1 := ⟨fu - 1, by omega⟩
    have : i = 18 := by omega
    subst this
    rw [f_X7_isKnown_18]
    exact Ok.pos (by decide +kernel) (Ok.some h)
  | succ k ih =>
    intro fu i oth hf hk h
    obtain ⟨w, rfl⟩ : ∃ w, fu = w + 1 := ⟨fu - 1, by omega⟩
    obtain ⟨e1, e2⟩ := d3_i i (by omega)
    have hidx : (3 : Int32) * nI f + nI (i % 3) = nI (3 * f + i % 3) := by rw [show (3 : Int32) = nI 3 from rfl, pk_mul, nI_add]
    rw [f_X7_isKnown_18, e2, e1, hidx, cl_n (by omega), cl_n (by omega), show nI i + 1 = nI (i + 1) from nI_1 i]
    refine Ok.neg (nI_ge (b := 18) (by omega) (by decide)) (Ok.ite (fun z => ?_) (fun z => ?_))
    · rw [bit1' P hP _ (by omega)] at z
      refine Ok.pos (inB_n (by omega) (by decide)) (Ok.pos (inB_n (by omega) (by decide)) (Ok.pos (inB_n (by omega) (by decide)) (ih w (i + 1) _ (by omega) (by omega) (fun j hj => ?_))))
      by_cases y : j = i
      · subst y; rw [vu_s, z]; rfl
      · rw [vu_n y]; exact h j (by omega)
    · rw [bit1' P hP _ (by omega), Bool.not_eq_true] at z
      refine Ok.pos (inB_n (by omega) (by decide)) (ih w (i + 1) _ (by omega) (by omega) (fun j hj => ?_))
      by_cases y : j = i
      · subst y; rw [vu_s, z]; rfl
      · rw [vu_n y]; exact h j (by omega)
theorem ik86_ok {t : Nat} (ht : t < 300) {stt oth : Nat → Int32} : ∀ k fu i (b : Bool), k < fu → k + i = 18 → (b = true ↔ ∀ j, j < i → stt (t * 18 + j) = oth j) → Ok (f_X7_isKnown_86 (nI t) stt oth fu (bI b) (nI i)) (fun r => ∃ b : Bool, r = bI b ∧ (b = true ↔ ∀ j, j < 18 → stt (t * 18 + j) = oth j)) := by
  intro k
  induction k with
  | zero =>
    intro fu i b hf hk h
    obtain ⟨w, rfl⟩ : ∃ w, fu = w + 1 := ⟨fu - 1, by omega⟩
    have : i = 18 := by omega
    subst this
    rw [f_X7_isKnown_86]
    exact Ok.pos (by decide +kernel) (Ok.some ⟨b, rfl, h⟩)
  | succ k ih =>
    intro fu i b hf hk h
    obtain ⟨w, rfl⟩ : ∃ w, fu = w + 1 := ⟨fu - 1, by omega⟩
    rw [f_X7_isKnown_86, ix_18, cl_n (by omega), cl_n (by omega), show nI i + 1 = nI (i + 1) from nI_1 i]
    refine Ok.neg (nI_ge (b := 18) (by omega) (by decide)) (Ok.ite (fun z => ?_) (fun z => ?_))
    · rw [bI_0] at z
      subst z
      refine Ok.some ⟨false, rfl, ?_⟩
      constructor
      · intro y; cases y
      · intro y; exact h.2 (fun j hj => y j (by omega))
    · rw [bI_n0] at z
      subst z
      have h' := h.1 rfl
      by_cases y : stt (t * 18 + i) = oth i
      · rw [if_pos y]
        refine Ok.pos (inB_n (by omega) (by decide)) (Ok.pos (inB_n (by omega) (by decide)) (ih w (i + 1) true (by omega) (by omega) ⟨fun _ j hj => ?_, fun _ => rfl⟩))
        by_cases x : j = i
        · subst x; exact y
        · exact h' j (by omega)
      · rw [if_neg y]
        refine Ok.pos (inB_n (by omega) (by decide)) (Ok.pos (inB_n (by omega) (by decide)) (ih w (i + 1) false (by omega) (by omega) ⟨fun x => (by cases x), fun x => ?_⟩))
        exact absurd (x i (by omega)) y
theorem isKnown_ok {fu n P : Nat} (hf : 400 ≤ fu) (hn : n ≤ 300) (hP : P < 64) (h0 : P ≠ 0) {stt wrk oth : Nat → Int32} {ω : Nat → Nat → Int} (h : RowW wrk ω) : Ok (f_X7_isKnown fu (nI n) stt wrk oth (nI P)) (fun q => RowW q.2 (nrm P (lowP P) ω) ∧ ((q.1 = 1 ∧ ∃ t, t < n ∧ RowR stt t (nrm P (lowP P) ω)) ∨ (q.1 = 0 ∧ ¬ ∃ t, t < n ∧ RowR stt t (nrm P (lowP P) ω)))) := by
  obtain ⟨l1, l2, l3, l4⟩ := lowP_ok P hP h0
  unfold f_X7_isKnown
  refine Ok.bindE (ik2_ok hP h0 (lowP P) fu 0 (by omega) (by omega)) (Ok.bind (ik18_ok hP l1 18 fu 0 oth (by omega) (by omega) (fun j hj => absurd hj (by omega))) ?_)
  intro q hq
  have hrow : RowW q (nrm P (lowP P) ω) := by
    intro p hp a ha
    rw [hq _ (by omega), show (3 * p + a) / 3 = p by omega, show (3 * p + a) % 3 = a by omega, h p hp a ha, h _ l1 a ha, iI_sub]
    unfold nrm
    split
    · rfl
    · rfl
  have hiff : ∀ t, (∀ j, j < 18 → stt (t * 18 + j) = q j) ↔ RowR stt t (nrm P (lowP P) ω) := by
    intro t
    constructor
    · intro z p hp a ha
      rw [z _ (by omega)]
      exact hrow p hp a ha
    · intro z j hj
      obtain ⟨p, a, hp, ha, rfl⟩ := k18 hj
      rw [z p hp a ha, hrow p hp a ha]
  have loop : ∀ k fu i, 30 + k < fu → k + i = n → (∀ t, t < i → ¬ RowR stt t (nrm P (lowP P) ω)) → Ok (f_X7_isKnown_72 (nI n) stt q fu (nI i)) (fun r => match r with | .inl z => z.1 = 1 ∧ z.2 = q ∧ ∃ t, t < n ∧ RowR stt t (nrm P (lowP P) ω) | .inr _ => ¬ ∃ t, t < n ∧ RowR stt t (nrm P (lowP P) ω)) := by
    intro k
    induction k with
    | zero =>
      intro fu i hf hk hn'
      obtain ⟨w, rfl⟩ : ∃ w, fu = w + 1 := ⟨fu - 1, by omega⟩
      have : i = n := by omega
      subst this
      rw [f_X7_isKnown_72]
      refine Ok.pos (nI_le (Nat.le_refl _) (by omega)) (Ok.some ?_)
      rintro ⟨t, z1, z2⟩
      exact hn' t z1 z2
    | succ k ih =>
      intro fu i hf hk hn'
      obtain ⟨w, rfl⟩ : ∃ w, fu = w + 1 := ⟨fu - 1, by omega⟩
      rw [f_X7_isKnown_72, show nI i + 1 = nI (i + 1) from nI_1 i]
      refine Ok.neg (nI_ge (by omega) (by omega)) (Ok.bind (ik86_ok (show i < 300 by omega) 18 w 0 true (by omega) (by omega) ⟨fun _ j hj => absurd hj (by omega), fun _ => rfl⟩) ?_)
      rintro r ⟨b, rfl, hb⟩
      refine Ok.ite (fun z => ?_) (fun z => ?_)
      · rw [bI_0] at z
        refine ih w (i + 1) (by omega) (by omega) (fun t ht => ?_)
        by_cases y : t = i
        · subst y
          intro x
          rw [hb.2 ((hiff t).2 x)] at z
          cases z
        · exact hn' t (by omega)
      · rw [bI_n0] at z
        exact Ok.some ⟨rfl, rfl, i, by omega, (hiff i).1 (hb.1 z)⟩
  refine Ok.sumB (Ok.mono (loop n fu 0 (by omega) (by omega) (fun t ht => absurd ht (by omega))) ?_)
  intro r hr
  cases r with
  | inl z =>
    obtain ⟨z1, z2, z3⟩ := hr
    exact ⟨by rw [show (id z).2 = q from z2]; exact hrow, Or.inl ⟨z1, z3⟩⟩
  | inr z => exact Ok.some ⟨hrow, Or.inr ⟨rfl, hr⟩⟩
