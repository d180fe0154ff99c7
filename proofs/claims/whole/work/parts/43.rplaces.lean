/-! the reference's places -/
def TW (tgt : Nat → Int32) (W : Int64) : Prop := ∀ c, c < 64 → (tgt c ≤ 0 ↔ B W c = false)
theorem r77_ok {tgt : Nat → Int32} {W : Int64} (hT : TW tgt W) {v : Int64} : ∀ k fu i (b : Bool), k < fu → k + i = 64 → (b = true ↔ ∀ c, c < i → B v c = true → B W c = true) ∨ b = false ∧ ¬ Sub v W → Ok (f_X7_placesOf_77 v tgt fu (bI b) (nI i)) (fun q => ∃ r : Bool, q = bI r ∧ (r = true ↔ Sub v W)) := by
  intro k
  induction k with
  | zero =>
    intro fu i b hf hi h
    obtain ⟨w, rfl⟩ : ∃ w, fu = w + 1 := ⟨fu - 1, by omega⟩
    have : i = 64 := by omega
    subst this
    rw [f_X7_placesOf_77]
    refine Ok.pos (by decide +kernel) (Ok.some ⟨b, rfl, ?_⟩)
    rcases h with h | ⟨rfl, h⟩
    · exact h.trans ⟨fun q c hc => q c (B_lt hc) hc, fun q c _ hc => q c hc⟩
    · constructor
      · intro q; cases q
      · intro q; exact absurd q h
  | succ k ih =>
    intro fu i b hf hi h
    obtain ⟨w, rfl⟩ : ∃ w, fu = w + 1 := ⟨fu - 1, by omega⟩
    rw [f_X7_placesOf_77, show nI i + 1 = nI (i + 1) from nI_1 i, cl_n (by omega)]
    refine Ok.neg (nI_ge (b := 64) (by omega) (by decide)) ?_
    cases b with
    | false =>
      refine Ok.pos (by decide +kernel) (Ok.some ⟨false, rfl, ?_⟩)
      rcases h with h | ⟨_, h⟩
      · constructor
        · intro q; cases q
        · intro q
          exact h.2 (fun c _ hc => q c hc)
      · constructor
        · intro q; cases q
        · intro q; exact absurd q h
    | true =>
      have h' : ∀ c, c < i → B v c = true → B W c = true := by
        rcases h with h | ⟨q, _⟩
        · exact h.1 rfl
        · cases q
      refine Ok.neg (by decide +kernel) (Ok.bindE (has_ok v (by omega)) (Ok.ite (fun q => ?_) (fun q => ?_)))
      · rw [bI_0] at q
        refine ih w (i + 1) true (by omega) (by omega) (Or.inl ⟨fun _ c hc hB => ?_, fun _ => rfl⟩)
        by_cases e : c = i
        · subst e; rw [q] at hB; cases hB
        · exact h' c (by omega) hB
      · rw [bI_n0] at q
        refine Ok.pos (inB_n (by omega) (by decide)) ?_
        by_cases z : tgt i ≤ 0
        · rw [if_pos z]
          refine ih w (i + 1) false (by omega) (by omega) (Or.inr ⟨rfl, fun s => ?_⟩)
          have := s i q
          rw [(hT i (by omega)).1 z] at this
          cases this
        · rw [if_neg z]
          refine ih w (i + 1) true (by omega) (by omega) (Or.inl ⟨fun _ c hc hB => ?_, fun _ => rfl⟩)
          by_cases e : c = i
          · subst e
            cases hw : B W c
            · exact absurd ((hT c (by omega)).2 hw) z
            · rfl
          · exact h' c (by omega) hB
theorem co_args {i : Nat} (hi : i < 64) : nI i - nI i / 4 * 4 = nI (co 0 i) ∧ nI i / 4 - nI i / 4 / 4 * 4 = nI (co 1 i) ∧ nI i / 16 = nI (co 2 i) := by
  have r0 : nI i - nI i / 4 * 4 = nI (co 0 i) := by rw [cv_0]; exact pk_rem (d := 4) (by omega) (by decide) (by decide)
  have d1 : nI i / 4 = nI (i / 4) := pk_div (d := 4) (by omega) (by decide) (by decide)
  have r1 : nI i / 4 - nI i / 4 / 4 * 4 = nI (co 1 i) := by rw [cv_1, d1]; exact pk_rem (d := 4) (by omega) (by decide) (by decide)
  have r2 : nI i / 16 = nI (co 2 i) := by rw [cv_2 hi]; exact pk_div (d := 16) (by omega) (by decide) (by decide)
  exact ⟨r0, r1, r2⟩
def PPr (sh : Nat → Int64) (b : Nat) (W : Int64) (k i : Nat) (v : Int64) : Prop := (∃ j, j < k ∧ OneP (sh (b + j)) W 64 v) ∨ OneP (sh (b + k)) W i v
theorem r26_ok {p k0 ns E : Nat} (hp : p < 6) {tgt : Nat → Int32} {W : Int64} (hT : TW tgt W) {shp : Nat → Int64} (hk0 : k0 < ns) (hns : ns ≤ 48) (hs : Set0 (shp (p * 48 + k0))) (hE : mvs (shp (p * 48 + k0)) = E) (hm : ns * E ≤ 896) {pls0 : Nat → Int32} {pl0 : Nat → Int64} : ∀ k fu i n pls pl, 1000 + k < fu → k + i = 64 → n ≤ k0 * E + nf (shp (p * 48 + k0)) i → pls p = nI n → (∀ j, j ≠ p → pls j = pls0 j) → (∀ j, j < p * 1400 ∨ p * 1400 + 1400 ≤ j → pl j = pl0 j) → Row pl (p * 1400) n (PPr shp (p * 48) W k0 i) → Ok (f_X7_placesOf_26 (nI p) (nI k0) tgt shp fu (nI i) pls pl) (fun q => ∃ n', n' ≤ k0 * E + E ∧ q.1 p = nI n' ∧ (∀ j, j ≠ p → q.1 j = pls0 j) ∧ (∀ j, j < p * 1400 ∨ p * 1400 + 1400 ≤ j → q.2 j = pl0 j) ∧ Row q.2 (p * 1400) n' (PPr shp (p * 48) W k0 64)) := by
  intro k
  induction k with
  | zero =>
    intro fu i n pls pl hf hi hn h1 h2 h3 hr
    obtain ⟨w, rfl⟩ : ∃ w, fu = w + 1 := ⟨fu - 1, by omega⟩
    have : i = 64 := by omega
    subst this
    rw [f_X7_placesOf_26]
    rw [nf_64, hE] at hn
    exact Ok.pos (by decide +kernel) (Ok.some ⟨n, hn, h1, h2, h3, hr⟩)
  | succ k ih =>
    intro fu i n pls pl hf hi hn h1 h2 h3 hr
    obtain ⟨w, rfl⟩ : ∃ w, fu = w + 1 := ⟨fu - 1, by omega⟩
    have hi64 : i < 64 := by omega
    obtain ⟨r0, r1, r2⟩ := co_args hi64
    rw [f_X7_placesOf_26, show nI i + 1 = nI (i + 1) from nI_1 i, r0, r1, r2, show (48 : Int32) = nI 48 from rfl, pk_mul, nI_add, cl_n (by omega), cl_n (by omega), show (1400 : Int32) = nI 1400 from rfl, pk_mul, h1]
    refine Ok.neg (nI_ge (b := 64) (by omega) (by decide)) (Ok.pos (inB_n (by omega) (by decide)) (Ok.bindE (moved_ok (by omega) hs.1 hi64) ?_))
    have skip : (fits (shp (p * 48 + k0)) i = false ∨ ¬ Sub (shl (shp (p * 48 + k0)) i) W) → Ok (f_X7_placesOf_26 (nI p) (nI k0) tgt shp w (nI (i + 1)) pls pl) (fun q => ∃ n', n' ≤ k0 * E + E ∧ q.1 p = nI n' ∧ (∀ j, j ≠ p → q.1 j = pls0 j) ∧ (∀ j, j < p * 1400 ∨ p * 1400 + 1400 ≤ j → q.2 j = pl0 j) ∧ Row q.2 (p * 1400) n' (PPr shp (p * 48) W k0 64)) := by
      intro hx
      refine ih w (i + 1) n pls pl (by omega) (by omega) (Nat.le_trans hn (Nat.add_le_add_left (nf_le' _ (by omega)) _)) h1 h2 h3 (hr.congr (fun _ _ => rfl) (fun v => ?_))
      unfold PPr
      rw [OneP.skip (i := i) (i' := i + 1) (by omega) (fun m g1 g2 => by rw [show m = i by omega]; exact hx)]
    cases hfit : fits (shp (p * 48 + k0)) i with
    | false =>
      have e : mvd (shp (p * 48 + k0)) i = 0 := by unfold mvd; rw [hfit]; rfl
      rw [e, if_pos rfl]
      obtain ⟨w2, rfl⟩ : ∃ w2, w = w2 + 1 := ⟨w - 1, by omega⟩
      have e2 : f_X7_placesOf_77 0 tgt (w2 + 1) 0 0 = some 0 := by
        rw [f_X7_placesOf_77, if_neg (by decide), if_pos rfl]
      exact Ok.bindE e2 (Ok.pos rfl (skip (Or.inl hfit)))
    | true =>
      have e : mvd (shp (p * 48 + k0)) i = shl (shp (p * 48 + k0)) i := by unfold mvd; rw [hfit]; rfl
      rw [e, if_neg (shl_ne hs.1 hi64 hfit)]
      refine Ok.bind (r77_ok hT 64 w 0 true (by omega) (by omega) (Or.inl ⟨fun _ c hc => absurd hc (by omega), fun _ => rfl⟩)) ?_
      rintro q ⟨r, rfl, hr2⟩
      refine Ok.ite (fun z => ?_) (fun z => ?_)
      · rw [bI_0] at z
        refine skip (Or.inr (fun y => ?_))
        rw [hr2.2 y] at z
        cases z
      · rw [bI_n0] at z
        have hsub := hr2.1 z
        have hmul : (k0 + 1) * E = k0 * E + E := Nat.succ_mul _ _
        have hle : (k0 + 1) * E ≤ ns * E := Nat.mul_le_mul_right _ (by omega)
        have hnf : nf (shp (p * 48 + k0)) i + 1 ≤ E := by
          rw [← hE, ← nf_64]
          have : nf (shp (p * 48 + k0)) (i + 1) = nf (shp (p * 48 + k0)) i + 1 := by
            show nf (shp (p * 48 + k0)) i + (if fits (shp (p * 48 + k0)) i then 1 else 0) = _
            rw [hfit]; rfl
          rw [← this]
          exact nf_le' _ (by omega)
        refine Ok.pos (inB_n hp (by decide)) (Ok.bind (insert_ok (by decide) (by omega) (by omega)) ?_)
        rintro ⟨q1, q2⟩ ⟨n', g1, g2⟩
        have g3 := g2.le
        rw [show (q1, q2).1 = nI n' from g1]
        refine Ok.pos (inB_n hp (by decide)) (ih w (i + 1) n' _ q2 (by omega) (by omega) ?_ vu_s (fun j hj => by rw [vu_n hj, h2 j hj]) (fun j hj => ?_) ((g2.row hr).congr (fun _ _ => rfl) (fun v => ?_)))
        · have : nf (shp (p * 48 + k0)) (i + 1) = nf (shp (p * 48 + k0)) i + 1 := by
            show nf (shp (p * 48 + k0)) i + (if fits (shp (p * 48 + k0)) i then 1 else 0) = _
            rw [hfit]; rfl
          omega
        · rw [← h3 j hj]
          exact g2.out (by omega)
        · unfold PPr
          constructor
          · rintro ((y | ⟨m, hm, y⟩) | y)
            · exact Or.inl y
            · exact Or.inr ⟨m, by omega, y⟩
            · exact Or.inr ⟨i, by omega, hfit, y, by rw [y]; exact hsub⟩
          · rintro (y | ⟨m, hm, y⟩)
            · exact Or.inl (Or.inl y)
            · by_cases e2 : m = i
              · subst e2; exact Or.inr y.2.1
              · exact Or.inl (Or.inr ⟨m, by omega, y⟩)
theorem r14_ok {p ns E : Nat} (hp : p < 6) {S : Int64} {m : Bool} {tgt : Nat → Int32} {W : Int64} (hT : TW tgt W) {shs : Nat → Int32} {shp : Nat → Int64} (hss : shs p = nI ns) (hS : ShOK shp (p * 48) S m ns) (hE : E = mvE S) {pls0 : Nat → Int32} {pl0 : Nat → Int64} : ∀ k fu i n pls pl, 1100 + k < fu → k + i = ns → n ≤ i * E → pls p = nI n → (∀ j, j ≠ p → pls j = pls0 j) → (∀ j, j < p * 1400 ∨ p * 1400 + 1400 ≤ j → pl j = pl0 j) → Row pl (p * 1400) n (fun v => ∃ j, j < i ∧ OneP (shp (p * 48 + j)) W 64 v) → Ok (f_X7_placesOf_14 (nI p) tgt shs shp fu (nI i) pls pl) (fun q => ∃ n', n' ≤ ns * E ∧ q.1 p = nI n' ∧ (∀ j, j ≠ p → q.1 j = pls0 j) ∧ (∀ j, j < p * 1400 ∨ p * 1400 + 1400 ≤ j → q.2 j = pl0 j) ∧ Row q.2 (p * 1400) n' (fun v => ∃ j, j < ns ∧ OneP (shp (p * 48 + j)) W 64 v)) := by
  intro k
  have hn48 := hS.1
  induction k with
  | zero =>
    intro fu i n pls pl hf hi hn h1 h2 h3 hr
    obtain ⟨w, rfl⟩ : ∃ w, fu = w + 1 := ⟨fu - 1, by omega⟩
    have : i = ns := by omega
    subst this
    rw [f_X7_placesOf_14, cl_n (by omega), hss]
    exact Ok.pos (inB_n hp (by decide)) (Ok.pos (nI_le (Nat.le_refl _) (by omega)) (Ok.some ⟨n, hn, h1, h2, h3, hr⟩))
  | succ k ih =>
    intro fu i n pls pl hf hi hn h1 h2 h3 hr
    obtain ⟨w, rfl⟩ : ∃ w, fu = w + 1 := ⟨fu - 1, by omega⟩
    obtain ⟨a1, a2, a3⟩ := hS.at (show i < ns by omega)
    have hm := most hS
    rw [← hE] at hm a2
    rw [f_X7_placesOf_14, cl_n (by omega), hss]
    refine Ok.pos (inB_n hp (by decide)) (Ok.neg (nI_ge (by omega) (by omega)) (Ok.bind (r26_ok hp hT (k0 := i) (ns := ns) (by omega) hn48 a1 a2 hm 64 w 0 n pls pl (by omega) (by omega) (Nat.le_trans hn (Nat.le_add_right _ _)) h1 h2 h3 (hr.congr (fun _ _ => rfl) (fun v => ?_))) ?_))
    · unfold PPr
      constructor
      · exact Or.inl
      · rintro (y | ⟨m, hm, y⟩)
        · exact y
        · omega
    · rintro ⟨q1, q2⟩ ⟨n', g0, g1, g2, g3, g4⟩
      rw [show nI i + 1 = nI (i + 1) from nI_1 i]
      refine ih w (i + 1) n' q1 q2 (by omega) (by omega) (by rw [Nat.succ_mul]; exact g0) g1 g2 g3 (g4.congr (fun _ _ => rfl) (fun v => ?_))
      unfold PPr
      constructor
      · rintro (⟨j, hj, y⟩ | y)
        · exact ⟨j, by omega, y⟩
        · exact ⟨i, by omega, y⟩
      · rintro ⟨j, hj, y⟩
        by_cases e : j = i
        · subst e; exact Or.inr y
        · exact Or.inl ⟨j, by omega, y⟩
theorem placesOf_ok {fu p : Nat} (hf : 1500 ≤ fu) (hp : p < 6) {set : Nat → Int64} {mm : Nat → Int32} {m : Bool} (hm : mm p = bI m) (hc : cnt (set p) ≤ 10) {tgt : Nat → Int32} {W : Int64} (hT : TW tgt W) (shs : Nat → Int32) (shp : Nat → Int64) (pls : Nat → Int32) (pl : Nat → Int64) : Ok (f_X7_placesOf fu set mm tgt shs shp pls pl (nI p)) (fun q => (∃ n, q.1 p = nI n ∧ ShOK q.2.1 (p * 48) (set p) m n) ∧ (∀ j, j ≠ p → q.1 j = shs j) ∧ (∀ j, j < p * 48 ∨ p * 48 + 48 ≤ j → q.2.1 j = shp j) ∧ (∃ n, q.2.2.1 p = nI n ∧ PlOK q.2.2.2 (p * 1400) (set p) m W n) ∧ (∀ j, j ≠ p → q.2.2.1 j = pls j) ∧ (∀ j, j < p * 1400 ∨ p * 1400 + 1400 ≤ j → q.2.2.2 j = pl j)) := by
  unfold f_X7_placesOf
  refine Ok.bind (shapesOf_ok (by omega) hp hm hc shs shp) ?_
  rintro ⟨shs', shp'⟩ ⟨ns, e1, hS, f1, f2⟩
  have h48 := hS.1
  rw [cl_n (by omega)]
  refine Ok.pos (inB_n hp (by decide)) (Ok.bind (r14_ok hp hT e1 hS rfl (pls0 := pls) (pl0 := pl) ns fu 0 0 _ pl (by omega) (by omega) (by omega) vu_s (fun j hj => vu_n hj) (fun j hj => rfl) (Row.nil (fun v ⟨j, hj, _⟩ => absurd hj (by omega)))) ?_)
  rintro ⟨q1, q2⟩ ⟨n, g0, g1, g2, g3, g4⟩
  have hmo := most hS
  exact Ok.some ⟨⟨ns, e1, hS⟩, f1, f2, ⟨n, g1, by omega, g4.congr (fun _ _ => rfl) (fun v => PlP_row hS v)⟩, g2, g3⟩
