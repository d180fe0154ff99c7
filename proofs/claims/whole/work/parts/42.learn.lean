/-! the class learns its places, and the index of them -/
def PlP (S : Int64) (m : Bool) (W v : Int64) : Prop := made S = true ∧ ∃ s, ShP S m s ∧ OneP s W 64 v
def PlOK (f : Nat → Int64) (b : Nat) (S : Int64) (m : Bool) (W : Int64) (n : Nat) : Prop := n ≤ 896 ∧ Row f b n (PlP S m W)
theorem PlOK.same {f g : Nat → Int64} {b b' n n' : Nat} {S : Int64} {m : Bool} {W : Int64} (h : PlOK f b S m W n) (h' : PlOK g b' S m W n') : n = n' ∧ ∀ i, i < n → f (b + i) = g (b' + i) := h.2.same h'.2
theorem made_ne {S : Int64} (h : made S = true) : S ≠ 0 := by
  unfold made at h
  rw [decide_eq_true_eq] at h
  exact h.1
theorem ShOK.at {f : Nat → Int64} {b n : Nat} {S : Int64} {m : Bool} (h : ShOK f b S m n) {i : Nat} (hi : i < n) : Set0 (f (b + i)) ∧ mvs (f (b + i)) = mvE S ∧ S ≠ 0 := by
  obtain ⟨h1, t, ht, _, e⟩ := (h.2.2 _).2 ⟨i, hi, rfl⟩
  have h0 := made_ne h1
  rw [← e]
  exact ⟨shp_set0 ht h0, mvs_shp ht h0, h0⟩
theorem OneP.st {s W : Int64} {v : Int64} (hs : Set0 s) (h : OneP s W 64 v) : st v = s := by
  obtain ⟨m, hm, hf, e, _⟩ := h
  rw [e]
  exact st_shl hs hm hf
theorem mvs_le (s : Int64) : mvs s ≤ 64 := by
  rw [← nf_64]
  exact nf_le s 64
theorem l28_ok {ss : Nat → Int64} {S W : Int64} {m : Bool} {ns : Nat} (h : ShOK ss 0 S m ns) : ∀ k fu i ps n oo, 1100 + k < fu → k + i = ns → n ≤ i * mvE S → Row ps 0 n (fun v => ∃ j, j < i ∧ OneP (ss (0 + j)) W 64 v) → Ok (f_X1_learnPlaces_28 W ss (nI ns) fu (nI i) ps oo (nI n)) (fun q => ∃ n', q.2.2 = nI n' ∧ n' ≤ ns * mvE S ∧ Row q.1 0 n' (fun v => ∃ j, j < ns ∧ OneP (ss (0 + j)) W 64 v)) := by
  intro k
  have h48 := h.1
  induction k with
  | zero =>
    intro fu i ps n oo hf hi hn hr
    obtain ⟨w, rfl⟩ : ∃ w, fu = w + 1 := ⟨fu - 1, by omega⟩
    have : i = ns := by omega
    subst this
    rw [f_X1_learnPlaces_28]
    exact Ok.pos (nI_le (Nat.le_refl _) (by omega)) (Ok.some ⟨n, rfl, hn, hr⟩)
  | succ k ih =>
    intro fu i ps n oo hf hi hn hr
    obtain ⟨w, rfl⟩ : ∃ w, fu = w + 1 := ⟨fu - 1, by omega⟩
    have hin : i < ns := by omega
    obtain ⟨hs, hm, h0⟩ := h.at hin
    rw [f_X1_learnPlaces_28, cl_n (by omega)]
    rw [Nat.zero_add] at hs hm
    refine Ok.neg (nI_ge hin (by omega)) (Ok.pos (inB_n (by omega) (by decide)) (Ok.bind (placeOne_ok (by omega) hs.1 oo) ?_))
    rintro ⟨c1, oo'⟩ ⟨c, e, hc, hro⟩
    have hmul : (i + 1) * mvE S = i * mvE S + mvE S := Nat.succ_mul _ _
    have hmost := most h
    have hle : (i + 1) * mvE S ≤ ns * mvE S := Nat.mul_le_mul_right _ (by omega)
    have hc64 := mvs_le (ss i)
    rw [hm] at hc
    rw [show (c1, oo').1 = nI c from e]
    refine Ok.bind (mergeIn_ok (by omega) hr hro ?_ (by omega) (by omega)) ?_
    · rintro v ⟨j, hj, hv⟩ hv'
      have e1 := hv.st (h.at (show j < ns by omega)).1
      have e2 := hv'.st hs
      have := h.2.1 j i hj hin
      rw [Nat.zero_add, Nat.zero_add] at this
      rw [Nat.zero_add] at e1
      rw [← e1, ← e2] at this
      omega
    · rintro ⟨q1, q2⟩ ⟨g1, g2⟩
      rw [show nI i + 1 = nI (i + 1) from nI_1 i, show (q1, q2).2 = nI (n + c) from g1]
      refine ih w (i + 1) q1 (n + c) oo' (by omega) (by omega) (by omega) (g2.congr (fun _ _ => rfl) (fun v => ?_))
      constructor
      · rintro (⟨j, hj, q⟩ | q)
        · exact ⟨j, by omega, q⟩
        · exact ⟨i, by omega, by rw [Nat.zero_add]; exact q⟩
      · rintro ⟨j, hj, q⟩
        by_cases e : j = i
        · subst e; rw [Nat.zero_add] at q; exact Or.inr q
        · exact Or.inl ⟨j, by omega, q⟩
theorem PlP_row {f : Nat → Int64} {b ns : Nat} {S W : Int64} {m : Bool} (h : ShOK f b S m ns) (v : Int64) : (∃ j, j < ns ∧ OneP (f (b + j)) W 64 v) ↔ PlP S m W v := by
  constructor
  · rintro ⟨j, hj, q⟩
    obtain ⟨h1, h2⟩ := (h.2.2 _).2 ⟨j, hj, rfl⟩
    exact ⟨h1, _, h2, q⟩
  · rintro ⟨h1, s, h2, q⟩
    obtain ⟨j, hj, e⟩ := (h.2.2 s).1 ⟨h1, h2⟩
    exact ⟨j, hj, by rw [e]; exact q⟩
theorem fill_ok {v : Int64} {f : Nat → Int64} : ∀ k fu i g, k < fu → k + i = 910 → (∀ j, j < i → g j = v) → Ok (f_J7_fill_d0a16_6 910 v (Int32.ofNat 910) fu (nI i) g) (fun q => ∀ j, j < 910 → q j = v) := by
  intro k
  induction k with
  | zero =>
    intro fu i g hf hi hg
    obtain ⟨w, rfl⟩ : ∃ w, fu = w + 1 := ⟨fu - 1, by omega⟩
    have : i = 910 := by omega
    subst this
    rw [f_J7_fill_d0a16_6]
    exact Ok.pos (by decide +kernel) (Ok.some hg)
  | succ k ih =>
    intro fu i g hf hi hg
    obtain ⟨w, rfl⟩ : ∃ w, fu = w + 1 := ⟨fu - 1, by omega⟩
    rw [f_J7_fill_d0a16_6, cl_n (by omega), show nI i + 1 = nI (i + 1) from nI_1 i]
    refine Ok.neg (nI_ge (a := i) (b := 910) (by omega) (by decide)) (Ok.pos (inB_n (by omega) (by decide)) (ih w (i + 1) _ (by omega) (by omega) (fun j hj => ?_)))
    by_cases e : j = i
    · subst e; exact vu_s
    · rw [vu_n e]; exact hg j (by omega)
/-- the index: which places have a cell -/
def IdxOK (hv ps : Nat → Int64) (n : Nat) : Prop := ∀ c, c ≤ 64 → ∀ w, w < 14 → ∀ b, b < 64 → B (hv (c * 14 + w)) b = (decide (64 * w + b < n) && (decide (c = 64) || B (ps (64 * w + b)) c))
def Hv (H : Nat → Int64) (S bit : Int64) (w i : Nat) (hv : Nat → Int64) : Prop := (∀ c, c < 64 → hv (c * 14 + w) = if c < i ∧ B S c = true then H (c * 14 + w) ||| bit else H (c * 14 + w)) ∧ ∀ j, (∀ c, c < 64 → j ≠ c * 14 + w) → hv j = H j
theorem i52_ok {S bit : Int64} {H : Nat → Int64} {w : Nat} (hw : w < 14) : ∀ k fu (R : Int64) i hv, k < fu → 64 ≤ k + i → (∀ c, B R c = (B S c && decide (i ≤ c))) → Hv H S bit w i hv → Ok (f_X1_indexPlaces_52 (nI w) bit fu R hv) (Hv H S bit w 64) := by
  intro k
  have done : ∀ i hv, (∀ c, i ≤ c → c < 64 → B S c = false) → Hv H S bit w i hv → Hv H S bit w 64 hv := by
    intro i hv hz h
    refine ⟨fun c hc => ?_, h.2⟩
    rw [h.1 c hc]
    by_cases q : c < i
    · have : c < 64 := hc
      simp [q, this]
    · rw [hz c (by omega) hc]
      simp
  induction k with
  | zero =>
    intro fu R i hv hf hi hR h
    obtain ⟨n, rfl⟩ : ∃ n, fu = n + 1 := ⟨fu - 1, by omega⟩
    rw [f_X1_indexPlaces_52]
    have h0 : R = 0 := B_zero.2 (fun c hc => by rw [hR]; simp; intro _; omega)
    exact Ok.pos h0 (Ok.some (done i hv (fun c h1 h2 => absurd h2 (by omega)) h))
  | succ k ih =>
    intro fu R i hv hf hi hR h
    obtain ⟨n, rfl⟩ : ∃ n, fu = n + 1 := ⟨fu - 1, by omega⟩
    rw [f_X1_indexPlaces_52]
    refine Ok.ite (fun h0 => ?_) (fun h0 => ?_)
    · refine Ok.some (done i hv (fun c h1 h2 => ?_) h)
      have := hR c
      rw [h0, B_0] at this
      cases hS : B S c
      · rfl
      · rw [hS] at this; simp at this; omega
    · obtain ⟨c0, g1, g2, g3, g4, g5, g6⟩ := low_rest hR h0
      refine Ok.bindE g5 ?_
      rw [show (14 : Int32) = nI 14 from rfl, pk_mul, nI_add, cl_n (by omega)]
      refine Ok.pos (inB_n (by omega) (by decide)) (Ok.pos (inB_n (by omega) (by decide)) (ih n _ (c0 + 1) _ (by omega) (by omega) g6 ⟨fun c hc => ?_, fun j hj => ?_⟩))
      · by_cases e : c = c0
        · subst e
          rw [vu_s, h.1 c hc]
          have : ¬ (c < i ∧ B S c = true) := by omega
          rw [if_neg this, if_pos ⟨by omega, g3⟩]
        · rw [vu_n (by omega), h.1 c hc]
          by_cases q : c < i
          · simp [q, show c < c0 + 1 by omega]
          · by_cases q2 : c < c0
            · rw [g4 c (by omega) q2]; simp
            · simp [q, show ¬ c < c0 + 1 by omega]
      · rw [vu_n (hj c0 g2)]
        exact h.2 j hj
theorem i10_ok {ps : Nat → Int64} {n : Nat} (hn : n ≤ 896) : ∀ k fu i hv, 70 + k < fu → k + i = n → IdxOK hv ps i → Ok (f_X1_indexPlaces_10 ps (nI n) fu (nI i) hv) (fun q => IdxOK q ps n) := by
  intro k
  induction k with
  | zero =>
    intro fu i hv hf hi h
    obtain ⟨w, rfl⟩ : ∃ w, fu = w + 1 := ⟨fu - 1, by omega⟩
    have : i = n := by omega
    subst this
    rw [f_X1_indexPlaces_10]
    exact Ok.pos (nI_le (Nat.le_refl _) (by omega)) (Ok.some h)
  | succ k ih =>
    intro fu i hv hf hi h
    obtain ⟨w, rfl⟩ : ∃ w, fu = w + 1 := ⟨fu - 1, by omega⟩
    rw [f_X1_indexPlaces_10]
    have r1 : nI i - nI i / 64 * 64 = nI (i % 64) := pk_rem (d := 64) (by omega) (by decide) (by decide)
    have d1 : nI i / 64 = nI (i / 64) := pk_div (d := 64) (by omega) (by decide) (by decide)
    rw [r1, d1, show (896 : Int32) = nI 896 from rfl, nI_add, cl_n (by omega), cl_n (by omega), show nI i + 1 = nI (i + 1) from nI_1 i]
    refine Ok.neg (nI_ge (by omega) (by omega)) (Ok.pos (inB_n (by omega) (by decide)) (Ok.pos (inB_n (by omega) (by decide)) (Ok.pos (inB_n (by omega) (by decide)) ?_)))
    refine Ok.bind (i52_ok (S := ps i) (w := i / 64) (by omega) 64 w (ps i) 0 _ (by omega) (by omega) (fun c => by simp) ⟨fun c hc => by simp, fun j hj => rfl⟩) ?_
    rintro q ⟨g1, g2⟩
    refine ih w (i + 1) q (by omega) (by omega) (fun c hc w' hw' b hb => ?_)
    have hb64 : B ((1 : Int64) <<< ((nI (i % 64)).toInt64 &&& 63)) b = decide (b = i % 64) := B_one (by omega) b
    have hI := h c hc w' hw' b hb
    by_cases e : w' = i / 64
    · subst e
      have hdec : decide (64 * (i / 64) + b < i + 1) = (decide (64 * (i / 64) + b < i) || decide (b = i % 64)) := by
        by_cases q1 : b = i % 64
        · have : 64 * (i / 64) + b < i + 1 := by omega
          simp [q1, this]
          omega
        · by_cases q2 : 64 * (i / 64) + b < i
          · simp [q1, q2]; omega
          · simp [q1, q2]; omega
      have hps : b = i % 64 → ps (64 * (i / 64) + b) = ps i := fun q => by rw [q]; congr 1; omega
      by_cases e2 : c = 64
      · subst e2
        rw [g2 _ (fun c' hc' => by omega), show 64 * 14 + i / 64 = 896 + i / 64 by omega, vu_s, B_or, hb64]
        rw [show 64 * 14 + i / 64 = 896 + i / 64 by omega] at hI
        rw [hI, hdec]
        simp
      · have hc64 : c < 64 := by omega
        rw [g1 c hc64, vu_n (by omega)]
        by_cases e3 : B (ps i) c = true
        · rw [if_pos ⟨hc64, e3⟩, B_or, hb64, hI, hdec]
          simp only [e2, decide_false, Bool.false_or]
          by_cases q1 : b = i % 64
          · rw [hps q1, e3]; simp [q1]
          · simp [q1]
        · rw [if_neg (fun z => e3 z.2), hI, hdec]
          simp only [e2, decide_false, Bool.false_or]
          by_cases q1 : b = i % 64
          · rw [hps q1]
            simp [e3]
          · simp [q1]
    · rw [g2 _ (fun c' hc' => by omega), vu_n (by omega), hI]
      have : decide (64 * w' + b < i) = decide (64 * w' + b < i + 1) := by
        by_cases q : 64 * w' + b < i
        · simp [q]; omega
        · simp [q]; omega
      rw [this]
theorem index_ok {fu n : Nat} (hf : 1100 ≤ fu) (hn : n ≤ 896) (ps hv : Nat → Int64) : Ok (f_X1_indexPlaces fu ps hv (nI n)) (fun q => IdxOK q ps n) := by
  unfold f_X1_indexPlaces f_J7_fill_d0a16
  refine Ok.bind (P := fun q => ∀ j, j < 910 → q j = 0) (Ok.bind (fill_ok (f := hv) 910 fu 0 hv (by omega) (by omega) (fun j hj => absurd hj (by omega))) (fun r h => Ok.some h)) ?_
  intro q hq
  refine Ok.bind (i10_ok hn n fu 0 q (by omega) (by omega) (fun c hc w hw b hb => ?_)) (fun r h => Ok.some h)
  rw [hq _ (by omega), B_0]
  simp
/-- what a piece of the class knows is right -/
def PcI (S : Int64) (m : Bool) (ss ps hv : Nat → Int64) (sk pk : Int32) (kw : Int64) (sc pn : Int32) : Prop := (sk = 0 ∨ (sk = 1 ∧ ∃ n, sc = nI n ∧ ShOK ss 0 S m n)) ∧ (pk = 0 ∨ (pk = 1 ∧ ∃ n, pn = nI n ∧ PlOK ps 0 S m kw n ∧ IdxOK hv ps n))
theorem learnPlaces_ok {fu : Nat} (hf : 2100 ≤ fu) {S : Int64} {m : Bool} {ss ps hv oo : Nat → Int64} {sk pk : Int32} {kw : Int64} {sc pn : Int32} (W : Int64) (h : PcI S m ss ps hv sk pk kw sc pn) : Ok (f_X1_learnPlaces fu ss ps hv oo S (bI m) sk pk kw sc pn W) (fun q => q.2.2.2.2.1 = 1 ∧ q.2.2.2.2.2.1 = 1 ∧ q.2.2.2.2.2.2.1 = W ∧ (∃ n, q.2.2.2.2.2.2.2.1 = nI n ∧ ShOK q.1 0 S m n) ∧ ∃ n, q.2.2.2.2.2.2.2.2 = nI n ∧ PlOK q.2.1 0 S m W n ∧ IdxOK q.2.2.1 q.2.1 n) := by
  unfold f_X1_learnPlaces
  refine Ok.bind (learnShapes_ok (by omega) h.1) ?_
  rintro ⟨ss', sk', sc'⟩ ⟨e1, ns, e2, hs⟩
  replace e1 : sk' = 1 := e1
  replace e2 : sc' = nI ns := e2
  subst e1 e2
  have again : Ok ((f_X1_learnPlaces_28 W ss' (nI ns) fu (0 : Int32) ps oo (0 : Int32)).bind fun q15 => ((f_X1_indexPlaces fu q15.1 hv q15.2.2).bind fun q16 => some (ss', q15.1, q16, q15.2.1, (1 : Int32), (1 : Int32), W, nI ns, q15.2.2))) (fun q => q.2.2.2.2.1 = 1 ∧ q.2.2.2.2.2.1 = 1 ∧ q.2.2.2.2.2.2.1 = W ∧ (∃ n, q.2.2.2.2.2.2.2.1 = nI n ∧ ShOK q.1 0 S m n) ∧ ∃ n, q.2.2.2.2.2.2.2.2 = nI n ∧ PlOK q.2.1 0 S m W n ∧ IdxOK q.2.2.1 q.2.1 n) := by
    have h48 := hs.1
    refine Ok.bind (l28_ok hs ns fu 0 ps 0 oo (by omega) (by omega) (by omega) (Row.nil (fun v ⟨j, hj, _⟩ => absurd hj (by omega)))) ?_
    rintro ⟨q1, q2, q3⟩ ⟨n, e, h1, h2⟩
    replace e : q3 = nI n := e
    subst e
    have hm := most hs
    refine Ok.bind (index_ok (by omega) (n := n) (by omega) q1 hv) ?_
    intro r hr
    exact Ok.some ⟨rfl, rfl, rfl, ⟨ns, rfl, hs⟩, n, rfl, ⟨by omega, h2.congr (fun _ _ => rfl) (fun v => PlP_row hs v)⟩, hr⟩
  rcases h.2 with q | ⟨q, n, e, h1, h2⟩
  · exact Ok.pos q again
  · refine Ok.neg (by rw [q]; decide) (Ok.ite (fun z => ?_) (fun z => again))
    subst z
    exact Ok.some ⟨rfl, q, rfl, ⟨ns, rfl, hs⟩, n, e, h1, h2⟩
