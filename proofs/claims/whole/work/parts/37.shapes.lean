/-! shapes: both rows are the same -/
def PS (S : Int64) (m : Bool) (T : Nat → Nat) (i : Nat) (v : Int64) : Prop := ∃ j, j < i ∧ (m = true ∨ mir (T j) = false) ∧ shp1 S (T j) = v
def ShP (S : Int64) (m : Bool) (v : Int64) : Prop := PS S m id 48 v
def tR (j : Nat) : Nat := tOf (j / 8) (j % 8)
theorem PS.skip {S : Int64} {m : Bool} {T : Nat → Nat} {i : Nat} (h1 : m = false) (h2 : mir (T i) = true) (v : Int64) : PS S m T i v ↔ PS S m T (i + 1) v := by
  constructor
  · rintro ⟨j, hj, q⟩; exact ⟨j, by omega, q⟩
  · rintro ⟨j, hj, q⟩
    by_cases e : j = i
    · subst e; rw [h1, h2] at q; simp at q
    · exact ⟨j, by omega, q⟩
theorem PS.take {S : Int64} {m : Bool} {T : Nat → Nat} {i : Nat} (h : m = true ∨ mir (T i) = false) (v : Int64) : (PS S m T i v ∨ v = shp1 S (T i)) ↔ PS S m T (i + 1) v := by
  constructor
  · rintro (⟨j, hj, q⟩ | q)
    · exact ⟨j, by omega, q⟩
    · exact ⟨i, by omega, h, q.symm⟩
  · rintro ⟨j, hj, q⟩
    by_cases e : j = i
    · subst e; exact Or.inr q.2.symm
    · exact Or.inl ⟨j, by omega, q⟩
theorem PS.ref {S : Int64} {m : Bool} (v : Int64) : PS S m tR 48 v ↔ ShP S m v := by
  constructor
  · rintro ⟨j, hj, q⟩
    exact ⟨tR j, tOf_lt _ (by omega) _ (by omega), q⟩
  · rintro ⟨j, hj, q⟩
    obtain ⟨r, hr, s, hs, e⟩ := tOf_on j hj
    refine ⟨8 * r + s, by omega, ?_⟩
    have : tR (8 * r + s) = j := by
      unfold tR
      rw [show (8 * r + s) / 8 = r by omega, show (8 * r + s) % 8 = s by omega, e]
    rw [this]
    exact q
/-- the shapes of a piece stand in a row -/
def ShOK (f : Nat → Int64) (b : Nat) (S : Int64) (m : Bool) (n : Nat) : Prop := n ≤ 48 ∧ Row f b n (fun v => made S = true ∧ ShP S m v)
theorem ls25_ok {S : Int64} {m : Bool} : ∀ k fu t ss n, 100 + k < fu → k + t = 48 → n ≤ t → Row ss 0 n (PS S m id t) → Ok (f_X1_learnShapes_25 S (bI m) fu (nI t) ss (nI n)) (fun q => ∃ n', q.2 = nI n' ∧ n' ≤ 48 ∧ Row q.1 0 n' (ShP S m)) := by
  intro k
  induction k with
  | zero =>
    intro fu t ss n hf ht hn hr
    obtain ⟨w, rfl⟩ : ∃ w, fu = w + 1 := ⟨fu - 1, by omega⟩
    have : t = 48 := by omega
    subst this
    rw [f_X1_learnShapes_25]
    exact Ok.pos (by decide +kernel) (Ok.some ⟨n, rfl, hn, hr⟩)
  | succ k ih =>
    intro fu t ss n hf ht hn hr
    obtain ⟨w, rfl⟩ : ∃ w, fu = w + 1 := ⟨fu - 1, by omega⟩
    rw [f_X1_learnShapes_25]
    have e1 : nI t + 1 = nI (t + 1) := nI_1 t
    have tail : (m = true ∨ mir t = false) → Ok ((f_X0_turned w S (nI t)).bind fun q31 => ((f_X0_settled w q31).bind fun q32 => ((f_X1_addShape w ss (nI n) q32).bind fun q33 => f_X1_learnShapes_25 S (bI m) w (nI t + (1 : Int32)) q33.1 q33.2))) (fun q => ∃ n', q.2 = nI n' ∧ n' ≤ 48 ∧ Row q.1 0 n' (ShP S m)) := by
      intro hm
      refine Ok.bindE (turned_ok (by omega) (by omega) S) (Ok.bindE (settled_ok (by omega) _) (Ok.bind (addShape_ok (by omega) (by omega)) ?_))
      rintro ⟨q1, q2⟩ ⟨n', h1, h2⟩
      have h3 := h2.le
      rw [e1]
      show Ok (f_X1_learnShapes_25 S (bI m) w (nI (t + 1)) q1 q2) _
      rw [show q2 = nI n' from h1]
      exact ih w (t + 1) q1 n' (by omega) (by omega) (by omega) ((h2.row hr).congr (fun _ _ => rfl) (fun v => PS.take (T := id) hm v))
    refine Ok.neg (by rw [show (48 : Int32) = nI 48 from rfl, le_n (by decide) (by omega)]; omega) (Ok.ite (fun h => ?_) (fun h => ?_))
    · rw [bI_0] at h
      refine Ok.bindE (mirrors_ok t (by omega)) (Ok.ite (fun h2 => ?_) (fun h2 => ?_))
      · rw [bI_0] at h2
        exact tail (Or.inr h2)
      · rw [bI_n0] at h2
        rw [e1]
        exact ih w (t + 1) ss n (by omega) (by omega) (by omega) (hr.congr (fun _ _ => rfl) (fun v => PS.skip (T := id) h h2 v))
    · rw [bI_n0] at h
      exact tail (Or.inl h)
theorem learnShapes_ok {fu : Nat} (hf : 200 ≤ fu) {ss : Nat → Int64} {S : Int64} {m : Bool} {sk sc : Int32} (h : sk = 0 ∨ (sk = 1 ∧ ∃ n, sc = nI n ∧ ShOK ss 0 S m n)) : Ok (f_X1_learnShapes fu ss S (bI m) sk sc) (fun q => q.2.1 = 1 ∧ ∃ n, q.2.2 = nI n ∧ ShOK q.1 0 S m n) := by
  unfold f_X1_learnShapes
  rcases h with h | ⟨h, h2⟩
  · refine Ok.pos h (Ok.bindE (hangs_ok (by omega) S) (Ok.ite (fun h2 => ?_) (fun h2 => ?_)))
    · rw [bI_0] at h2
      exact Ok.some ⟨rfl, 0, rfl, by omega, Row.nil (fun v hv => by rw [h2] at hv; cases hv.1)⟩
    · rw [bI_n0] at h2
      refine Ok.bind (ls25_ok 48 fu 0 ss 0 (by omega) (by omega) (by omega) (Row.nil (fun v ⟨j, hj, _⟩ => absurd hj (by omega)))) ?_
      rintro q ⟨n, h3, h4, h5⟩
      exact Ok.some ⟨rfl, n, h3, h4, h5.congr (fun _ _ => rfl) (fun v => ⟨fun x => ⟨h2, x⟩, fun x => x.2⟩)⟩
  · refine Ok.neg (by rw [h]; decide) (Ok.some ⟨h, h2⟩)
theorem so30_ok {p r : Nat} (hp : p < 6) (hr6 : r < 6) {set : Nat → Int64} {mm : Nat → Int32} {m : Bool} (hm : mm p = bI m) {shs0 : Nat → Int32} {shp0 : Nat → Int64} : ∀ k fu s n shs shp, 100 + k < fu → k + s = 8 → n ≤ 8 * r + s → shs p = nI n → (∀ j, j ≠ p → shs j = shs0 j) → (∀ j, j < p * 48 ∨ p * 48 + 48 ≤ j → shp j = shp0 j) → Row shp (p * 48) n (PS (set p) m tR (8 * r + s)) → Ok (f_X7_shapesOf_30 (nI p) (nI r) set mm fu (nI s) shs shp) (fun q => ∃ n', n' ≤ 8 * r + 8 ∧ q.1 p = nI n' ∧ (∀ j, j ≠ p → q.1 j = shs0 j) ∧ (∀ j, j < p * 48 ∨ p * 48 + 48 ≤ j → q.2 j = shp0 j) ∧ Row q.2 (p * 48) n' (PS (set p) m tR (8 * r + 8))) := by
  intro k
  induction k with
  | zero =>
    intro fu s n shs shp hf hs hn h1 h2 h3 hr
    obtain ⟨w, rfl⟩ : ∃ w, fu = w + 1 := ⟨fu - 1, by omega⟩
    have : s = 8 := by omega
    subst this
    rw [f_X7_shapesOf_30]
    exact Ok.pos (by decide +kernel) (Ok.some ⟨n, hn, h1, h2, h3, hr⟩)
  | succ k ih =>
    intro fu s n shs shp hf hs hn h1 h2 h3 hr
    obtain ⟨w, rfl⟩ : ∃ w, fu = w + 1 := ⟨fu - 1, by omega⟩
    rw [f_X7_shapesOf_30]
    have e1 : nI s + 1 = nI (s + 1) := nI_1 s
    have hT : tR (8 * r + s) = tOf r s := by
      unfold tR
      rw [show (8 * r + s) / 8 = r by omega, show (8 * r + s) % 8 = s by omega]
    have tail : (m = true ∨ mir (tR (8 * r + s)) = false) → Ok (if inB (nI p) 6 = true then (if inB (nI p) 6 = true then ((f_X7_turned w (set (nI p).toNatClampNeg) (nI r) (nI s)).bind fun q126 => ((f_X7_insert w 288 shp (nI p * (48 : Int32)) (shs (nI p).toNatClampNeg) q126).bind fun q127 => (if inB (nI p) 6 = true then f_X7_shapesOf_30 (nI p) (nI r) set mm w (nI s + (1 : Int32)) (va_up shs (nI p).toNatClampNeg q127.1) q127.2 else none))) else none) else none) (fun q => ∃ n', n' ≤ 8 * r + 8 ∧ q.1 p = nI n' ∧ (∀ j, j ≠ p → q.1 j = shs0 j) ∧ (∀ j, j < p * 48 ∨ p * 48 + 48 ≤ j → q.2 j = shp0 j) ∧ Row q.2 (p * 48) n' (PS (set p) m tR (8 * r + 8))) := by
      intro hmi
      rw [cl_n (by omega)]
      refine Ok.pos (inB_n hp (by decide)) (Ok.pos (inB_n hp (by decide)) (Ok.bindE (rturned_ok (by omega) hr6 (by omega) _) ?_))
      rw [h1, show nI p * 48 = nI (p * 48) from pk_mul p 48]
      refine Ok.bind (insert_ok (by decide) (by omega) (by omega)) ?_
      rintro ⟨q1, q2⟩ ⟨n', g1, g2⟩
      have g3 := g2.le
      refine Ok.pos (inB_n hp (by decide)) ?_
      rw [e1, show (q1, q2).1 = nI n' from g1]
      refine ih w (s + 1) n' _ q2 (by omega) (by omega) (by omega) vu_s (fun j hj => by rw [vu_n hj, h2 j hj]) (fun j hj => ?_) ((g2.row hr).congr (fun _ _ => rfl) (fun v => ?_))
      · rw [← h3 j hj]
        exact g2.out (by omega)
      · rw [← hT]
        exact PS.take (T := tR) hmi v
    refine Ok.neg (by rw [show (8 : Int32) = nI 8 from rfl, le_n (by decide) (by omega)]; omega) (Ok.ite (fun h => ?_) (fun h => ?_))
    · rw [flips_ok r hr6 s (by omega), ← hT] at h
      exact tail (Or.inr h)
    · rw [flips_ok r hr6 s (by omega), ← hT, Bool.not_eq_false] at h
      refine Ok.pos (inB_n hp (by decide)) (Ok.ite (fun g => ?_) (fun g => ?_))
      · rw [cl_n (by omega), hm, bI_0] at g
        rw [e1]
        exact ih w (s + 1) n shs shp (by omega) (by omega) (by omega) h1 h2 h3 (hr.congr (fun _ _ => rfl) (fun v => PS.skip g h v))
      · rw [cl_n (by omega), hm, bI_n0] at g
        exact tail (Or.inl g)
theorem so22_ok {p : Nat} (hp : p < 6) {set : Nat → Int64} {mm : Nat → Int32} {m : Bool} (hm : mm p = bI m) {shs0 : Nat → Int32} {shp0 : Nat → Int64} : ∀ k fu r n shs shp, 200 + k < fu → k + r = 6 → n ≤ 8 * r → shs p = nI n → (∀ j, j ≠ p → shs j = shs0 j) → (∀ j, j < p * 48 ∨ p * 48 + 48 ≤ j → shp j = shp0 j) → Row shp (p * 48) n (PS (set p) m tR (8 * r)) → Ok (f_X7_shapesOf_22 (nI p) set mm fu (nI r) shs shp) (fun q => ∃ n', n' ≤ 48 ∧ q.1 p = nI n' ∧ (∀ j, j ≠ p → q.1 j = shs0 j) ∧ (∀ j, j < p * 48 ∨ p * 48 + 48 ≤ j → q.2 j = shp0 j) ∧ Row q.2 (p * 48) n' (ShP (set p) m)) := by
  intro k
  induction k with
  | zero =>
    intro fu r n shs shp hf hr6 hn h1 h2 h3 hr
    obtain ⟨w, rfl⟩ : ∃ w, fu = w + 1 := ⟨fu - 1, by omega⟩
    have : r = 6 := by omega
    subst this
    rw [f_X7_shapesOf_22]
    exact Ok.pos (by decide +kernel) (Ok.some ⟨n, hn, h1, h2, h3, hr.congr (fun _ _ => rfl) (fun v => PS.ref v)⟩)
  | succ k ih =>
    intro fu r n shs shp hf hr6 hn h1 h2 h3 hr
    obtain ⟨w, rfl⟩ : ∃ w, fu = w + 1 := ⟨fu - 1, by omega⟩
    rw [f_X7_shapesOf_22]
    refine Ok.neg (by rw [show (6 : Int32) = nI 6 from rfl, le_n (by decide) (by omega)]; omega) (Ok.bind (so30_ok hp (by omega) hm 8 w 0 n shs shp (by omega) (by omega) (by omega) h1 h2 h3 hr) ?_)
    rintro ⟨q1, q2⟩ ⟨n', g0, g1, g2, g3, g4⟩
    rw [show nI r + 1 = nI (r + 1) from nI_1 r]
    exact ih w (r + 1) n' q1 q2 (by omega) (by omega) (by omega) g1 g2 g3 g4
theorem shapesOf_ok {fu p : Nat} (hf : 400 ≤ fu) (hp : p < 6) {set : Nat → Int64} {mm : Nat → Int32} {m : Bool} (hm : mm p = bI m) (hc : cnt (set p) ≤ 10) (shs : Nat → Int32) (shp : Nat → Int64) : Ok (f_X7_shapesOf fu set mm shs shp (nI p)) (fun q => ∃ n, q.1 p = nI n ∧ ShOK q.2 (p * 48) (set p) m n ∧ (∀ j, j ≠ p → q.1 j = shs j) ∧ (∀ j, j < p * 48 ∨ p * 48 + 48 ≤ j → q.2 j = shp j)) := by
  unfold f_X7_shapesOf
  rw [cl_n (by omega)]
  refine Ok.pos (inB_n hp (by decide)) (Ok.pos (inB_n hp (by decide)) (Ok.bindE (isMade_ok (by omega) hc) (Ok.ite (fun h2 => ?_) (fun h2 => ?_))))
  · rw [bI_0] at h2
    exact Ok.some ⟨0, vu_s, ⟨by omega, Row.nil (fun v hv => by rw [h2] at hv; cases hv.1)⟩, fun j hj => vu_n hj, fun j hj => rfl⟩
  · rw [bI_n0] at h2
    refine Ok.bind (so22_ok hp hm (shs0 := shs) (shp0 := shp) 6 fu 0 0 _ shp (by omega) (by omega) (by omega) vu_s (fun j hj => vu_n hj) (fun j hj => rfl) (Row.nil (fun v ⟨j, hj, _⟩ => absurd hj (by omega)))) ?_
    rintro ⟨q1, q2⟩ ⟨n', g0, g1, g2, g3, g4⟩
    exact Ok.some ⟨n', g1, ⟨g0, g4.congr (fun _ _ => rfl) (fun v => ⟨fun x => ⟨h2, x⟩, fun x => x.2⟩)⟩, g2, g3⟩
theorem ShOK.same {f g : Nat → Int64} {b b' n n' : Nat} {S : Int64} {m : Bool} (h : ShOK f b S m n) (h' : ShOK g b' S m n') : n = n' ∧ ∀ i, i < n → f (b + i) = g (b' + i) := h.2.same h'.2
