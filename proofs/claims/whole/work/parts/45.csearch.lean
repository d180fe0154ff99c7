/-! the class's search does the events -/
def SS (bud : Nat) (ch : Nat → Int64) (L : Nat) (r : Rs) (tri fou en eh : Int32) (cho : Nat → Int64) : Prop := r.1 ≤ bud ∧ tri = nI r.1 ∧ fou = nI r.2.1 ∧ (match r.2.2 with | none => en = 0 ∧ eh = 1 ∧ ∀ p, p < 6 → L.testBit p = false → cho p = ch p | some none => en = 1 ∧ eh = 0 | some (some c) => en = 1 ∧ eh = 1 ∧ ∀ p, p < 6 → cho p = c p)
def SSt (bud : Nat) (ch : Nat → Int64) (L : Nat) (r : Rs) (q : Int32 × Int32 × Int32 × Int32 × (Nat → Int64)) : Prop := SS bud ch L r q.1 q.2.1 q.2.2.1 q.2.2.2.1 q.2.2.2.2
def SSx (bud : Nat) (ch : Nat → Int64) (L : Nat) (r : Rs) (q : (Int32 × Int32 × Int32 × Int32 × (Nat → Int64)) ⊕ (Int32 × Int32 × Int32 × Int32 × (Nat → Int64))) : Prop := match q with | .inl s => SSt bud ch L r s ∧ r.2.2 ≠ none | .inr s => SSt bud ch L r s
theorem SS.going {bud : Nat} {ch : Nat → Int64} {L : Nat} {r : Rs} {tri fou en eh : Int32} {cho : Nat → Int64} (h : SS bud ch L r tri fou en eh cho) (he : en = 0) : r.2.2 = none ∧ eh = 1 ∧ ∀ p, p < 6 → L.testBit p = false → cho p = ch p := by
  obtain ⟨t, f, s⟩ := r
  obtain ⟨_, _, _, h4⟩ := h
  cases s with
  | none => exact ⟨rfl, h4.2⟩
  | some x =>
    cases x with
    | none => rw [he] at h4; exact absurd h4.1 (by decide)
    | some c => rw [he] at h4; exact absurd h4.1 (by decide)
theorem SS.ended {bud : Nat} {ch : Nat → Int64} {L : Nat} {r : Rs} {tri fou en eh : Int32} {cho : Nat → Int64} (h : SS bud ch L r tri fou en eh cho) (he : ¬ en = 0) : ∃ x, r.2.2 = some x := by
  obtain ⟨t, f, s⟩ := r
  obtain ⟨_, _, _, h4⟩ := h
  cases s with
  | none => exact absurd h4.1 he
  | some x => exact ⟨x, rfl⟩
/-- what the search knows of a piece -/
def CK (PL phv : Nat → Nat → Int64) (ppn : Nat → Int32) (n : Nat → Nat) (p : Nat) : Prop := ppn p = nI (n p) ∧ n p ≤ 896 ∧ IdxOK (phv p) (PL p) (n p)
abbrev RecT : Type := Int32 → Int32 → Int32 → Int32 → (Nat → Int64) → Int32 → Int64 → Int32 → Option (Int32 × Int32 × Int32 × Int32 × (Nat → Int64))
def RecOK (PL : Nat → Nat → Int64) (n : Nat → Nat) (su : Int64) (bud : Nat) (wan : Int32) (k : Nat) (L : Nat) (rec : RecT) : Prop := ∀ p, p < 6 → L.testBit p = true → ∀ T ch r tri fou en eh cho, SS bud ch (clrB L p) r tri fou en eh cho → r.2.2 = none → Ok (rec tri fou en eh cho (nI (7 - k)) T (nI (clrB L p))) (SSt bud ch (clrB L p) (run bud wan (evs PL n su k T (clrB L p) ch) r))
theorem SS.down {bud : Nat} {ch cho : Nat → Int64} {L p : Nat} (hL : L < 64) (hp : p < 6) {v : Int64} {t f : Nat} (ht : t ≤ bud) (h : ∀ q, q < 6 → L.testBit q = false → cho q = ch q) : SS bud (va_up ch p v) (clrB L p) (t, f, none) (nI t) (nI f) 0 1 (va_up cho p v) := by
  refine ⟨ht, rfl, rfl, rfl, rfl, fun q hq hb => ?_⟩
  by_cases e : q = p
  · subst e; rw [vu_s, vu_s]
  · rw [vu_n e, vu_n e]
    refine h q hq ?_
    rw [clrB_b0 L hL p hp q hq] at hb
    simpa [e] using hb
theorem SS.up {bud : Nat} {ch : Nat → Int64} {L p : Nat} (hL : L < 64) (hp : p < 6) (hb : L.testBit p = true) {v : Int64} {r : Rs} {tri fou en eh : Int32} {cho : Nat → Int64} (h : SS bud (va_up ch p v) (clrB L p) r tri fou en eh cho) : SS bud ch L r tri fou en eh cho := by
  obtain ⟨t, f, s⟩ := r
  obtain ⟨h1, h2, h3, h4⟩ := h
  refine ⟨h1, h2, h3, ?_⟩
  cases s with
  | none =>
    refine ⟨h4.1, h4.2.1, fun q hq hz => ?_⟩
    have e : q ≠ p := fun e => by subst e; rw [hb] at hz; cases hz
    have := h4.2.2 q hq (by rw [clrB_b0 L hL p hp q hq, hz]; rfl)
    rw [vu_n e] at this
    exact this
  | some x => cases x <;> exact h4
theorem evP_app (PL : Nat → Nat → Int64) (n : Nat → Nat) (sub : Int64 → Nat → (Nat → Int64) → List Ev) (T : Int64) (L : Nat) (ch : Nat → Int64) (cl p a b i : Nat) : evP PL n sub T L ch cl p (a + b) i = evP PL n sub T L ch cl p a i ++ evP PL n sub T L ch cl p b (i + a) := by
  unfold evP
  rw [cL_add, List.flatMap_append]
theorem evP_nil {PL : Nat → Nat → Int64} {n : Nat → Nat} {sub : Int64 → Nat → (Nat → Int64) → List Ev} {T : Int64} {L : Nat} {ch : Nat → Int64} {cl p k i : Nat} (h : ∀ j, i ≤ j → j < i + k → okc PL n cl p j = false) : evP PL n sub T L ch cl p k i = [] := by
  unfold evP
  rw [cL_nil k i h]
  rfl
theorem evP_one {PL : Nat → Nat → Int64} {n : Nat → Nat} {sub : Int64 → Nat → (Nat → Int64) → List Ev} {T : Int64} {L : Nat} {ch : Nat → Int64} {cl p k i : Nat} (h : okc PL n cl p i = true) : evP PL n sub T L ch cl p (k + 1) i = evC PL sub T L ch p i ++ evP PL n sub T L ch cl p k (i + 1) := by
  unfold evP
  show (if okc PL n cl p i = true then i :: cL (okc PL n cl p) k (i + 1) else cL (okc PL n cl p) k (i + 1)).flatMap _ = _
  rw [if_pos h, List.flatMap_cons]
theorem tp35_ok {PL : Nat → Nat → Int64} {n : Nat → Nat} {su T : Int64} {bud k L cl p w : Nat} {wan : Int32} {ch : Nat → Int64} {rec : RecT} (hbud : bud ≤ 200000) (hk : k ≤ 6) (hL : L < 64) (hp : p < 6) (hb : L.testBit p = true) (hw : w < 14) (hrec : RecOK PL n su bud wan k L rec) {X : Int64} (hX : ∀ c, c < 64 → B X c = okc PL n cl p (64 * w + c)) : ∀ m fu (R : Int64) b r tri fou en eh cho, m < fu → m + b = 64 → (∀ c, B R c = (B X c && decide (b ≤ c))) → SS bud ch L r tri fou en eh cho → Ok (f_X2_tryPiece_35 rec (nI p) (nI (6 - k)) T (nI L) (nI w) PL (nI bud) fu R tri fou en eh cho) (SSx bud ch L (run bud wan (evP PL n (evs PL n su k) T L ch cl p (64 - b) (64 * w + b)) r)) := by
  intro m
  induction m using Nat.strongRecOn with
  | ind m ih =>
    intro fu R b r tri fou en eh cho hf hmb hR hS
    obtain ⟨fu', rfl⟩ : ∃ x, fu = x + 1 := ⟨fu - 1, by omega⟩
    rw [f_X2_tryPiece_35]
    refine Ok.ite (fun h0 => ?_) (fun h0 => ?_)
    · refine Ok.some ?_
      rw [evP_nil (fun j h1 h2 => ?_), run_nil]
      · exact hS
      · rw [show j = 64 * w + (j - 64 * w) by omega, ← hX _ (by omega)]
        have := hR (j - 64 * w)
        rw [h0, B_0] at this
        simpa [show b ≤ j - 64 * w by omega] using this.symm
    · refine Ok.ite (fun he => ?_) (fun he => ?_)
      · obtain ⟨c0, g1, g2, g3, g4, g5, g6⟩ := low_rest hR h0
        obtain ⟨hr, heh, hcho⟩ := hS.going he
        obtain ⟨t, f, s⟩ := r
        replace hr : s = none := hr
        subst hr he heh
        obtain ⟨ht, e1, e2, _⟩ := hS
        replace ht : t ≤ bud := ht
        replace e1 : tri = nI t := e1
        replace e2 : fou = nI f := e2
        subst e1 e2
        have hsplit : evP PL n (evs PL n su k) T L ch cl p (64 - b) (64 * w + b) = evC PL (evs PL n su k) T L ch p (64 * w + c0) ++ evP PL n (evs PL n su k) T L ch cl p (64 - (c0 + 1)) (64 * w + (c0 + 1)) := by
          rw [show 64 - b = (c0 - b) + ((64 - (c0 + 1)) + 1) by omega, evP_app, evP_nil (k := c0 - b) (fun j h1 h2 => ?_), List.nil_append, show 64 * w + b + (c0 - b) = 64 * w + c0 by omega, evP_one (by rw [← hX c0 g2]; exact g3)]
          · rfl
          · rw [show j = 64 * w + (j - 64 * w) by omega, ← hX _ (by omega)]
            exact g4 _ (by omega) (by omega)
        rw [hsplit, run_app]
        have hrun : run bud wan (evC PL (evs PL n su k) T L ch p (64 * w + c0)) (t, f, none) = if t < bud then run bud wan (if PL p (64 * w + c0) &&& T = 0 then evs PL n su k (T ||| PL p (64 * w + c0)) (clrB L p) (va_up ch p (PL p (64 * w + c0))) else []) (t + 1, f, none) else (t, f, some none) := rfl
        rw [hrun]
        refine Ok.ite (fun hlt => ?_) (fun hlt => ?_)
        · rw [lt_n (by omega) (by omega)] at hlt
          rw [if_pos hlt]
          refine Ok.bindE g5 (Ok.pos (inB_n hp (by decide)) ?_)
          have hat : f_X1_placeAt (PL (nI p).toNatClampNeg) (nI w * 64 + nI c0) = some (PL p (64 * w + c0)) := by
            unfold f_X1_placeAt
            rw [show (64 : Int32) = nI 64 from rfl, pk_mul, nI_add, cl_n (by omega), cl_n (by omega), if_pos (inB_n (by omega) (by decide)), show w * 64 + c0 = 64 * w + c0 by omega]
          refine Ok.bindE hat (Ok.ite (fun hz => ?_) (fun hz => ?_))
          · rw [if_pos hz, show nI t + 1 = nI (t + 1) from nI_1 t, cl_n (by omega), show nI (6 - k) + 1 = nI (6 - k + 1) from nI_1 _, show 6 - k + 1 = 7 - k by omega, clrB_i L hL p hp]
            refine Ok.pos (inB_n hp (by decide)) (Ok.bind (hrec p hp hb (T ||| PL p (64 * w + c0)) _ (t + 1, f, none) _ _ _ _ _ (SS.down hL hp (show t + 1 ≤ bud by omega) hcho) rfl) ?_)
            rintro ⟨q1, q2, q3, q4, q5⟩ hq
            exact ih (64 - (c0 + 1)) (by omega) fu' _ (c0 + 1) _ q1 q2 q3 q4 q5 (by omega) (by omega) g6 (SS.up hL hp hb hq)
          · rw [if_neg hz, run_nil, show nI t + 1 = nI (t + 1) from nI_1 t]
            exact ih (64 - (c0 + 1)) (by omega) fu' _ (c0 + 1) (t + 1, f, none) _ _ _ _ _ (by omega) (by omega) g6 ⟨hlt, rfl, rfl, rfl, rfl, hcho⟩
        · rw [lt_n (by omega) (by omega)] at hlt
          rw [if_neg hlt, run_end (x := none) rfl]
          exact Ok.some ⟨⟨ht, rfl, rfl, rfl, rfl⟩, by intro z; cases z⟩
      · obtain ⟨x, hx⟩ := hS.ended he
        rw [run_end hx]
        exact Ok.some hS
theorem tp18_ok {PL phv : Nat → Nat → Int64} {ppn : Nat → Int32} {n : Nat → Nat} {su T : Int64} {bud k L cl p : Nat} {wan : Int32} {ch : Nat → Int64} {rec : RecT} (hbud : bud ≤ 200000) (hk : k ≤ 6) (hL : L < 64) (hp : p < 6) (hb : L.testBit p = true) (hcl : cl ≤ 64) (hK : CK PL phv ppn n p) (hrec : RecOK PL n su bud wan k L rec) : ∀ m fu w r tri fou en eh cho, 70 + m < fu → m + w = (n p + 63) / 64 → SS bud ch L r tri fou en eh cho → Ok (f_X2_tryPiece_18 rec (nI p) (nI cl) (nI (6 - k)) T (nI L) (nI ((n p + 63) / 64)) PL phv (nI bud) fu (nI w) tri fou en eh cho) (SSx bud ch L (run bud wan (evP PL n (evs PL n su k) T L ch cl p (896 - 64 * w) (64 * w)) r)) := by
  obtain ⟨_, hn, hI⟩ := hK
  intro m
  induction m with
  | zero =>
    intro fu w r tri fou en eh cho hf hm hS
    obtain ⟨fu', rfl⟩ : ∃ x, fu = x + 1 := ⟨fu - 1, by omega⟩
    rw [f_X2_tryPiece_18]
    refine Ok.pos (nI_le (by omega) (by omega)) (Ok.some ?_)
    rw [evP_nil (fun j h1 h2 => ?_), run_nil]
    · exact hS
    · unfold okc
      rw [decide_eq_false (by omega)]
      rfl
  | succ m ih =>
    intro fu w r tri fou en eh cho hf hm hS
    obtain ⟨fu', rfl⟩ : ∃ x, fu = x + 1 := ⟨fu - 1, by omega⟩
    rw [f_X2_tryPiece_18]
    have hw14 : w < 14 := by omega
    have hwd : f_X1_wordOf (phv (nI p).toNatClampNeg) (nI cl) (nI w) = some (phv p (cl * 14 + w)) := by
      unfold f_X1_wordOf
      rw [show (14 : Int32) = nI 14 from rfl, pk_mul, nI_add, cl_n (by omega), cl_n (by omega), if_pos (inB_n (by omega) (by decide))]
    refine Ok.neg (nI_ge (by omega) (by omega)) (Ok.pos (inB_n hp (by decide)) (Ok.bindE hwd (Ok.sumB ((tp35_ok hbud hk hL hp hb hw14 hrec (X := phv p (cl * 14 + w)) (cl := cl) (fun c hc => ?_) 64 fu' _ 0 r tri fou en eh cho (by omega) (by omega) (fun c => by simp) hS).mono ?_))))
    · rw [hI cl hcl w hw14 c hc]
      rfl
    · have hsplit : evP PL n (evs PL n su k) T L ch cl p (896 - 64 * w) (64 * w) = evP PL n (evs PL n su k) T L ch cl p (64 - 0) (64 * w + 0) ++ evP PL n (evs PL n su k) T L ch cl p (896 - 64 * (w + 1)) (64 * (w + 1)) := by
        rw [show 896 - 64 * w = 64 + (896 - 64 * (w + 1)) by omega, evP_app]
        rfl
      rw [hsplit, run_app]
      intro q hq
      cases q with
      | inl s =>
        have hne := hq.2
        cases hx : (run bud wan (evP PL n (evs PL n su k) T L ch cl p (64 - 0) (64 * w + 0)) r).2.2 with
        | none => exact absurd hx hne
        | some x =>
          rw [run_end hx]
          exact hq
      | inr s =>
        rw [show nI w + 1 = nI (w + 1) from nI_1 w]
        exact ih fu' (w + 1) _ _ _ _ _ _ (by omega) (by omega) hq
theorem tryP_ok {PL phv : Nat → Nat → Int64} {ppn : Nat → Int32} {n : Nat → Nat} {su T : Int64} {bud k L cl p fu : Nat} {wan : Int32} {ch : Nat → Int64} {rec : RecT} (hbud : bud ≤ 200000) (hk : k ≤ 6) (hL : L < 64) (hp : p < 6) (hb : L.testBit p = true) (hcl : cl ≤ 64) (hK : CK PL phv ppn n p) (hrec : RecOK PL n su bud wan k L rec) (hf : 100 ≤ fu) {r : Rs} {tri fou en eh : Int32} {cho : Nat → Int64} (hS : SS bud ch L r tri fou en eh cho) : Ok (f_X2_tryPiece fu rec PL phv ppn (nI bud) tri fou en eh cho (nI p) (nI cl) (nI (6 - k)) T (nI L)) (SSt bud ch L (run bud wan (evP PL n (evs PL n su k) T L ch cl p 896 0) r)) := by
  have hn := hK.2.1
  unfold f_X2_tryPiece
  have hw : f_X1_countWords (ppn (nI p).toNatClampNeg) = some (nI ((n p + 63) / 64)) := by
    unfold f_X1_countWords
    rw [cl_n (by omega), hK.1, show (63 : Int32) = nI 63 from rfl, nI_add, show (64 : Int32) = nI 64 from rfl, dv_n (by omega) (by decide) (by decide)]
  refine Ok.pos (inB_n hp (by decide)) (Ok.pos (inB_n hp (by decide)) (Ok.bindE hw (Ok.sumB ((tp18_ok hbud hk hL hp hb hcl hK hrec ((n p + 63) / 64) fu 0 r tri fou en eh cho (by omega) (by omega) hS).mono ?_))))
  intro q hq
  cases q with
  | inl s => exact hq.1
  | inr s => exact Ok.some hq
theorem drop_i : ∀ R, R < 64 → R ≠ 0 → nI R &&& (nI R - 1) = nI (clrB R (lowP R)) := by decide +kernel
theorem nI0_64 : ∀ R, R < 64 → (nI R = 0 ↔ R = 0) := by decide +kernel
theorem evQ_add (PL : Nat → Nat → Int64) (n : Nat → Nat) (sub : Int64 → Nat → (Nat → Int64) → List Ev) (T : Int64) (L : Nat) (ch : Nat → Int64) (cl b : Nat) : ∀ a p, evQ PL n sub T L ch cl (a + b) p = evQ PL n sub T L ch cl a p ++ evQ PL n sub T L ch cl b (p + a) := by
  intro a
  induction a with
  | zero => intro p; rw [Nat.zero_add]; rfl
  | succ a ih =>
    intro p
    rw [show a + 1 + b = (a + b) + 1 by omega]
    show (if L.testBit p then evP PL n sub T L ch cl p 896 0 else []) ++ evQ PL n sub T L ch cl (a + b) (p + 1) = ((if L.testBit p then evP PL n sub T L ch cl p 896 0 else []) ++ evQ PL n sub T L ch cl a (p + 1)) ++ evQ PL n sub T L ch cl b (p + (a + 1))
    rw [ih, List.append_assoc, show p + 1 + a = p + (a + 1) by omega]
theorem evQ_nil {PL : Nat → Nat → Int64} {n : Nat → Nat} {sub : Int64 → Nat → (Nat → Int64) → List Ev} {T : Int64} {L : Nat} {ch : Nat → Int64} {cl : Nat} : ∀ k p, (∀ q, p ≤ q → q < p + k → L.testBit q = false) → evQ PL n sub T L ch cl k p = [] := by
  intro k
  induction k with
  | zero => intro p _; rfl
  | succ k ih =>
    intro p h
    unfold evQ
    rw [h p (Nat.le_refl _) (by omega), ih (p + 1) (fun q h1 h2 => h q (by omega) (by omega))]
    rfl
theorem go78_ok {PL phv : Nat → Nat → Int64} {ppn : Nat → Int32} {n : Nat → Nat} {su T : Int64} {bud k L cl : Nat} {wan : Int32} {ch : Nat → Int64} {rec : RecT} (hbud : bud ≤ 200000) (hk : k ≤ 6) (hL : L < 64) (hcl : cl ≤ 64) (hK : ∀ p, p < 6 → L.testBit p = true → CK PL phv ppn n p) (hrec : RecOK PL n su bud wan k L rec) : ∀ m fu p R r tri fou en eh cho, 100 + m < fu → m + p = 6 → R < 64 → (∀ q, q < 6 → R.testBit q = (L.testBit q && decide (p ≤ q))) → SS bud ch L r tri fou en eh cho → Ok (f_X2_goOn_78 rec (nI (6 - k)) T (nI L) (nI cl) PL phv ppn (nI bud) fu (nI R) tri fou en eh cho) (SSt bud ch L (run bud wan (evQ PL n (evs PL n su k) T L ch cl (6 - p) p) r)) := by
  intro m
  induction m using Nat.strongRecOn with
  | ind m ih =>
    intro fu p R r tri fou en eh cho hf hm hR64 hR hS
    obtain ⟨fu', rfl⟩ : ∃ x, fu = x + 1 := ⟨fu - 1, by omega⟩
    rw [f_X2_goOn_78]
    refine Ok.ite (fun h0 => ?_) (fun h0 => ?_)
    · rw [nI0_64 R hR64] at h0
      refine Ok.some ?_
      rw [evQ_nil _ _ (fun q h1 h2 => ?_), run_nil]
      · exact hS
      · have := hR q (by omega)
        rw [h0, Nat.zero_testBit] at this
        simpa [h1] using this.symm
    · rw [nI0_64 R hR64] at h0
      obtain ⟨l1, l2, l3, l4⟩ := lowP_ok R hR64 h0
      have hLp : L.testBit (lowP R) = true ∧ p ≤ lowP R := by
        have := hR _ l1
        rw [l2] at this
        simpa using this.symm
      refine Ok.ite (fun he => ?_) (fun he => ?_)
      · have hsplit : evQ PL n (evs PL n su k) T L ch cl (6 - p) p = evP PL n (evs PL n su k) T L ch cl (lowP R) 896 0 ++ evQ PL n (evs PL n su k) T L ch cl (6 - (lowP R + 1)) (lowP R + 1) := by
          rw [show 6 - p = (lowP R - p) + ((6 - (lowP R + 1)) + 1) by omega, evQ_add, evQ_nil (lowP R - p) p (fun q h1 h2 => ?_), List.nil_append, show p + (lowP R - p) = lowP R by omega]
          · show (if L.testBit (lowP R) then _ else _) ++ _ = _
            rw [if_pos hLp.1]
          · have := l3 q (by omega) (by omega)
            rw [hR q (by omega)] at this
            simpa [h1] using this
        rw [hsplit, run_app]
        refine Ok.bindE l4 (Ok.bind (tryP_ok hbud hk hL l1 hLp.1 hcl (hK _ l1 hLp.1) hrec (by omega) hS) ?_)
        rintro ⟨q1, q2, q3, q4, q5⟩ hq
        rw [drop_i R hR64 h0]
        refine ih (6 - (lowP R + 1)) (by omega) fu' (lowP R + 1) _ _ q1 q2 q3 q4 q5 (by omega) (by omega) (clrB_lt R hR64 _ l1) (fun q hq6 => ?_) hq
        rw [clrB_b0 R hR64 _ l1 q hq6, hR q hq6]
        cases hLq : L.testBit q
        · rfl
        · by_cases e : q = lowP R
          · subst e; simp
          · by_cases e2 : q < lowP R
            · have := l3 q hq6 e2
              rw [hR q hq6, hLq] at this
              simp at this
              simp [show ¬ p ≤ q by omega, show ¬ lowP R + 1 ≤ q by omega]
            · simp [e, show p ≤ q by omega, show lowP R + 1 ≤ q by omega]
      · obtain ⟨x, hx⟩ := hS.ended he
        rw [run_end hx]
        exact Ok.some hS
theorem goOn_ok {PL phv : Nat → Nat → Int64} {ppn : Nat → Int32} {n : Nat → Nat} {su : Int64} {bud fu : Nat} {wan : Int32} (hbud : bud ≤ 200000) (hf : 200 ≤ fu) : ∀ k L, k ≤ 7 → L < 64 → pc L < k → (∀ p, p < 6 → L.testBit p = true → CK PL phv ppn n p) → ∀ T ch r tri fou en eh cho, SS bud ch L r tri fou en eh cho → r.2.2 = none → Ok (f_X2_goOn fu PL phv ppn su (nI bud) wan k tri fou en eh cho (nI (7 - k)) T (nI L)) (SSt bud ch L (run bud wan (evs PL n su k T L ch) r)) := by
  intro k
  induction k with
  | zero => intro L _ _ h; omega
  | succ k ih =>
    intro L hk hL hpc hK T ch r tri fou en eh cho hS hr
    have hrec : RecOK PL n su bud wan k L (f_X2_goOn fu PL phv ppn su (nI bud) wan k) := by
      intro p hp hb T' ch' r' tri' fou' en' eh' cho' hS' hr'
      have hpc' := clrB_pc L hL p hp hb
      refine ih (clrB L p) (by omega) (clrB_lt L hL p hp) (by omega) (fun q hq hqb => ?_) T' ch' r' tri' fou' en' eh' cho' hS' hr'
      rw [clrB_b0 L hL p hp q hq] at hqb
      exact hK q hq (by simp at hqb; exact hqb.1)
    rw [f_X2_goOn]
    unfold f_X2_goOnB
    rw [show 7 - (k + 1) = 6 - k by omega]
    have hz : ∀ x : Int64, (su &&& (T ^^^ (-1 : Int64))) = 0 ↔ clO su T = 64 := fun _ => lowI_64.symm
    obtain ⟨t, f, s⟩ := r
    replace hr : s = none := hr
    subst hr
    obtain ⟨ht, e1, e2, e3, e4, hcho⟩ := hS
    replace ht : t ≤ bud := ht
    replace e1 : tri = nI t := e1
    replace e2 : fou = nI f := e2
    subst e1 e2 e3 e4
    by_cases hL0 : L = 0
    · subst hL0
      refine Ok.pos rfl (Ok.pos rfl (Ok.ite (fun h => ?_) (fun h => ?_)))
      · rw [hz 0] at h
        have ee : evs PL n su (k + 1) T 0 ch = [some ch] := by
          show (if (0 : Nat) = 0 then (if clO su T = 64 then [some ch] else []) else _) = _
          rw [if_pos rfl, if_pos h]
        have er : run bud wan (evs PL n su (k + 1) T 0 ch) (t, f, none) = if nI f = wan then (t, f + 1, some (some ch)) else (t, f + 1, none) := by
          rw [ee]; rfl
        rw [er]
        unfold f_X2_countPacking
        by_cases hw : nI f = wan
        · rw [if_pos hw, if_pos hw]
          refine Ok.some ⟨ht, rfl, nI_1 f, rfl, rfl, fun p hp => hcho p hp (Nat.zero_testBit p)⟩
        · rw [if_neg hw, if_neg hw]
          refine Ok.some ⟨ht, rfl, nI_1 f, rfl, rfl, hcho⟩
      · rw [hz 0] at h
        have ee : evs PL n su (k + 1) T 0 ch = [] := by
          show (if (0 : Nat) = 0 then (if clO su T = 64 then [some ch] else []) else _) = _
          rw [if_pos rfl, if_neg h]
        rw [ee, run_nil]
        exact Ok.some ⟨ht, rfl, rfl, rfl, rfl, hcho⟩
    · have hk1 : 1 ≤ k := by
        apply Classical.byContradiction
        intro q
        exact hL0 (pc_0 L hL (by omega))
      refine Ok.neg (fun q => hL0 ((nI0_64 L hL).1 q)) (Ok.pos (nI_lt (b := 6) (by omega) (by decide)) (Ok.ite (fun h => ?_) (fun h => ?_)))
      · rw [hz 0] at h
        obtain ⟨l1, l2, l3, l4⟩ := lowP_ok L hL hL0
        have ee : evs PL n su (k + 1) T L ch = evP PL n (evs PL n su k) T L ch 64 (lowP L) 896 0 := by
          show (if L = 0 then _ else if clO su T = 64 then _ else _) = _
          rw [if_neg hL0, if_pos h]
        rw [ee]
        refine Ok.bindE l4 (Ok.bind (tryP_ok (cl := 64) hbud (by omega) hL l1 l2 (by decide) (hK _ l1 l2) hrec (by omega) (r := (t, f, none)) ⟨ht, rfl, rfl, rfl, rfl, hcho⟩) ?_)
        rintro ⟨q1, q2, q3, q4, q5⟩ hq
        exact Ok.some hq
      · have h' := h
        rw [hz 0] at h'
        have hl := lowI_ne h
        have ee : evs PL n su (k + 1) T L ch = evQ PL n (evs PL n su k) T L ch (clO su T) 6 0 := by
          show (if L = 0 then _ else if clO su T = 64 then _ else _) = _
          rw [if_neg hL0, if_neg h']
        rw [ee]
        refine Ok.bindE (lowest_I h) (Ok.bind (go78_ok (cl := clO su T) hbud (by omega) hL (Nat.le_of_lt hl.1) hK hrec 6 fu 0 L (t, f, none) _ _ _ _ _ (by omega) (by omega) hL (fun q hq => by simp) ⟨ht, rfl, rfl, rfl, rfl, hcho⟩) ?_)
        rintro ⟨q1, q2, q3, q4, q5⟩ hq
        exact Ok.some hq
