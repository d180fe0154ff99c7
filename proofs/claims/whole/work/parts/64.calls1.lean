/-! the small calls of both, one by one -/
theorem cp_ok {p : Int32} (h : (!decide (p < 0) && !decide (5 < p)) = true) : ∃ n, n < 6 ∧ p = nI n ∧ f_X6_checkPiece p = some (Sum.inr ()) ∧ f_X7_in p 0 5 = some (bI true) := by
  obtain ⟨h1, h2⟩ := rng_lt.1 h
  obtain ⟨n, hn, rfl⟩ := to_n h1
  replace h2 : nI n ≤ nI 5 := h2
  rw [le_n hn (by decide)] at h2
  refine ⟨n, by omega, rfl, ?_, by rw [in_ok, h]⟩
  unfold f_X6_checkPiece
  rw [if_neg h1, if_pos (by show nI n < nI 6; rw [lt_n hn (by decide)]; omega)]
theorem cp_no {p : Int32} (h : ¬ (!decide (p < 0) && !decide (5 < p)) = true) : f_X6_checkPiece p = some (Sum.inl x_IAE) ∧ f_X7_in p 0 5 = some (bI false) := by
  have h' : (!decide (p < 0) && !decide (5 < p)) = false := by
    cases hh : (!decide (p < 0) && !decide (5 < p))
    · rfl
    · exact absurd hh h
  refine ⟨?_, by rw [in_ok, h']⟩
  unfold f_X6_checkPiece
  by_cases h1 : p < 0
  · rw [if_pos h1]
  · rw [if_neg h1, if_neg]
    intro q
    obtain ⟨n, hn, rfl⟩ := to_n h1
    replace q : nI n < nI 6 := q
    rw [lt_n hn (by decide)] at q
    refine h (rng_lt.2 ⟨h1, ?_⟩)
    show nI n ≤ nI 5
    rw [le_n hn (by decide)]
    omega
theorem cc_ok {p : Int32} (h : (!decide (p < 0) && !decide (63 < p)) = true) : ∃ n, n < 64 ∧ p = nI n ∧ f_X6_checkCell p = some (Sum.inr ()) ∧ f_X7_in p 0 63 = some (bI true) := by
  obtain ⟨h1, h2⟩ := rng_lt.1 h
  obtain ⟨n, hn, rfl⟩ := to_n h1
  replace h2 : nI n ≤ nI 63 := h2
  rw [le_n hn (by decide)] at h2
  refine ⟨n, by omega, rfl, ?_, by rw [in_ok, h]⟩
  unfold f_X6_checkCell
  rw [if_neg h1, if_pos (by show nI n < nI 64; rw [lt_n hn (by decide)]; omega)]
theorem cc_no {p : Int32} (h : ¬ (!decide (p < 0) && !decide (63 < p)) = true) : f_X6_checkCell p = some (Sum.inl x_IAE) ∧ f_X7_in p 0 63 = some (bI false) := by
  have h' : (!decide (p < 0) && !decide (63 < p)) = false := by
    cases hh : (!decide (p < 0) && !decide (63 < p))
    · rfl
    · exact absurd hh h
  refine ⟨?_, by rw [in_ok, h']⟩
  unfold f_X6_checkCell
  by_cases h1 : p < 0
  · rw [if_pos h1]
  · rw [if_neg h1, if_neg]
    intro q
    obtain ⟨n, hn, rfl⟩ := to_n h1
    replace q : nI n < nI 64 := q
    rw [lt_n hn (by decide)] at q
    refine h (rng_lt.2 ⟨h1, ?_⟩)
    show nI n ≤ nI 63
    rw [le_n hn (by decide)]
    omega
theorem x_ne : ¬ x_ISE = x_IAE ∧ ¬ x_IOB = x_IAE := by decide +kernel
theorem Ok.sel2 {A C : Type} {X1 X2 : String} {q : String ⊕ A} {e1 e2 : Option C} {k : A → Option C} {Q : C → Prop} (h : q = .inl X2) (hn : ¬ X2 = X1) (hk : Ok e2 Q) : Ok (xSel X1 X2 q e1 e2 k) Q := by
  rw [h]
  show Ok (if X2 = X1 then e1 else if X2 = X2 then e2 else none) Q
  rw [if_neg hn, if_pos rfl]
  exact hk
/-- what both know of the pieces -/
def PI (S : Nat → Int64) (mb : Nat → Bool) (pmm mir : Nat → Int32) (pss pps phv : Nat → Nat → Int64) (psk ppk : Nat → Int32) (pkw : Nat → Int64) (psc ppn : Nat → Int32) : Prop := (∀ p, p < 6 → pmm p = bI (mb p)) ∧ (∀ p, p < 6 → mir p = bI (mb p)) ∧ (∀ p, p < 6 → cnt (S p) ≤ 10) ∧ PcA S mb pss pps phv psk ppk pkw psc ppn
theorem take_ok {asm asm' : Nat → Int64} (h : ∀ p, p < 6 → asm p = asm' p) (hc : ∀ p, p < 6 → cnt (asm p) ≤ 10) (p0 : Int32) : Ok (f_L_take asm p0) (fun a => Ok (f_X7_take asm' p0) (fun b => b.1 = a.1 ∧ (∀ p, p < 6 → a.2 p = b.2 p) ∧ ∀ p, p < 6 → cnt (a.2 p) ≤ 10)) := by
  unfold f_L_take f_X6_take f_X7_take
  by_cases hp : (!decide (p0 < 0) && !decide (5 < p0)) = true
  · obtain ⟨n, hn, rfl, e1, e2⟩ := cp_ok hp
    have c0 : cnt 0 = 0 := by decide +kernel
    by_cases z : asm n = 0
    · refine Ok.bind (P := fun q => q = (Sum.inl x_ISE, asm)) (Ok.xr e1 (Ok.pos (inB_n hn (by decide)) (Ok.pos (by rw [cl_n (by omega)]; exact z) (Ok.some rfl)))) ?_
      rintro q rfl
      refine Ok.sel2 rfl x_ne.1 (Ok.some (Ok.bindE e2 (Ok.neg (by decide) (Ok.pos (inB_n hn (by decide)) ?_))))
      have e3 : (if asm' n = 0 then (2 : Int32) else 0) = 2 := if_pos (by rw [← h n hn]; exact z)
      rw [cl_n (by omega), e3]
      exact Ok.neg (by decide) (Ok.some ⟨rfl, h, hc⟩)
    · refine Ok.bind (P := fun q => q = (Sum.inr (), va_up asm n 0)) (Ok.xr e1 (Ok.pos (inB_n hn (by decide)) (Ok.neg (by rw [cl_n (by omega)]; exact z) (Ok.pos (inB_n hn (by decide)) (Ok.some (by rw [cl_n (by omega)])))))) ?_
      rintro q rfl
      refine Ok.sel0 rfl (Ok.some (Ok.bindE e2 (Ok.neg (by decide) (Ok.pos (inB_n hn (by decide)) ?_))))
      have e3 : (if asm' n = 0 then (2 : Int32) else 0) = 0 := if_neg (by rw [← h n hn]; exact z)
      rw [cl_n (by omega), e3]
      refine Ok.pos rfl (Ok.pos (inB_n hn (by decide)) (Ok.some ⟨rfl, fun p hp => ?_, fun p hp => ?_⟩))
      · show va_up asm n 0 p = va_up asm' n 0 p
        by_cases y : p = n
        · subst y; rw [vu_s, vu_s]
        · rw [vu_n y, vu_n y]; exact h p hp
      · show cnt (va_up asm n 0 p) ≤ 10
        by_cases y : p = n
        · subst y; rw [vu_s]; omega
        · rw [vu_n y]; exact hc p hp
  · obtain ⟨e1, e2⟩ := cp_no hp
    refine Ok.bind (P := fun q => q = (Sum.inl x_IAE, asm)) (Ok.xl e1 (Ok.some rfl)) ?_
    rintro q rfl
    exact Ok.sel1 rfl (Ok.some (Ok.bindE e2 (Ok.pos rfl (Ok.some ⟨rfl, h, hc⟩))))
theorem cells_ok {asm asm' : Nat → Int64} (h : ∀ p, p < 6 → asm p = asm' p) (out : Nat → Int64) (p0 : Int32) : Ok (f_L_cells asm out p0) (fun a => Ok (f_X7_cells asm' p0) (fun b => b.2 = a.1 ∧ (a.1 = 0 → a.2 0 = b.1))) := by
  unfold f_L_cells f_X6_cells f_X7_cells
  by_cases hp : (!decide (p0 < 0) && !decide (5 < p0)) = true
  · obtain ⟨n, hn, rfl, e1, e2⟩ := cp_ok hp
    refine Ok.bind (P := fun q => q = Sum.inr (asm n)) (Ok.xr e1 (Ok.pos (inB_n hn (by decide)) (Ok.some (by rw [cl_n (by omega)])))) ?_
    rintro q rfl
    refine Ok.sel0 rfl (Ok.pos (by decide) (Ok.some (Ok.bindE e2 (Ok.bindE (says_ok true) (Ok.neg (by decide) (Ok.pos (inB_n hn (by decide)) (Ok.some ⟨rfl, fun _ => ?_⟩)))))))
    show asm n = asm' (nI n).toNatClampNeg
    rw [cl_n (by omega)]
    exact h n hn
  · obtain ⟨e1, e2⟩ := cp_no hp
    refine Ok.bind (P := fun q => q = Sum.inl x_IAE) (Ok.xl e1 (Ok.some rfl)) ?_
    rintro q rfl
    exact Ok.sel1 rfl (Ok.some (Ok.bindE e2 (Ok.bindE (says_ok false) (Ok.pos rfl (Ok.some ⟨rfl, fun q => absurd q ne10⟩)))))
theorem move_ok {fnd mov : Nat → Int32} {fc mvs : Int32} (h : Fin fnd fc mov mvs) (out : Nat → Int64) (p0 : Int32) : Ok (f_L_move fnd fc out p0) (fun a => Ok (f_X7_move mvs mov p0) (fun b => b.2 = a.1 ∧ (a.1 = 0 → a.2 0 = b.1.toInt64))) := by
  obtain ⟨l, hl, rfl, rfl, hk⟩ := h
  unfold f_L_move f_X6_move f_X7_move f_X5_countMoves f_X5_moveAt
  have no : f_X7_in p0 0 (nI l - 1) = some (bI false) → Ok (some ((1 : Int32), out)) (fun a => Ok ((f_X7_in p0 (0 : Int32) (nI l - (1 : Int32))).bind fun q1 => (if (if q1 = 0 then (1 : Int32) else (0 : Int32)) ≤ 0 then (if inB p0 301 = true then some (mov p0.toNatClampNeg, (if q1 = 0 then (1 : Int32) else (0 : Int32))) else none) else some ((0 : Int32), (if q1 = 0 then (1 : Int32) else (0 : Int32))))) (fun b => b.2 = a.1 ∧ (a.1 = 0 → a.2 0 = b.1.toInt64))) := fun e => Ok.some (Ok.bindE e (Ok.neg (by decide) (Ok.some ⟨rfl, fun q => absurd q ne10⟩)))
  by_cases h0 : p0 < 0
  · refine Ok.bind (P := fun q => q = Sum.inl x_IOB) (Ok.pos h0 (Ok.some rfl)) ?_
    rintro q rfl
    refine Ok.sel1 rfl (no ?_)
    rw [in_ok, decide_eq_true h0]
    rfl
  · obtain ⟨n, hn, rfl⟩ := to_n h0
    have e : (!decide (nI n < 0) && !decide (nI l - 1 < nI n)) = decide (n < l) := by
      rw [decide_eq_false h0, iI_n, iI_n, show (1 : Int32) = iI 1 from rfl, iI_sub]
      have : decide (iI ((l : Int) - 1) < iI (n : Int)) = decide ((l : Int) - 1 < n) := by
        rw [decide_eq_decide, iI_lt (by omega) (by omega) (by omega) (by omega)]
      rw [this]
      by_cases z : n < l
      · rw [decide_eq_true z, decide_eq_false (by omega)]; rfl
      · rw [decide_eq_false z, decide_eq_true (by omega)]; rfl
    by_cases z : n < l
    · refine Ok.bind (P := fun q => q = Sum.inr (fnd n)) (Ok.neg h0 (Ok.bindE rfl (Ok.pos (by rw [lt_n hn (by omega)]; exact z) (Ok.bindE (by rw [if_pos (inB_n (show n < 300 by omega) (by decide)), cl_n (by omega)]) (Ok.some rfl))))) ?_
      rintro q rfl
      refine Ok.sel0 rfl (Ok.pos (by decide) (Ok.some (Ok.bindE (by rw [in_ok, e, decide_eq_true z]) (Ok.pos (by decide) (Ok.pos (inB_n (by omega) (by decide)) (Ok.some ⟨rfl, fun _ => ?_⟩))))))
      show (fnd n).toInt64 = (mov (nI n).toNatClampNeg).toInt64
      rw [cl_n (by omega), hk n z]
    · refine Ok.bind (P := fun q => q = Sum.inl x_IOB) (Ok.neg h0 (Ok.bindE rfl (Ok.neg (by rw [lt_n hn (by omega)]; exact z) (Ok.some rfl)))) ?_
      rintro q rfl
      exact Ok.sel1 rfl (no (by rw [in_ok, e, decide_eq_false z]))
theorem mirror_ok {S : Nat → Int64} {mb : Nat → Bool} {pmm mir : Nat → Int32} {pss pps phv : Nat → Nat → Int64} {psk ppk : Nat → Int32} {pkw : Nat → Int64} {psc ppn : Nat → Int32} (hI : PI S mb pmm mir pss pps phv psk ppk pkw psc ppn) (p0 : Int32) (b0 : Bool) : Ok (f_L_mirror pmm psk ppk p0 (bI b0)) (fun a => Ok (f_X7_mirror mir p0 (bI b0)) (fun b => b.1 = a.1 ∧ ∃ mb', PI S mb' a.2.1 b.2 pss pps phv a.2.2.1 a.2.2.2 pkw psc ppn)) := by
  obtain ⟨i1, i2, i3, i4⟩ := hI
  unfold f_L_mirror f_X6_mirror f_X7_mirror f_X1_allowMirror f_X1_forget
  by_cases hp : (!decide (p0 < 0) && !decide (5 < p0)) = true
  · obtain ⟨n, hn, rfl, e1, e2⟩ := cp_ok hp
    refine Ok.bind (P := fun q => q = (Sum.inr (), va_up pmm n (bI b0), va_up psk n 0, va_up ppk n 0)) (Ok.xr e1 (Ok.pos (inB_n hn (by decide)) (Ok.pos (inB_n hn (by decide)) (Ok.bindE (by rw [if_pos (bI_ok b0)]; rfl) (Ok.some (by rw [cl_n (by omega)])))))) ?_
    rintro q rfl
    refine Ok.sel0 rfl (Ok.some (Ok.bindE e2 (Ok.bindE (says_ok true) (Ok.neg (by decide) (Ok.pos (inB_n hn (by decide)) (Ok.pos (bI_ok b0) (Ok.some ⟨rfl, va_up mb n b0, ?_⟩)))))))
    rw [cl_n (by omega)]
    refine ⟨fun p hp => ?_, fun p hp => ?_, i3, fun p hp => ?_⟩
    · show va_up pmm n (bI b0) p = _
      by_cases y : p = n
      · subst y; rw [vu_s, vu_s]
      · rw [vu_n y, vu_n y]; exact i1 p hp
    · show va_up mir n (bI b0) p = _
      by_cases y : p = n
      · subst y; rw [vu_s, vu_s]
      · rw [vu_n y, vu_n y]; exact i2 p hp
    · show PcI (S p) (va_up mb n b0 p) (pss p) (pps p) (phv p) (va_up psk n 0 p) (va_up ppk n 0 p) (pkw p) (psc p) (ppn p)
      by_cases y : p = n
      · subst y; rw [vu_s, vu_s, vu_s]; exact ⟨Or.inl rfl, Or.inl rfl⟩
      · rw [vu_n y, vu_n y, vu_n y]; exact i4 p hp
  · obtain ⟨e1, e2⟩ := cp_no hp
    refine Ok.bind (P := fun q => q = (Sum.inl x_IAE, pmm, psk, ppk)) (Ok.xl e1 (Ok.some rfl)) ?_
    rintro q rfl
    exact Ok.sel1 rfl (Ok.some (Ok.bindE e2 (Ok.bindE (says_ok false) (Ok.pos rfl (Ok.some ⟨rfl, mb, i1, i2, i3, i4⟩)))))
theorem PcA.one {S : Nat → Int64} {mb : Nat → Bool} {pss pps phv : Nat → Nat → Int64} {psk ppk : Nat → Int32} {pkw : Nat → Int64} {psc ppn : Nat → Int32} (h : PcA S mb pss pps phv psk ppk pkw psc ppn) {n : Nat} {ss : Nat → Int64} {c : Nat} (hs : ShOK ss 0 (S n) (mb n) c) : PcA S mb (va_up pss n ss) pps phv (va_up psk n 1) ppk pkw (va_up psc n (nI c)) ppn := by
  intro p hp
  by_cases y : p = n
  · subst y
    rw [vu_s, vu_s, vu_s]
    exact ⟨Or.inr ⟨rfl, c, rfl, hs⟩, (h p hp).2⟩
  · rw [vu_n y, vu_n y, vu_n y]
    exact h p hp
theorem shapes_ok {fu : Nat} (hf : 1000 ≤ fu) {S : Nat → Int64} {mb : Nat → Bool} {pmm mir : Nat → Int32} {pss pps phv : Nat → Nat → Int64} {psk ppk : Nat → Int32} {pkw : Nat → Int64} {psc ppn : Nat → Int32} (hI : PI S mb pmm mir pss pps phv psk ppk pkw psc ppn) (out : Nat → Int64) (shs : Nat → Int32) (shp : Nat → Int64) (p0 : Int32) : Ok (f_L_shapes fu pss S pmm psk psc out p0) (fun a => Ok (f_X7_shapes fu S mir shs shp p0) (fun b => b.2.1 = a.1 ∧ (a.1 = 0 → a.2.2.2.2 0 = b.1.toInt64) ∧ PcA S mb a.2.1 pps phv a.2.2.1 ppk pkw a.2.2.2.1 ppn)) := by
  obtain ⟨i1, i2, i3, i4⟩ := hI
  unfold f_L_shapes f_X6_shapes f_X7_shapes
  by_cases hp : (!decide (p0 < 0) && !decide (5 < p0)) = true
  · obtain ⟨n, hn, rfl, e1, e2⟩ := cp_ok hp
    rw [cl_n (show n < 2147483648 by omega), i1 n hn]
    refine Ok.bind (P := fun q => ∃ c ss, ShOK ss 0 (S n) (mb n) c ∧ q = (Sum.inr (nI c), va_up pss n ss, va_up psk n 1, va_up psc n (nI c))) (Ok.xr e1 (Ok.pos (inB_n hn (by decide)) (Ok.pos (inB_n hn (by decide)) (Ok.bind (countShapes_ok (by omega) (i4 n hn).1) ?_)))) ?_
    · rintro ⟨q1, q2, q3, q4⟩ ⟨g1, c, g2, g3, g4⟩
      replace g1 : q3 = 1 := g1
      replace g2 : q1 = nI c := g2
      replace g3 : q4 = nI c := g3
      subst g1 g2 g3
      exact Ok.some ⟨c, q2, g4, rfl⟩
    · rintro q ⟨c, ss, hs, rfl⟩
      refine Ok.sel0 rfl (Ok.pos (by decide) (Ok.some (Ok.bindE e2 (Ok.bindE (says_ok true) (Ok.neg (by decide) (Ok.bind (shapesOf_ok (by omega) hn (i2 n hn) (i3 n hn) shs shp) ?_))))))
      rintro ⟨s1, s2⟩ ⟨c', k1, k2, _⟩
      refine Ok.pos (inB_n hn (by decide)) (Ok.some ⟨rfl, fun _ => ?_, i4.one hs⟩)
      show (nI c).toInt64 = (s1 n).toInt64
      rw [show s1 n = nI c' from k1, (hs.same k2).1]
  · obtain ⟨e1, e2⟩ := cp_no hp
    refine Ok.bind (P := fun q => q = (Sum.inl x_IAE, pss, psk, psc)) (Ok.xl e1 (Ok.some rfl)) ?_
    rintro q rfl
    exact Ok.sel1 rfl (Ok.some (Ok.bindE e2 (Ok.bindE (says_ok false) (Ok.pos rfl (Ok.some ⟨rfl, fun q => absurd q ne10, i4⟩)))))
theorem shape_ok {fu : Nat} (hf : 1000 ≤ fu) {S : Nat → Int64} {mb : Nat → Bool} {pmm mir : Nat → Int32} {pss pps phv : Nat → Nat → Int64} {psk ppk : Nat → Int32} {pkw : Nat → Int64} {psc ppn : Nat → Int32} (hI : PI S mb pmm mir pss pps phv psk ppk pkw psc ppn) (out : Nat → Int64) (shs : Nat → Int32) (shp : Nat → Int64) (p0 p1 : Int32) : Ok (f_L_shape fu pss S pmm psk psc out p0 p1) (fun a => Ok (f_X7_shape fu S mir shs shp p0 p1) (fun b => b.2.1 = a.1 ∧ (a.1 = 0 → a.2.2.2.2 0 = b.1) ∧ PcA S mb a.2.1 pps phv a.2.2.1 ppk pkw a.2.2.2.1 ppn)) := by
  obtain ⟨i1, i2, i3, i4⟩ := hI
  unfold f_L_shape f_X6_shape f_X7_shape
  by_cases hp : (!decide (p0 < 0) && !decide (5 < p0)) = true
  · obtain ⟨n, hn, rfl, e1, e2⟩ := cp_ok hp
    rw [cl_n (show n < 2147483648 by omega), i1 n hn]
    obtain ⟨⟨s1, s2⟩, es, c', k1, k2, _⟩ := shapesOf_ok (fu := fu) (by omega) hn (i2 n hn) (i3 n hn) shs shp
    replace k1 : s1 n = nI c' := k1
    have hc48 := k2.1
    by_cases h0 : p1 < 0
    · refine Ok.bind (P := fun q => q = (Sum.inl x_IOB, pss, psk, psc)) (Ok.xr e1 (Ok.pos h0 (Ok.some rfl))) ?_
      rintro q rfl
      refine Ok.sel2 rfl x_ne.2 (Ok.some (Ok.bindE e2 (Ok.bindE (says_ok true) (Ok.neg (by decide) (Ok.bindE es (Ok.pos (inB_n hn (by decide)) (Ok.bindE (in_ok _ _ _) ?_)))))))
      rw [decide_eq_true h0, show (!true && !decide ((s1, s2).fst n - 1 < p1)) = false from rfl]
      exact Ok.neg (by decide) (Ok.some ⟨rfl, fun q => absurd q (show ¬ (2 : Int32) = 0 by decide), i4⟩)
    · obtain ⟨k, hk, rfl⟩ := to_n h0
      have e : (!decide (nI k < 0) && !decide (nI c' - 1 < nI k)) = decide (k < c') := by
        rw [decide_eq_false h0, iI_n, iI_n, show (1 : Int32) = iI 1 from rfl, iI_sub]
        have : decide (iI ((c' : Int) - 1) < iI (k : Int)) = decide ((c' : Int) - 1 < k) := by
          rw [decide_eq_decide, iI_lt (by omega) (by omega) (by omega) (by omega)]
        rw [this]
        by_cases z : k < c'
        · rw [decide_eq_true z, decide_eq_false (by omega)]; rfl
        · rw [decide_eq_false z, decide_eq_true (by omega)]; rfl
      refine Ok.bind (P := fun q => ∃ ss, ShOK ss 0 (S n) (mb n) c' ∧ q = (if k < c' then Sum.inr (ss k) else Sum.inl x_IOB, va_up pss n ss, va_up psk n 1, va_up psc n (nI c'))) (Ok.xr e1 (Ok.neg h0 (Ok.pos (inB_n hn (by decide)) (Ok.pos (inB_n hn (by decide)) (Ok.bind (countShapes_ok (by omega) (i4 n hn).1) ?_))))) ?_
      · rintro ⟨q1, q2, q3, q4⟩ ⟨g1, c, g2, g3, g4⟩
        replace g1 : q3 = 1 := g1
        replace g2 : q1 = nI c := g2
        replace g3 : q4 = nI c := g3
        replace g4 : ShOK q2 0 (S n) (mb n) c := g4
        subst g1 g2 g3
        have ec : c = c' := (g4.same k2).1
        subst ec
        by_cases z : k < c
        · refine Ok.pos (by rw [lt_n (by omega) (by omega)]; exact z) (Ok.pos (inB_n hn (by decide)) (Ok.pos (inB_n hn (by decide)) ?_))
          rw [vu_s]
          unfold f_X1_shapeAt
          refine Ok.bindE (by rw [if_pos (inB_n (show k < 48 by omega) (by decide)), cl_n (by omega)]) (Ok.some ⟨q2, g4, ?_⟩)
          rw [if_pos z]
        · refine Ok.neg (by rw [lt_n (by omega) (by omega)]; exact z) (Ok.some ⟨q2, g4, ?_⟩)
          rw [if_neg z]
      · rintro q ⟨ss, hs, rfl⟩
        have hidx : nI n * 48 + nI k = nI (n * 48 + k) := by rw [show (48 : Int32) = nI 48 from rfl, pk_mul, nI_add]
        by_cases z : k < c'
        · refine Ok.sel0 (v := ss k) (if_pos z) (Ok.pos (by decide) (Ok.some (Ok.bindE e2 (Ok.bindE (says_ok true) (Ok.neg (by decide) (Ok.bindE es (Ok.pos (inB_n hn (by decide)) ?_)))))))
          show Ok ((f_X7_in (nI k) 0 (s1 n - 1)).bind _) _
          rw [k1]
          refine Ok.bindE (in_ok _ _ _) ?_
          rw [e, decide_eq_true z, hidx, cl_n (by omega)]
          refine Ok.pos (by decide) (Ok.pos (inB_n (by omega) (by decide)) (Ok.some ⟨rfl, fun _ => ?_, i4.one hs⟩))
          show ss k = s2 (n * 48 + k)
          have := (hs.same k2).2 k z
          rwa [Nat.zero_add] at this
        · refine Ok.sel2 (if_neg z) x_ne.2 (Ok.some (Ok.bindE e2 (Ok.bindE (says_ok true) (Ok.neg (by decide) (Ok.bindE es (Ok.pos (inB_n hn (by decide)) ?_))))))
          show Ok ((f_X7_in (nI k) 0 (s1 n - 1)).bind _) _
          rw [k1]
          refine Ok.bindE (in_ok _ _ _) ?_
          rw [e, decide_eq_false z]
          exact Ok.neg (by decide) (Ok.some ⟨rfl, fun q => absurd q (show ¬ (2 : Int32) = 0 by decide), i4.one hs⟩)
  · obtain ⟨e1, e2⟩ := cp_no hp
    refine Ok.bind (P := fun q => q = (Sum.inl x_IAE, pss, psk, psc)) (Ok.xl e1 (Ok.some rfl)) ?_
    rintro q rfl
    exact Ok.sel1 rfl (Ok.some (Ok.bindE e2 (Ok.bindE (says_ok false) (Ok.pos rfl (Ok.some ⟨rfl, fun q => absurd q ne10, i4⟩)))))
theorem places_ok {fu : Nat} (hf : 3000 ≤ fu) {S : Nat → Int64} {mb : Nat → Bool} {pmm mir : Nat → Int32} {pss pps phv : Nat → Nat → Int64} {psk ppk : Nat → Int32} {pkw : Nat → Int64} {psc ppn : Nat → Int32} (hI : PI S mb pmm mir pss pps phv psk ppk pkw psc ppn) {su op : Int64} {tgt : Nat → Int32} (hT : TW tgt (su ||| op)) (poo : Nat → Nat → Int64) (out : Nat → Int64) (shs : Nat → Int32) (shp : Nat → Int64) (pls : Nat → Int32) (pl : Nat → Int64) (p0 : Int32) : Ok (f_L_places fu pss pps phv poo S pmm psk ppk pkw psc ppn su op out p0) (fun a => Ok (f_X7_places fu S mir tgt shs shp pls pl p0) (fun b => b.2.1 = a.1 ∧ (a.1 = 0 → a.2.2.2.2.2.2.2.2.2.2 0 = b.1.toInt64) ∧ PcA S mb a.2.1 a.2.2.1 a.2.2.2.1 a.2.2.2.2.2.1 a.2.2.2.2.2.2.1 a.2.2.2.2.2.2.2.1 a.2.2.2.2.2.2.2.2.1 a.2.2.2.2.2.2.2.2.2.1)) := by
  obtain ⟨i1, i2, i3, i4⟩ := hI
  unfold f_L_places f_X6_places f_X7_places
  by_cases hp : (!decide (p0 < 0) && !decide (5 < p0)) = true
  · obtain ⟨n, hn, rfl, e1, e2⟩ := cp_ok hp
    rw [cl_n (show n < 2147483648 by omega), i1 n hn]
    refine Ok.bind (P := fun q => ∃ c ss ps hv oo kn c2, ShOK ss 0 (S n) (mb n) c2 ∧ PlOK ps 0 (S n) (mb n) (su ||| op) c ∧ IdxOK hv ps c ∧ kn = (su ||| op) ∧ q = (Sum.inr (nI c), va_up pss n ss, va_up pps n ps, va_up phv n hv, va_up poo n oo, va_up psk n 1, va_up ppk n 1, va_up pkw n kn, va_up psc n (nI c2), va_up ppn n (nI c))) (Ok.xr e1 (Ok.pos (inB_n hn (by decide)) (Ok.pos (inB_n hn (by decide)) (Ok.bind (learnPlaces_ok (by omega) (su ||| op) (i4 n hn)) ?_)))) ?_
    · rintro ⟨a1, a2, a3, a4, a5, a6, a7, a8, a9⟩ ⟨b1, b2, b3, ⟨n1, b4, b5⟩, n2, b6, b7, b8⟩
      replace b1 : a5 = 1 := b1
      replace b2 : a6 = 1 := b2
      replace b4 : a8 = nI n1 := b4
      replace b6 : a9 = nI n2 := b6
      subst b1 b2 b4 b6
      refine Ok.pos (inB_n hn (by decide)) (Ok.pos (inB_n hn (by decide)) (Ok.bindE rfl (Ok.some ⟨n2, a1, a2, a3, a4, a7, n1, b5, b7, b8, b3, ?_⟩)))
      rw [vu_s]
    · rintro q ⟨c, ss, ps, hv, oo, kn, c2, h1, h2, h3, rfl, rfl⟩
      refine Ok.sel0 rfl (Ok.pos (by decide) (Ok.some (Ok.bindE e2 (Ok.bindE (says_ok true) (Ok.neg (by decide) (Ok.bind (placesOf_ok (by omega) hn (i2 n hn) (i3 n hn) hT shs shp pls pl) ?_))))))
      rintro ⟨s1, s2, s3, s4⟩ ⟨_, _, _, ⟨c', k1, k2⟩, _⟩
      refine Ok.pos (inB_n hn (by decide)) (Ok.some ⟨rfl, fun _ => ?_, fun p hp => ?_⟩)
      · show (nI c).toInt64 = (s3 n).toInt64
        rw [show s3 n = nI c' from k1, (h2.same k2).1]
      · by_cases y : p = n
        · subst y
          simp only [vu_s]
          exact ⟨Or.inr ⟨rfl, c2, rfl, h1⟩, Or.inr ⟨rfl, c, rfl, h2, h3⟩⟩
        · simp only [vu_n y]
          exact i4 p hp
  · obtain ⟨e1, e2⟩ := cp_no hp
    refine Ok.bind (P := fun q => q = (Sum.inl x_IAE, pss, pps, phv, poo, psk, ppk, pkw, psc, ppn)) (Ok.xl e1 (Ok.some rfl)) ?_
    rintro q rfl
    exact Ok.sel1 rfl (Ok.some (Ok.bindE e2 (Ok.bindE (says_ok false) (Ok.pos rfl (Ok.some ⟨rfl, fun q => absurd q ne10, i4⟩)))))
