/-! packings and assemblies of both -/
theorem to_n {x : Int32} (h : ¬ x < 0) : ∃ n, n < 2147483648 ∧ x = nI n := by
  refine ⟨x.toNatClampNeg, ?_, ?_⟩
  · have h1 : x.toInt < 2147483648 := Int32.toInt_lt x
    have h2 : ¬ x.toInt < 0 := fun q => h (Int32.lt_iff_toInt_lt.2 q)
    show x.toInt.toNat < _
    omega
  · have h1 : x.toInt < 2147483648 := Int32.toInt_lt x
    have h2 : ¬ x.toInt < 0 := fun q => h (Int32.lt_iff_toInt_lt.2 q)
    apply Int32.toInt_inj.1
    rw [show nI x.toNatClampNeg = Int32.ofNat x.toInt.toNat from rfl, Int32.toInt_ofNat_of_lt (by omega)]
    omega
theorem in_ok (x lo hi : Int32) : f_X7_in x lo hi = some (bI (!decide (x < lo) && !decide (hi < x))) := by
  unfold f_X7_in
  have e : (if x < lo then (0 : Int32) else (if hi < x then (0 : Int32) else (1 : Int32))) = bI (!decide (x < lo) && !decide (hi < x)) := by
    by_cases h1 : x < lo
    · rw [if_pos h1, decide_eq_true h1]; rfl
    · rw [if_neg h1, decide_eq_false h1]
      by_cases h2 : hi < x
      · rw [if_pos h2, decide_eq_true h2]; rfl
      · rw [if_neg h2, decide_eq_false h2]; rfl
  rw [e, if_pos (bI_ok _)]
theorem says_ok (b : Bool) : f_X7_says (bI b) = some (bI b, bI (!b)) := by
  cases b <;> decide +kernel
theorem x_sel {A C : Type} {X1 X2 : String} {e1 e2 : Option C} {k : A → Option C} : xSel X1 X2 (Sum.inl X1) e1 e2 k = e1 := if_pos rfl
theorem rng_lt {x hi : Int32} {lo : Int32} : (!decide (x < lo) && !decide (hi < x)) = true ↔ ¬ x < lo ∧ x ≤ hi := by
  rw [Bool.and_eq_true, Bool.not_eq_true', Bool.not_eq_true', decide_eq_false_iff_not, decide_eq_false_iff_not, Int32.not_lt (b := x)]
theorem Ok.xr {A C : Type} {x : Option (String ⊕ A)} {e : String → Option C} {k : A → Option C} {v : A} {Q : C → Prop} (h : x = .some (.inr v)) (hk : Ok (k v) Q) : Ok (xBd x e k) Q := by
  rw [h]
  exact hk
theorem Ok.xl {A C : Type} {x : Option (String ⊕ A)} {e : String → Option C} {k : A → Option C} {t : String} {Q : C → Prop} (h : x = .some (.inl t)) (hk : Ok (e t) Q) : Ok (xBd x e k) Q := by
  rw [h]
  exact hk
theorem Ok.sel0 {A C : Type} {X1 X2 : String} {q : String ⊕ A} {e1 e2 : Option C} {k : A → Option C} {v : A} {Q : C → Prop} (h : q = .inr v) (hk : Ok (k v) Q) : Ok (xSel X1 X2 q e1 e2 k) Q := by
  rw [h]
  exact hk
theorem Ok.sel1 {A C : Type} {X1 X2 : String} {q : String ⊕ A} {e1 e2 : Option C} {k : A → Option C} {Q : C → Prop} (h : q = .inl X1) (hk : Ok e1 Q) : Ok (xSel X1 X2 q e1 e2 k) Q := by
  rw [h, x_sel]
  exact hk
theorem cb_ok {p0 : Int32} (h : (!decide (p0 < 1) && !decide (200000 < p0)) = true) : f_X6_checkBudget p0 = some (Sum.inr ()) := by
  obtain ⟨h1, h2⟩ := rng_lt.1 h
  unfold f_X6_checkBudget
  rw [if_neg h1, if_pos h2]
theorem cb_no {p0 : Int32} (h : ¬ (!decide (p0 < 1) && !decide (200000 < p0)) = true) : f_X6_checkBudget p0 = some (Sum.inl x_IAE) := by
  unfold f_X6_checkBudget
  by_cases h1 : p0 < 1
  · rw [if_pos h1]
  · rw [if_neg h1, if_neg (fun q => h (rng_lt.2 ⟨h1, q⟩))]
theorem hw_0 {wan fou : Int32} (h1 : ¬ wan = (-1 : Int32)) (h2 : fou ≤ wan) : f_X2_hasWanted wan fou = some 0 := by
  unfold f_X2_hasWanted
  rw [if_neg h1, if_pos h2, if_pos bOk_0]
theorem hw_1 {wan fou : Int32} (h1 : ¬ wan = (-1 : Int32)) (h2 : ¬ fou ≤ wan) : f_X2_hasWanted wan fou = some 1 := by
  unfold f_X2_hasWanted
  rw [if_neg h1, if_neg h2, if_pos bOk_1]
theorem we_1 {e : Int32} (h : e = 1) : f_X2_wasEnough e = some 1 := by
  unfold f_X2_wasEnough
  rw [h, if_pos bOk_1]
theorem we_0 {e : Int32} (h : e = 0) : f_X2_wasEnough e = some 0 := by
  unfold f_X2_wasEnough
  rw [h, if_pos bOk_0]
theorem bud_n {x : Int32} (h1 : ¬ x < 1) (h2 : x ≤ 200000) : ∃ n, n ≤ 200000 ∧ x = nI n := by
  obtain ⟨n, hn, e⟩ := to_n (x := x) (fun q => h1 (Int32.lt_trans q (by decide)))
  refine ⟨n, ?_, e⟩
  subst e
  replace h2 : nI n ≤ nI 200000 := h2
  rwa [le_n hn (by decide)] at h2
/-- what packing and assembling need of both states -/
def PkI (S : Nat → Int64) (mb : Nat → Bool) (pmm mir tgt : Nat → Int32) (su op : Int64) : Prop := (∀ p, p < 6 → pmm p = bI (mb p)) ∧ (∀ p, p < 6 → mir p = bI (mb p)) ∧ (∀ p, p < 6 → cnt (S p) ≤ 10) ∧ TW tgt (su ||| op) ∧ TS tgt su
theorem PcA.sc {S S' : Nat → Int64} {mb : Nat → Bool} {pss pps phv : Nat → Nat → Int64} {psk ppk : Nat → Int32} {pkw : Nat → Int64} {psc ppn : Nat → Int32} (h : PcA S mb pss pps phv psk ppk pkw psc ppn) (e : ∀ p, p < 6 → S' p = S p) : PcA S' mb pss pps phv psk ppk pkw psc ppn := fun p hp => by rw [e p hp]; exact h p hp
theorem ne10 : ¬ (1 : Int32) = 0 := by decide
theorem run_0 {bud : Nat} {wan : Int32} {es : List Ev} : run bud wan es (0, 0, none) = run1 bud wan es 0 0 := rfl
theorem pack_ok {fu : Nat} (hf : 500000 ≤ fu) {su op : Int64} {S : Nat → Int64} {mb : Nat → Bool} {pmm mir tgt : Nat → Int32} (hI : PkI S mb pmm mir tgt su op) {pss pps phv poo : Nat → Nat → Int64} {psk ppk : Nat → Int32} {pkw : Nat → Int64} {psc ppn : Nat → Int32} (hA : PcA S mb pss pps phv psk ppk pkw psc ppn) (sur : Int64) (bud wan tri fou en eh : Int32) (cho : Nat → Int64) (out : Nat → Int64) (shs : Nat → Int32) (shp : Nat → Int64) (pls : Nat → Int32) (pl tak : Nat → Int64) (pld cel pie nxt : Nat → Int32) (cho' : Nat → Int64) (p0 : Int32) : Ok (f_L_pack fu pss pps phv poo S pmm psk ppk pkw psc ppn sur bud wan tri fou en eh cho su op out p0) (fun a => Ok (f_X7_pack fu S mir tgt shs shp pls pl tri tak pld cel pie nxt cho' p0) (fun b => b.2.1 = a.1 ∧ (a.1 = 0 → a.2.2.2.2.2.2.2.2.2.2.2.2.2.2.2.2.2.2 0 = b.1.toInt64) ∧ a.2.2.2.2.2.2.2.2.2.2.2.2.2.1 = b.2.2.2.2.2.2.1 ∧ PcA S mb a.2.1 a.2.2.1 a.2.2.2.1 a.2.2.2.2.2.1 a.2.2.2.2.2.2.1 a.2.2.2.2.2.2.2.1 a.2.2.2.2.2.2.2.2.1 a.2.2.2.2.2.2.2.2.2.1)) := by
  obtain ⟨i1, i2, i3, i4, i5⟩ := hI
  unfold f_L_pack f_X6_pack f_X7_pack
  by_cases hb : (!decide (p0 < 1) && !decide (200000 < p0)) = true
  · obtain ⟨h1, h2⟩ := rng_lt.1 hb
    have hin : f_X7_in p0 1 200000 = some (bI true) := by rw [in_ok, hb]
    obtain ⟨B, hB, e⟩ := bud_n h1 h2
    subst e
    obtain ⟨q, eq, hq1, hq2, PL, n, M, hK, hS⟩ := crun_ok (fu := fu) (bud := B) (by omega) hB (su := su) (op := op) i1 (poo := poo) (cho := cho) (wan := -1) hA
    obtain ⟨s, es, hs⟩ := rsearch_ok (fu := fu) (bud := B) hf hB i2 i3 i4 i5 hK (-1) shs shp pls pl tak pld cel pie nxt cho'
    have hle := evs_le (PL := PL) (n := n) (su := su) (bud := B) (wan := -1) 7 0 M (fun _ => 0)
    generalize hr : run B (-1) (evs PL n su 7 0 M (fun _ => 0)) (0, 0, none) = r at hS hs hle
    obtain ⟨s1, s2, s3, s4⟩ := hS
    rcases hs with ⟨g1, g2, g3⟩ | ⟨g1, g2, g3, g4⟩ | ⟨c, d, g1, _⟩
    · rw [g1] at s4
      obtain ⟨t1, t2, t3⟩ := s4
      refine Ok.bind (P := fun z => z.1 = Sum.inr (nI r.2.1) ∧ z.2.2.2.2.2.2.2.2.2.2.2.2.2.1 = nI r.1 ∧ PcA S mb z.2.1 z.2.2.1 z.2.2.2.1 z.2.2.2.2.2.1 z.2.2.2.2.2.2.1 z.2.2.2.2.2.2.2.1 z.2.2.2.2.2.2.2.2.1 z.2.2.2.2.2.2.2.2.2.1) (Ok.xr (cb_ok hb) (Ok.bindE eq (Ok.bindE (we_1 t2) (Ok.neg (by decide) (Ok.bindE rfl (Ok.some ⟨congrArg Sum.inr s3, s2, hq1⟩)))))) ?_
      intro z ⟨z1, z2, z3⟩
      refine Ok.sel0 z1 (Ok.pos (by decide) (Ok.some ?_))
      refine Ok.bindE hin (Ok.bindE (says_ok true) (Ok.neg (by decide) (Ok.bindE es (Ok.neg ?_ (Ok.some ⟨rfl, fun _ => ?_, ?_, z3⟩)))))
      · rw [g3, lt_n (by omega) (by omega)]
        omega
      · show (nI r.2.1).toInt64 = s.1.toInt64
        rw [g2]
      · exact z2.trans g3.symm
    · rw [g1] at s4
      obtain ⟨t1, t2⟩ := s4
      refine Ok.bind (P := fun z => z.1 = Sum.inr ((-1 : Int32) - nI r.2.1) ∧ z.2.2.2.2.2.2.2.2.2.2.2.2.2.1 = nI B ∧ PcA S mb z.2.1 z.2.2.1 z.2.2.2.1 z.2.2.2.2.2.1 z.2.2.2.2.2.2.1 z.2.2.2.2.2.2.2.1 z.2.2.2.2.2.2.2.2.1 z.2.2.2.2.2.2.2.2.2.1) (Ok.xr (cb_ok hb) (Ok.bindE eq (Ok.bindE (we_0 t2) (Ok.pos rfl (Ok.bindE rfl (Ok.some ⟨congrArg (fun x => Sum.inr ((-1 : Int32) - x)) s3, by rw [← g3]; exact s2, hq1⟩)))))) ?_
      intro z ⟨z1, z2, z3⟩
      refine Ok.sel0 z1 (Ok.pos (by decide) (Ok.some ?_))
      refine Ok.bindE hin (Ok.bindE (says_ok true) (Ok.neg (by decide) (Ok.bindE es (Ok.pos ?_ (Ok.some ⟨rfl, fun _ => ?_, z2, z3⟩)))))
      · rw [g4, lt_n (by omega) (by omega)]
        omega
      · show ((-1 : Int32) - nI r.2.1).toInt64 = ((-1 : Int32) - s.1).toInt64
        rw [g2]
    · exfalso
      rw [run_0] at hr
      obtain ⟨g, h3, h4⟩ := run1_pk _ _ _ c (by rw [hr]; exact g1)
      rw [hr] at h3
      have h5 : ¬ nI g < 0 := nI_pos (by omega)
      rw [h4] at h5
      exact h5 (by decide)
  · have hb' : (!decide (p0 < 1) && !decide (200000 < p0)) = false := by
      cases hh : (!decide (p0 < 1) && !decide (200000 < p0))
      · rfl
      · exact absurd hh hb
    have hin : f_X7_in p0 1 200000 = some (bI false) := by rw [in_ok, hb']
    refine Ok.bind (P := fun z => z = (Sum.inl x_IAE, pss, pps, phv, poo, psk, ppk, pkw, psc, ppn, sur, bud, wan, tri, fou, en, eh, cho)) (Ok.xl (cb_no hb) (Ok.some rfl)) ?_
    rintro z rfl
    exact Ok.sel1 rfl (Ok.some (Ok.bindE hin (Ok.bindE (says_ok false) (Ok.pos rfl (Ok.some ⟨rfl, fun q => absurd q ne10, rfl, hA⟩)))))
theorem a49_ok {cho : Nat → Int64} : ∀ k fu i asm, k < fu → k + i = 6 → (∀ p, p < i → asm p = cho p) → Ok (f_X6_assemble_49 cho fu (nI i) asm) (fun q => ∀ p, p < 6 → q p = cho p) := by
  intro k
  induction k with
  | zero =>
    intro fu i asm hf hk h
    obtain ⟨w, rfl⟩ : ∃ w, fu = w + 1 := ⟨fu - 1, by omega⟩
    have : i = 6 := by omega
    subst this
    rw [f_X6_assemble_49]
    exact Ok.pos (by decide +kernel) (Ok.some h)
  | succ k ih =>
    intro fu i asm hf hk h
    obtain ⟨w, rfl⟩ : ∃ w, fu = w + 1 := ⟨fu - 1, by omega⟩
    rw [f_X6_assemble_49, f_X2_chosenFor, show nI i + 1 = nI (i + 1) from nI_1 i, cl_n (by omega), if_pos (inB_n (show i < 6 by omega) (by decide))]
    refine Ok.neg (nI_ge (b := 6) (by omega) (by decide)) (Ok.bindE rfl (Ok.pos (inB_n (show i < 6 by omega) (by decide)) (ih w (i + 1) _ (by omega) (by omega) (fun p hp => ?_))))
    by_cases q : p = i
    · subst q; exact vu_s
    · rw [vu_n q]; exact h p (by omega)
theorem a60_ok : ∀ k fu i asm, k < fu → k + i = 6 → (∀ p, p < i → asm p = 0) → Ok (f_X7_assemble_60 fu (nI i) asm) (fun q => ∀ p, p < 6 → q p = 0) := by
  intro k
  induction k with
  | zero =>
    intro fu i asm hf hk h
    obtain ⟨w, rfl⟩ : ∃ w, fu = w + 1 := ⟨fu - 1, by omega⟩
    have : i = 6 := by omega
    subst this
    rw [f_X7_assemble_60]
    exact Ok.pos (by decide +kernel) (Ok.some h)
  | succ k ih =>
    intro fu i asm hf hk h
    obtain ⟨w, rfl⟩ : ∃ w, fu = w + 1 := ⟨fu - 1, by omega⟩
    rw [f_X7_assemble_60, show nI i + 1 = nI (i + 1) from nI_1 i, cl_n (by omega)]
    refine Ok.neg (nI_ge (b := 6) (by omega) (by decide)) (Ok.pos (inB_n (show i < 6 by omega) (by decide)) (ih w (i + 1) _ (by omega) (by omega) (fun p hp => ?_)))
    by_cases q : p = i
    · subst q; exact vu_s
    · rw [vu_n q]; exact h p (by omega)
theorem a84_ok {d : Nat} (hd : d ≤ 6) {pie : Nat → Int32} {cho : Nat → Int64} (hp : ∀ e, e < d → ∃ p, p < 6 ∧ pie e = nI p) : ∀ k fu i asm, k < fu → k + i = d → (∀ p, p < 6 → asm p = pathF pie cho i p) → Ok (f_X7_assemble_84 (nI d) pie cho fu (nI i) asm) (fun q => ∀ p, p < 6 → q p = pathF pie cho d p) := by
  intro k
  induction k with
  | zero =>
    intro fu i asm hf hk h
    obtain ⟨w, rfl⟩ : ∃ w, fu = w + 1 := ⟨fu - 1, by omega⟩
    have : i = d := by omega
    subst this
    rw [f_X7_assemble_84]
    exact Ok.pos (nI_le (Nat.le_refl _) (by omega)) (Ok.some h)
  | succ k ih =>
    intro fu i asm hf hk h
    obtain ⟨w, rfl⟩ : ∃ w, fu = w + 1 := ⟨fu - 1, by omega⟩
    obtain ⟨p', hp', e'⟩ := hp i (by omega)
    rw [f_X7_assemble_84, show nI i + 1 = nI (i + 1) from nI_1 i, cl_n (by omega), e', cl_n (by omega)]
    refine Ok.neg (nI_ge (by omega) (by omega)) (Ok.pos (inB_n (show i < 7 by omega) (by decide)) (Ok.pos (inB_n (show i < 7 by omega) (by decide)) (Ok.pos (inB_n hp' (by decide)) (ih w (i + 1) _ (by omega) (by omega) (fun p hp2 => ?_)))))
    show _ = va_up (pathF pie cho i) (pie i).toNatClampNeg (cho i) p
    rw [e', cl_n (by omega)]
    by_cases q : p = p'
    · subst q; rw [vu_s, vu_s]
    · rw [vu_n q, vu_n q]; exact h p hp2
theorem assemble_ok {fu : Nat} (hf : 500000 ≤ fu) {su op : Int64} {S : Nat → Int64} {mb : Nat → Bool} {pmm mir tgt : Nat → Int32} (hI : PkI S mb pmm mir tgt su op) {pss pps phv poo : Nat → Nat → Int64} {psk ppk : Nat → Int32} {pkw : Nat → Int64} {psc ppn : Nat → Int32} (hA : PcA S mb pss pps phv psk ppk pkw psc ppn) (sur : Int64) (bud wan tri fou en eh : Int32) (cho : Nat → Int64) (out : Nat → Int64) (shs : Nat → Int32) (shp : Nat → Int64) (pls : Nat → Int32) (pl tak : Nat → Int64) (pld cel pie nxt : Nat → Int32) (cho' : Nat → Int64) {asm asm' : Nat → Int64} (hasm : ∀ p, p < 6 → asm p = asm' p) (hac : ∀ p, p < 6 → cnt (asm p) ≤ 10) (p0 p1 : Int32) : Ok (f_L_assemble fu pss pps phv poo S pmm psk ppk pkw psc ppn asm sur bud wan tri fou en eh cho su op out p0 p1) (fun a => Ok (f_X7_assemble fu S mir tgt shs shp pls pl tri asm' tak pld cel pie nxt cho' p0 p1) (fun b => b.2.1 = a.1 ∧ (a.1 = 0 → a.2.2.2.2.2.2.2.2.2.2.2.2.2.2.2.2.2.2.2 0 = (if b.1 = 0 then (0 : Int64) else (1 : Int64))) ∧ a.2.2.2.2.2.2.2.2.2.2.2.2.2.2.1 = b.2.2.2.2.2.2.1 ∧ (∀ p, p < 6 → a.2.2.2.2.2.2.2.2.2.2.1 p = b.2.2.2.2.2.2.2.1 p) ∧ (∀ p, p < 6 → cnt (a.2.2.2.2.2.2.2.2.2.2.1 p) ≤ 10) ∧ PcA S mb a.2.1 a.2.2.1 a.2.2.2.1 a.2.2.2.2.2.1 a.2.2.2.2.2.2.1 a.2.2.2.2.2.2.2.1 a.2.2.2.2.2.2.2.2.1 a.2.2.2.2.2.2.2.2.2.1)) := by
  obtain ⟨i1, i2, i3, i4, i5⟩ := hI
  unfold f_L_assemble f_X6_assemble f_X7_assemble
  by_cases h0 : p0 < 0
  · have e : f_X7_says 0 = some (0, 1) := by decide +kernel
    refine Ok.bind (P := fun z => z = (Sum.inl x_IAE, pss, pps, phv, poo, psk, ppk, pkw, psc, ppn, asm, sur, bud, wan, tri, fou, en, eh, cho)) (Ok.neg (fun q => (Int32.not_lt.2 q) h0) (Ok.some rfl)) ?_
    rintro z rfl
    exact Ok.sel1 rfl (Ok.some (Ok.pos h0 (Ok.bindE e (Ok.pos rfl (Ok.some ⟨rfl, fun q => absurd q ne10, rfl, hasm, hac, hA⟩)))))
  · obtain ⟨w, hw, e⟩ := to_n h0
    subst e
    have h0' : 0 ≤ nI w := Int32.not_lt.1 h0
    have e2 : ∀ b, f_X7_says (if bI b = 0 then (0 : Int32) else 1) = some (bI b, bI (!b)) := by decide +kernel
    by_cases hb : (!decide (p1 < 1) && !decide (200000 < p1)) = true
    · obtain ⟨h1, h2⟩ := rng_lt.1 hb
      have hin : f_X7_in p1 1 200000 = some (bI true) := by rw [in_ok, hb]
      obtain ⟨B, hB, e⟩ := bud_n h1 h2
      subst e
      obtain ⟨q, eq, hq1, hq2, PL, n, M, hK, hS⟩ := crun_ok (fu := fu) (bud := B) (by omega) hB (su := su) (op := op) i1 (poo := poo) (cho := cho) (wan := nI w) hA
      obtain ⟨s, es, hs⟩ := rsearch_ok (fu := fu) (bud := B) hf hB i2 i3 i4 i5 hK (nI w) shs shp pls pl tak pld cel pie nxt cho'
      have hle := evs_le (PL := PL) (n := n) (su := su) (bud := B) (wan := nI w) 7 0 M (fun _ => 0)
      obtain ⟨hw1, hw2⟩ := run1_wan (bud := B) hw (evs PL n su 7 0 M (fun _ => 0)) 0 0 (Nat.zero_le _)
      rw [← run_0] at hw1 hw2
      generalize hr : run B (nI w) (evs PL n su 7 0 M (fun _ => 0)) (0, 0, none) = r at hS hs hle hw1 hw2
      obtain ⟨s1, s2, s3, s4⟩ := hS
      have hwn : ¬ nI w = (-1 : Int32) := fun q => h0 (by rw [q]; decide)
      have hno : (∀ c, r.2.2 ≠ some (some c)) → f_X2_hasWanted q.2.2.2.2.2.2.2.2.2.2.2.1 q.2.2.2.2.2.2.2.2.2.2.2.2.2.1 = some 0 := by
        intro hn
        have h3 := hw2 hn
        refine hw_0 (by rw [hq2]; exact hwn) ?_
        rw [hq2, show q.2.2.2.2.2.2.2.2.2.2.2.2.2.1 = nI r.2.1 from s3, le_n (by omega) hw]
        exact h3
      have hneg : s.1 = nI r.2.1 → ¬ 0 ≤ s.1 - (1000000 : Int32) := by
        intro e
        rw [e, iI_n, show (1000000 : Int32) = iI 1000000 from rfl, iI_sub, show (0 : Int32) = iI 0 from rfl, iI_le (by omega) (by omega) (by omega) (by omega)]
        omega
      rcases hs with ⟨g1, g2, g3⟩ | ⟨g1, g2, g3, g4⟩ | ⟨c, d, g1, g2, g3, g4, g5, g6⟩
      · refine Ok.bind (P := fun z => z.1 = Sum.inr 0 ∧ z.2.2.2.2.2.2.2.2.2.2.2.2.2.2.1 = nI r.1 ∧ z.2.2.2.2.2.2.2.2.2.2.1 = asm ∧ PcA S mb z.2.1 z.2.2.1 z.2.2.2.1 z.2.2.2.2.2.1 z.2.2.2.2.2.2.1 z.2.2.2.2.2.2.2.1 z.2.2.2.2.2.2.2.2.1 z.2.2.2.2.2.2.2.2.2.1) (Ok.pos h0' (Ok.xr (cb_ok hb) (Ok.bindE eq (Ok.bindE (hno (fun c => by rw [g1]; intro z; cases z)) (Ok.pos rfl (Ok.some ⟨rfl, s2, rfl, hq1⟩)))))) ?_
        intro z ⟨z1, z2, z3, z4⟩
        refine Ok.sel0 z1 (Ok.pos (by decide) (Ok.some ?_))
        refine Ok.neg h0 (Ok.bindE hin (Ok.bindE (e2 true) (Ok.neg (by decide) (Ok.bindE es (Ok.pos ?_ (Ok.neg (hneg g2) (Ok.some ⟨rfl, fun _ => rfl, ?_, fun p hp => ?_, fun p hp => ?_, z4⟩)))))))
        · rw [g3, le_n (by omega) (by omega)]
          exact s1
        · exact z2.trans g3.symm
        · show z.2.2.2.2.2.2.2.2.2.2.1 p = asm' p
          rw [z3]; exact hasm p hp
        · show cnt (z.2.2.2.2.2.2.2.2.2.2.1 p) ≤ 10
          rw [z3]; exact hac p hp
      · refine Ok.bind (P := fun z => z.1 = Sum.inr 0 ∧ z.2.2.2.2.2.2.2.2.2.2.2.2.2.2.1 = nI r.1 ∧ z.2.2.2.2.2.2.2.2.2.2.1 = asm ∧ PcA S mb z.2.1 z.2.2.1 z.2.2.2.1 z.2.2.2.2.2.1 z.2.2.2.2.2.2.1 z.2.2.2.2.2.2.2.1 z.2.2.2.2.2.2.2.2.1 z.2.2.2.2.2.2.2.2.2.1) (Ok.pos h0' (Ok.xr (cb_ok hb) (Ok.bindE eq (Ok.bindE (hno (fun c => by rw [g1]; intro z; cases z)) (Ok.pos rfl (Ok.some ⟨rfl, s2, rfl, hq1⟩)))))) ?_
        intro z ⟨z1, z2, z3, z4⟩
        refine Ok.sel0 z1 (Ok.pos (by decide) (Ok.some ?_))
        refine Ok.neg h0 (Ok.bindE hin (Ok.bindE (e2 true) (Ok.neg (by decide) (Ok.bindE es (Ok.neg ?_ (Ok.neg (hneg g2) (Ok.some ⟨rfl, fun _ => rfl, ?_, fun p hp => ?_, fun p hp => ?_, z4⟩)))))))
        · rw [g4, le_n (by omega) (by omega)]
          omega
        · rw [← g3]; exact z2
        · show z.2.2.2.2.2.2.2.2.2.2.1 p = asm' p
          rw [z3]; exact hasm p hp
        · show cnt (z.2.2.2.2.2.2.2.2.2.2.1 p) ≤ 10
          rw [z3]; exact hac p hp
      · have h3 := hw1 c g1
        rw [g1] at s4
        obtain ⟨t1, t2, t3⟩ := s4
        have e : f_X2_hasWanted q.2.2.2.2.2.2.2.2.2.2.2.1 q.2.2.2.2.2.2.2.2.2.2.2.2.2.1 = some 1 := by
          refine hw_1 (by rw [hq2]; exact hwn) ?_
          rw [hq2, show q.2.2.2.2.2.2.2.2.2.2.2.2.2.1 = nI r.2.1 from s3, le_n (by omega) hw]
          omega
        refine Ok.bind (P := fun z => z.1 = Sum.inr 1 ∧ z.2.2.2.2.2.2.2.2.2.2.2.2.2.2.1 = nI r.1 ∧ (∀ p, p < 6 → z.2.2.2.2.2.2.2.2.2.2.1 p = c p) ∧ PcA S mb z.2.1 z.2.2.1 z.2.2.2.1 z.2.2.2.2.2.1 z.2.2.2.2.2.2.1 z.2.2.2.2.2.2.2.1 z.2.2.2.2.2.2.2.2.1 z.2.2.2.2.2.2.2.2.2.1) (Ok.pos h0' (Ok.xr (cb_ok hb) (Ok.bindE eq (Ok.bindE e (Ok.neg (by decide) (Ok.bind (a49_ok 6 fu 0 asm (by omega) (by omega) (fun p hp => absurd hp (by omega))) ?_)))))) ?_
        · intro y hy
          exact Ok.some ⟨rfl, s2, fun p hp => by rw [← t3 p hp]; exact hy p hp, hq1⟩
        · intro z ⟨z1, z2, z3, z4⟩
          refine Ok.sel0 z1 (Ok.pos (by decide) (Ok.some ?_))
          have e3 : s.1 - (1000000 : Int32) = nI d := by rw [g2]; exact Int32.add_sub_cancel _ _
          refine Ok.neg h0 (Ok.bindE hin (Ok.bindE (e2 true) (Ok.neg (by decide) (Ok.bindE es (Ok.pos ?_ ?_)))))
          · rw [g4, le_n (by omega) (by omega)]
            exact s1
          · rw [e3]
            refine Ok.pos (nI_pos' (by omega)) (Ok.bind (a60_ok 6 fu 0 asm' (by omega) (by omega) (fun p hp => absurd hp (by omega))) ?_)
            intro y hy
            refine Ok.bind (a84_ok g3 g6 d fu 0 y (by omega) (by omega) hy) ?_
            intro x hx
            refine Ok.some ⟨rfl, fun _ => rfl, z2.trans g4.symm, fun p hp => (z3 p hp).trans ((congrFun g5 p).trans (hx p hp).symm), fun p hp => ?_, z4⟩
            show cnt (z.2.2.2.2.2.2.2.2.2.2.1 p) ≤ 10
            rw [z3 p hp]
            exact chosen_cnt hK i3 (by rw [hr]; exact g1) hp
    · have hb' : (!decide (p1 < 1) && !decide (200000 < p1)) = false := by
        cases hh : (!decide (p1 < 1) && !decide (200000 < p1))
        · rfl
        · exact absurd hh hb
      have hin : f_X7_in p1 1 200000 = some (bI false) := by rw [in_ok, hb']
      refine Ok.bind (P := fun z => z = (Sum.inl x_IAE, pss, pps, phv, poo, psk, ppk, pkw, psc, ppn, asm, sur, bud, wan, tri, fou, en, eh, cho)) (Ok.pos h0' (Ok.xl (cb_no hb) (Ok.some rfl))) ?_
      rintro z rfl
      exact Ok.sel1 rfl (Ok.some (Ok.neg h0 (Ok.bindE hin (Ok.bindE (e2 false) (Ok.pos rfl (Ok.some ⟨rfl, fun q => absurd q ne10, rfl, hasm, hac, hA⟩))))))
