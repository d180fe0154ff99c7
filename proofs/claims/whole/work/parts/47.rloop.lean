/-! the reference's search does the events -/
def tl72 (l1 : Int32) (l2 : Int32) (l3 : Int32) (tgt : Nat → Int32) (shs : Nat → Int32) (shp : Nat → Int64) (pls : Nat → Int32) (pl : Nat → Int64) (fu : Nat) (l6 l4 l5 tri : Int32) (tak : Nat → Int64) (pld cel pie nxt : Nat → Int32) (cho : Nat → Int64) : Option ((Int32 × (Nat → Int32) × (Nat → Int64) × (Nat → Int32) × (Nat → Int64) × Int32 × (Nat → Int64) × (Nat → Int32) × (Nat → Int32) × (Nat → Int32) × (Nat → Int32) × (Nat → Int64)) ⊕ (Int32 × Int32 × (Nat → Int64) × (Nat → Int32) × (Nat → Int32) × (Nat → Int32) × (Nat → Int32) × (Nat → Int64))) := ((f_X7_search_130 l3 l5 l6 pls pl pld cel fu (0 : Int32) pie nxt cho).bind fun q429 => (if q429.1 = 0 then f_X7_search_72 l1 l2 l3 tgt shs shp pls pl fu l4 (l5 + (-1 : Int32)) tri tak pld cel q429.2.1 q429.2.2.1 q429.2.2.2 else (if tri = l1 then some (.inl (l4, shs, shp, pls, pl, tri + (1 : Int32), tak, pld, cel, q429.2.1, q429.2.2.1, q429.2.2.2)) else (if inB l5 7 = true then (if inB l5 7 = true then (if ((q429.2.2.2 l5.toNatClampNeg) &&& (tak l5.toNatClampNeg)) = (0 : Int64) then (if inB l5 7 = true then (if inB l5 7 = true then (if inB (l5 + (1 : Int32)) 7 = true then (if inB l5 7 = true then (if inB l5 7 = true then (if inB (l5 + (1 : Int32)) 7 = true then ((f_X7_begins fu tgt (va_up tak (l5 + (1 : Int32)).toNatClampNeg ((tak l5.toNatClampNeg) ||| (q429.2.2.2 l5.toNatClampNeg))) (va_up pld (l5 + (1 : Int32)).toNatClampNeg ((pld l5.toNatClampNeg) ||| ((1 : Int32) <<< ((q429.2.1 l5.toNatClampNeg) &&& 31)))) cel q429.2.1 q429.2.2.1 (l5 + (1 : Int32)) l3).bind fun q441 => f_X7_search_72 l1 l2 l3 tgt shs shp pls pl fu l4 (l5 + (1 : Int32)) (tri + (1 : Int32)) (va_up tak (l5 + (1 : Int32)).toNatClampNeg ((tak l5.toNatClampNeg) ||| (q429.2.2.2 l5.toNatClampNeg))) (va_up pld (l5 + (1 : Int32)).toNatClampNeg ((pld l5.toNatClampNeg) ||| ((1 : Int32) <<< ((q429.2.1 l5.toNatClampNeg) &&& 31)))) q441.1 q441.2.1 q441.2.2 q429.2.2.2) else none) else none) else none) else none) else none) else none) else f_X7_search_72 l1 l2 l3 tgt shs shp pls pl fu l4 l5 (tri + (1 : Int32)) tak pld cel q429.2.1 q429.2.2.1 q429.2.2.2) else none) else none))))
theorem s72_un (l1 : Int32) (l2 : Int32) (l3 : Int32) (tgt : Nat → Int32) (shs : Nat → Int32) (shp : Nat → Int64) (pls : Nat → Int32) (pl : Nat → Int64) (fu : Nat) (l4 l5 tri : Int32) (tak : Nat → Int64) (pld cel pie nxt : Nat → Int32) (cho : Nat → Int64) : f_X7_search_72 l1 l2 l3 tgt shs shp pls pl (fu + 1) l4 l5 tri tak pld cel pie nxt cho = (if l5 < 0 then some (.inr (l4, tri, tak, pld, cel, pie, nxt, cho)) else (if inB l5 7 = true then (if (if (pld l5.toNatClampNeg) = l3 then (1 : Int32) else (0 : Int32)) = 0 then tl72 l1 l2 l3 tgt shs shp pls pl fu (if (pld l5.toNatClampNeg) = l3 then (1 : Int32) else (0 : Int32)) l4 l5 tri tak pld cel pie nxt cho else (if inB l5 7 = true then (if 0 ≤ (cel l5.toNatClampNeg) then tl72 l1 l2 l3 tgt shs shp pls pl fu (if (pld l5.toNatClampNeg) = l3 then (1 : Int32) else (0 : Int32)) l4 l5 tri tak pld cel pie nxt cho else (if ((l4 + (1 : Int32)) - (1 : Int32)) = l2 then some (.inl (l5 + (1000000 : Int32), shs, shp, pls, pl, tri, tak, pld, cel, pie, nxt, cho)) else tl72 l1 l2 l3 tgt shs shp pls pl fu (if (pld l5.toNatClampNeg) = l3 then (1 : Int32) else (0 : Int32)) (l4 + (1 : Int32)) l5 tri tak pld cel pie nxt cho)) else none)) else none)) := by
  rw [f_X7_search_72]
  rfl
/-- what the stack has chosen, up to a depth -/
def pathF (pie : Nat → Int32) (cho : Nat → Int64) : Nat → (Nat → Int64)
  | 0 => fun _ => 0
  | e + 1 => va_up (pathF pie cho e) (pie e).toNatClampNeg (cho e)
theorem path_congr {pie pie' : Nat → Int32} {cho cho' : Nat → Int64} : ∀ e, (∀ j, j < e → pie' j = pie j ∧ cho' j = cho j) → pathF pie' cho' e = pathF pie cho e := by
  intro e
  induction e with
  | zero => intro _; rfl
  | succ e ih =>
    intro h
    unfold pathF
    rw [ih (fun j hj => h j (by omega)), (h e (by omega)).1, (h e (by omega)).2]
def FrA (su : Int64) (M : Nat) (tak : Nat → Int64) (pld cel : Nat → Int32) (e : Nat) (T : Int64) (L : Nat) : Prop := tak e = T ∧ pld e = nI (M ^^^ L) ∧ cel e = cvI (su &&& (T ^^^ (-1 : Int64))) ∧ L < 64 ∧ L &&& M = L ∧ pc L + e ≤ 6
def FrB (n : Nat → Nat) (pie nxt : Nat → Int32) (e L p i : Nat) : Prop := L ≠ 0 ∧ pie e = nI p ∧ nxt e = nI i ∧ p ≤ 6 ∧ i ≤ 896 ∧ (p < 6 → L.testBit p = true ∧ i ≤ n p)
def Stk (PL : Nat → Nat → Int64) (n : Nat → Nat) (su : Int64) (M : Nat) (tak : Nat → Int64) (pld cel pie nxt : Nat → Int32) (cho : Nat → Int64) : Nat → List Ev → Prop
  | 0, R => R = []
  | e + 1, R => ∃ T L p i R0, FrA su M tak pld cel e T L ∧ FrB n pie nxt e L p i ∧ p < 6 ∧ Stk PL n su M tak pld cel pie nxt cho e R0 ∧ R = restC PL n (evs PL n su (6 - e)) T L (pathF pie cho e) (clO su T) p i ++ R0
theorem Stk.congr {PL : Nat → Nat → Int64} {n : Nat → Nat} {su : Int64} {M : Nat} {tak tak' : Nat → Int64} {pld cel pie nxt pld' cel' pie' nxt' : Nat → Int32} {cho cho' : Nat → Int64} : ∀ e R, Stk PL n su M tak pld cel pie nxt cho e R → (∀ j, j < e → tak' j = tak j ∧ pld' j = pld j ∧ cel' j = cel j ∧ pie' j = pie j ∧ nxt' j = nxt j ∧ cho' j = cho j) → Stk PL n su M tak' pld' cel' pie' nxt' cho' e R := by
  intro e
  induction e with
  | zero => intro R h _; exact h
  | succ e ih =>
    rintro R ⟨T, L, p, i, R0, h1, h2, h3, h4, h5⟩ hc
    obtain ⟨c1, c2, c3, c4, c5, c6⟩ := hc e (by omega)
    refine ⟨T, L, p, i, R0, ?_, ?_, h3, ih R0 h4 (fun j hj => hc j (by omega)), ?_⟩
    · unfold FrA
      rw [c1, c2, c3]
      exact h1
    · unfold FrB
      rw [c4, c5]
      exact h2
    · rw [h5, path_congr e (fun j hj => ⟨(hc j (by omega)).2.2.2.1, (hc j (by omega)).2.2.2.2.2⟩)]
theorem Stk.pie {PL : Nat → Nat → Int64} {n : Nat → Nat} {su : Int64} {M : Nat} {tak : Nat → Int64} {pld cel pie nxt : Nat → Int32} {cho : Nat → Int64} : ∀ e R, Stk PL n su M tak pld cel pie nxt cho e R → ∀ j, j < e → ∃ p, p < 6 ∧ pie j = nI p := by
  intro e
  induction e with
  | zero => intro R _ j hj; omega
  | succ e ih =>
    rintro R ⟨T, L, p, i, R0, h1, h2, h3, h4, h5⟩ j hj
    by_cases q : j = e
    · subst q; exact ⟨p, h3, h2.2.1⟩
    · exact ih R0 h4 j (by omega)
def Top (PL : Nat → Nat → Int64) (n : Nat → Nat) (su : Int64) (M : Nat) (tak : Nat → Int64) (pld cel pie nxt : Nat → Int32) (cho : Nat → Int64) : Nat → List Ev → Prop
  | 0, R => R = []
  | e + 1, R => ∃ T L Rt R0, FrA su M tak pld cel e T L ∧ Stk PL n su M tak pld cel pie nxt cho e R0 ∧ R = Rt ++ R0 ∧ ((L = 0 ∧ Rt = (if clO su T = 64 then [some (pathF pie cho e)] else [])) ∨ (∃ p i, FrB n pie nxt e L p i ∧ Rt = restC PL n (evs PL n su (6 - e)) T L (pathF pie cho e) (clO su T) p i))
theorem Stk.top {PL : Nat → Nat → Int64} {n : Nat → Nat} {su : Int64} {M : Nat} {tak : Nat → Int64} {pld cel pie nxt : Nat → Int32} {cho : Nat → Int64} {e : Nat} {R : List Ev} (h : Stk PL n su M tak pld cel pie nxt cho e R) : Top PL n su M tak pld cel pie nxt cho e R := by
  cases e with
  | zero => exact h
  | succ e =>
    obtain ⟨T, L, p, i, R0, h1, h2, h3, h4, h5⟩ := h
    exact ⟨T, L, _, R0, h1, h4, h5, Or.inr ⟨p, i, h2, rfl⟩⟩
def SQ (bud : Nat) (r : Rs) (q : (Int32 × (Nat → Int32) × (Nat → Int64) × (Nat → Int32) × (Nat → Int64) × Int32 × (Nat → Int64) × (Nat → Int32) × (Nat → Int32) × (Nat → Int32) × (Nat → Int32) × (Nat → Int64)) ⊕ (Int32 × Int32 × (Nat → Int64) × (Nat → Int32) × (Nat → Int32) × (Nat → Int32) × (Nat → Int32) × (Nat → Int64))) : Prop := match q with
  | .inr s => r.2.2 = none ∧ s.1 = nI r.2.1 ∧ s.2.1 = nI r.1
  | .inl s => (r.2.2 = some none ∧ s.1 = nI r.2.1 ∧ r.1 = bud ∧ s.2.2.2.2.2.1 = nI (bud + 1)) ∨ (∃ c d, r.2.2 = some (some c) ∧ s.1 = nI d + 1000000 ∧ d ≤ 6 ∧ s.2.2.2.2.2.1 = nI r.1 ∧ c = pathF s.2.2.2.2.2.2.2.2.2.1 s.2.2.2.2.2.2.2.2.2.2.2 d ∧ ∀ e, e < d → ∃ p, p < 6 ∧ s.2.2.2.2.2.2.2.2.2.1 e = nI p)
theorem setP_i : ∀ M, M < 64 → ∀ L, L < 64 → L &&& M = L → ((List.range 6).all (fun p => !L.testBit p || (decide ((nI (M ^^^ L) ||| ((1 : Int32) <<< (nI p &&& 31))) = nI (M ^^^ clrB L p)) && decide (clrB L p &&& M = clrB L p)))) = true := by decide +kernel
theorem setP_ok {M L p : Nat} (hM : M < 64) (hL : L < 64) (hs : L &&& M = L) (hp : p < 6) (hb : L.testBit p = true) : (nI (M ^^^ L) ||| ((1 : Int32) <<< (nI p &&& 31))) = nI (M ^^^ clrB L p) ∧ clrB L p &&& M = clrB L p := by
  have := List.all_eq_true.1 (setP_i M hM L hL hs) p (List.mem_range.2 hp)
  rw [hb] at this
  simpa using this
theorem all_i : ∀ M, M < 64 → ∀ L, L < 64 → L &&& M = L → (nI (M ^^^ L) = nI M ↔ L = 0) := by decide +kernel
theorem sub_bit : ∀ M, M < 64 → ∀ L, L < 64 → L &&& M = L → ((List.range 6).all (fun p => !L.testBit p || M.testBit p)) = true := by decide +kernel
theorem sub_b {M L p : Nat} (hM : M < 64) (hL : L < 64) (hs : L &&& M = L) (hp : p < 6) (hb : L.testBit p = true) : M.testBit p = true := by
  have := List.all_eq_true.1 (sub_bit M hM L hL hs) p (List.mem_range.2 hp)
  rw [hb] at this
  simpa using this
theorem s72_ok {PL : Nat → Nat → Int64} {n : Nat → Nat} {su : Int64} {M bud : Nat} {wan : Int32} (hM : M < 64) (hbud : bud ≤ 200000) {tgt : Nat → Int32} (hT : TS tgt su) {shs : Nat → Int32} {shp : Nat → Int64} {pls : Nat → Int32} {pl : Nat → Int64} (hK : ∀ p, p < 6 → M.testBit p = true → RK PL pls pl n p) : ∀ m fu D t f R tak pld cel pie nxt cho, 10000 + m < fu → 2 * (bud - t) + D + 1 ≤ m → D ≤ 7 → t ≤ bud → Top PL n su M tak pld cel pie nxt cho D R → Ok (f_X7_search_72 (nI bud) wan (nI M) tgt shs shp pls pl fu (nI f) (pI D) (nI t) tak pld cel pie nxt cho) (SQ bud (run bud wan R (t, f, none))) := by
  intro m
  induction m with
  | zero => intro fu D t f R tak pld cel pie nxt cho hf hm; omega
  | succ m ih =>
    intro fu D t f R tak pld cel pie nxt cho hf hm hD ht hTop
    obtain ⟨w, rfl⟩ : ∃ w, fu = w + 1 := ⟨fu - 1, by omega⟩
    rw [s72_un]
    cases D with
    | zero =>
      replace hTop : R = [] := hTop
      subst hTop
      exact Ok.pos pI_0 (Ok.some ⟨rfl, rfl, rfl⟩)
    | succ e =>
      obtain ⟨T, L, Rt, R0, hA, hSt, hR, hRt⟩ := hTop
      obtain ⟨a1, a2, a3, a4, a5, a6⟩ := hA
      have he : e < 7 := by omega
      have em1 : nI e + (-1 : Int32) = pI e := by
        have := (pI_n (o := e + 1) (by omega) (by omega)).2.2
        rw [pI_s] at this
        exact this
      rw [pI_s, cl_n (by omega), a2, a3]
      refine Ok.neg (nI_pos (by omega)) (Ok.pos (inB_n he (by decide)) ?_)
      have popped : ∀ f' pie' nxt' cho', (∀ j, j ≠ e → pie' j = pie j ∧ nxt' j = nxt j ∧ cho' j = cho j) → Ok (f_X7_search_72 (nI bud) wan (nI M) tgt shs shp pls pl w (nI f') (pI e) (nI t) tak pld cel pie' nxt' cho') (SQ bud (run bud wan R0 (t, f', none))) := by
        intro f' pie' nxt' cho' hfr
        refine ih w e t f' R0 tak pld cel pie' nxt' cho' (by omega) (by omega) (by omega) ht (Stk.top (hSt.congr _ _ (fun j hj => ?_)))
        have := hfr j (by omega)
        exact ⟨rfl, rfl, rfl, this.1, this.2.1, this.2.2⟩
      rcases hRt with ⟨hL0, hRt⟩ | ⟨p, i, hB, hRt⟩
      · subst hL0
        have hall : nI (M ^^^ 0) = nI M := (all_i M hM 0 (by decide) (Nat.zero_and M)).2 rfl
        rw [if_pos hall]
        have tailA : ∀ f', Ok (tl72 (nI bud) wan (nI M) tgt shs shp pls pl w 1 (nI f') (nI e) (nI t) tak pld cel pie nxt cho) (SQ bud (run bud wan R0 (t, f', none))) := by
          intro f'
          unfold tl72
          obtain ⟨w2, rfl⟩ : ∃ w2, w = w2 + 1 := ⟨w - 1, by omega⟩
          have e1 : f_X7_search_130 (nI M) (nI e) 1 pls pl pld cel (w2 + 1) 0 pie nxt cho = some (0, pie, nxt, cho) := by
            rw [f_X7_search_130, if_neg (by decide)]
          refine Ok.bindE e1 (Ok.pos rfl ?_)
          rw [em1]
          exact popped f' pie nxt cho (fun _ _ => ⟨rfl, rfl, rfl⟩)
        refine Ok.neg (by decide) (Ok.pos (inB_n he (by decide)) (Ok.ite (fun h => ?_) (fun h => ?_)))
        · have hcl : ¬ clO su T = 64 := cvI_neg.2.1 h
          rw [if_neg hcl] at hRt
          rw [hR, hRt, List.nil_append]
          exact tailA f
        · have hcl : clO su T = 64 := by
            apply Classical.byContradiction
            intro q
            exact h (cvI_neg.2.2 q)
          rw [if_pos hcl] at hRt
          rw [hR, hRt]
          have e1 : run bud wan ([some (pathF pie cho e)] ++ R0) (t, f, none) = if nI f = wan then (t, f + 1, some (some (pathF pie cho e))) else run bud wan R0 (t, f + 1, none) := rfl
          rw [e1, show nI f + 1 = nI (f + 1) from nI_1 f, show nI (f + 1) - 1 = nI f from nI_pred f]
          by_cases hw : nI f = wan
          · rw [if_pos hw, if_pos hw]
            exact Ok.some (Or.inr ⟨pathF pie cho e, e, rfl, rfl, by omega, rfl, rfl, Stk.pie e R0 hSt⟩)
          · rw [if_neg hw, if_neg hw]
            exact tailA (f + 1)
      · have hL0 := hB.1
        have hnall : ¬ nI (M ^^^ L) = nI M := fun q => hL0 ((all_i M hM L a4 a5).1 q)
        rw [if_neg hnall]
        refine Ok.pos rfl ?_
        unfold tl72
        obtain ⟨b0, b1, b2, b3, b4, b5⟩ := hB
        have he5 : e ≤ 5 := by
          apply Classical.byContradiction
          intro q
          exact b0 (pc_0 L a4 (by omega))
        refine Ok.bind (s130_ok (sub := evs PL n su (6 - e)) (ch := pathF pie cho e) (T := T) he hM a4 a5 (fun q hq hqb => hK q hq (sub_b hM a4 a5 hq hqb)) a2 a3 (pie0 := pie) (nxt0 := nxt) (cho0 := cho) 7000 w p i pie nxt cho (by omega) (by omega) b3 b4 b5 b1 b2 (fun _ _ => ⟨rfl, rfl, rfl⟩)) ?_
        rintro ⟨q1, pie', nxt', cho'⟩ ⟨hfr, hq⟩
        rcases hq with ⟨hq1, hnil⟩ | ⟨hq1, p', i', hp', hb', hi', hpie', hnxt', hcho', hrest⟩
        · replace hq1 : q1 = 0 := hq1
          subst hq1
          refine Ok.pos rfl ?_
          rw [em1, hR, hRt, hnil, List.nil_append]
          exact popped f pie' nxt' cho' hfr
        · replace hq1 : q1 = 1 := hq1
          subst hq1
          replace hfr : ∀ j, j ≠ e → pie' j = pie j ∧ nxt' j = nxt j ∧ cho' j = cho j := hfr
          replace hpie' : pie' e = nI p' := hpie'
          replace hnxt' : nxt' e = nI (i' + 1) := hnxt'
          replace hcho' : cho' e = PL p' i' := hcho'
          rw [hR, hRt, hrest, List.append_assoc, run_app]
          have hrun : run bud wan (evC PL (evs PL n su (6 - e)) T L (pathF pie cho e) p' i') (t, f, none) = if t < bud then run bud wan (if PL p' i' &&& T = 0 then evs PL n su (6 - e) (T ||| PL p' i') (clrB L p') (va_up (pathF pie cho e) p' (PL p' i')) else []) (t + 1, f, none) else (t, f, some none) := rfl
          rw [hrun]
          have hpath : pathF pie' cho' e = pathF pie cho e := path_congr e (fun j hj => ⟨(hfr j (by omega)).1, (hfr j (by omega)).2.2⟩)
          obtain ⟨k1, k2, k3⟩ := hK p' hp' (sub_b hM a4 a5 hp' hb')
          have hFB : FrB n pie' nxt' e L p' (i' + 1) := ⟨b0, hpie', hnxt', by omega, by omega, fun _ => ⟨hb', hi'⟩⟩
          refine Ok.neg (show ¬ (1 : Int32) = 0 by decide) (Ok.ite (fun h => ?_) (fun h => ?_))
          · rw [eq_n (by omega) (by omega)] at h
            rw [if_neg (by omega), run_end (x := none) rfl]
            refine Ok.some (Or.inl ⟨rfl, rfl, h, ?_⟩)
            show nI t + 1 = nI (bud + 1)
            rw [h]
            exact nI_1 bud
          · rw [eq_n (by omega) (by omega)] at h
            have htb : t < bud := by omega
            rw [if_pos htb]
            show Ok (if inB (nI e) 7 = true then (if inB (nI e) 7 = true then (if (cho' (nI e).toNatClampNeg &&& tak (nI e).toNatClampNeg) = 0 then _ else _) else _) else _) _
            refine Ok.pos (inB_n he (by decide)) (Ok.pos (inB_n he (by decide)) ?_)
            simp only [cl_n (show e < 2147483648 by omega), hcho', a1, a2, hpie', show nI e + 1 = nI (e + 1) from nI_1 e, cl_n (show e + 1 < 2147483648 by omega), show nI t + 1 = nI (t + 1) from nI_1 t]
            by_cases hz : PL p' i' &&& T = 0
            · rw [if_pos hz, if_pos hz]
              obtain ⟨s1, s2⟩ := setP_ok hM a4 a5 hp' hb'
              have hpc := clrB_pc L a4 p' hp' hb'
              have hL' := clrB_lt L a4 p' hp'
              rw [s1]
              refine Ok.pos (inB_n he (by decide)) (Ok.pos (inB_n he (by decide)) (Ok.pos (inB_n (by omega) (by decide)) (Ok.pos (inB_n he (by decide)) (Ok.pos (inB_n he (by decide)) (Ok.pos (inB_n (by omega) (by decide)) ?_)))))
              refine Ok.bind (begins_ok (L := clrB L p') (by omega) (by omega) hM hL' s2 hT vu_s) ?_
              rintro ⟨cel2, pie2, nxt2⟩ ⟨g1, g2, g3, g4⟩
              replace g1 : ∀ j, j ≠ e + 1 → cel2 j = cel j := g1
              replace g2 : cel2 (e + 1) = cvI (su &&& ((va_up tak (e + 1) (T ||| PL p' i')) (e + 1) ^^^ (-1 : Int64))) := g2
              rw [vu_s] at g2
              replace g3 : pie2 = va_up pie' (e + 1) (nI (lowP (clrB L p'))) := g3
              replace g4 : nxt2 = va_up nxt' (e + 1) (nI 0) := g4
              subst g3 g4
              show Ok (f_X7_search_72 (nI bud) wan (nI M) tgt shs shp pls pl w (nI f) (nI (e + 1)) (nI (t + 1)) (va_up tak (e + 1) (T ||| PL p' i')) (va_up pld (e + 1) (nI (M ^^^ clrB L p'))) cel2 (va_up pie' (e + 1) (nI (lowP (clrB L p')))) (va_up nxt' (e + 1) (nI 0)) cho') _
              rw [← pI_s (e + 1), ← run_app]
              refine ih w (e + 1 + 1) (t + 1) f _ _ _ _ _ _ _ (by omega) (by omega) (by omega) htb ?_
              have hch : pathF (va_up pie' (e + 1) (nI (lowP (clrB L p')))) cho' (e + 1) = va_up (pathF pie cho e) p' (PL p' i') := by
                rw [path_congr (pie := pie') (cho := cho') (e + 1) (fun j hj => ⟨vu_n (by omega), rfl⟩)]
                show va_up (pathF pie' cho' e) (pie' e).toNatClampNeg (cho' e) = _
                rw [hpath, hpie', cl_n (by omega), hcho']
              have hke : 6 - e = (6 - (e + 1)) + 1 := by omega
              refine ⟨T ||| PL p' i', clrB L p', _, _, ⟨vu_s, vu_s, g2, hL', s2, by omega⟩, ⟨T, L, p', i' + 1, R0, ⟨?_, ?_, ?_, a4, a5, a6⟩, ⟨b0, ?_, ?_, by omega, by omega, fun _ => ⟨hb', hi'⟩⟩, hp', hSt.congr _ _ (fun j hj => ?_), ?_⟩, rfl, ?_⟩
              · rw [vu_n (by omega)]; exact a1
              · rw [vu_n (by omega)]; exact a2
              · rw [g1 e (by omega)]; exact a3
              · rw [vu_n (by omega)]; exact hpie'
              · rw [vu_n (by omega)]; exact hnxt'
              · have := hfr j (by omega)
                rw [vu_n (by omega), vu_n (by omega), g1 j (by omega), vu_n (by omega), vu_n (by omega)]
                exact ⟨rfl, rfl, rfl, this.1, this.2.1, this.2.2⟩
              · rw [path_congr (pie := pie') (cho := cho') e (fun j hj => ⟨vu_n (by omega), rfl⟩), hpath]
              · by_cases hc0 : clrB L p' = 0
                · left
                  refine ⟨hc0, ?_⟩
                  rw [hch, hc0, hke]
                  rfl
                · right
                  have hlow := lowP_ok _ hL' hc0
                  refine ⟨lowP (clrB L p'), 0, ⟨hc0, vu_s, vu_s, by omega, by omega, fun _ => ⟨hlow.2.1, Nat.zero_le _⟩⟩, ?_⟩
                  rw [hch, hke]
                  exact rest_start hL' hc0
            · rw [if_neg hz, if_neg hz, run_nil, ← pI_s e]
              refine ih w (e + 1) (t + 1) f _ tak pld cel pie' nxt' cho' (by omega) (by omega) (by omega) htb ⟨T, L, _, R0, ⟨a1, a2, a3, a4, a5, a6⟩, hSt.congr _ _ (fun j hj => ?_), rfl, Or.inr ⟨p', i' + 1, hFB, ?_⟩⟩
              · have := hfr j (by omega)
                exact ⟨rfl, rfl, rfl, this.1, this.2.1, this.2.2⟩
              · rw [hpath]
