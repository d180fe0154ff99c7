/-! both searches, whole -/
def MS (S : Int64) (m : Bool) : Prop := ∃ v, made S = true ∧ ShP S m v
theorem ShOK.pos {f : Nat → Int64} {b n : Nat} {S : Int64} {m : Bool} (h : ShOK f b S m n) : 0 < n ↔ MS S m := by
  constructor
  · intro q
    exact ⟨_, (h.2.2 _).2 ⟨0, q, rfl⟩⟩
  · rintro ⟨v, hv⟩
    obtain ⟨i, hi, _⟩ := (h.2.2 v).1 hv
    omega
theorem countShapes_ok {fu : Nat} (hf : 200 ≤ fu) {ss : Nat → Int64} {S : Int64} {m : Bool} {sk sc : Int32} (h : sk = 0 ∨ (sk = 1 ∧ ∃ n, sc = nI n ∧ ShOK ss 0 S m n)) : Ok (f_X1_countShapes fu ss S (bI m) sk sc) (fun q => q.2.2.1 = 1 ∧ ∃ n, q.1 = nI n ∧ q.2.2.2 = nI n ∧ ShOK q.2.1 0 S m n) := by
  unfold f_X1_countShapes
  refine Ok.bind (learnShapes_ok hf h) ?_
  rintro ⟨a, b, c⟩ ⟨h1, n, h2, h3⟩
  exact Ok.some ⟨h1, n, h2, h2, h3⟩
/-- what all pieces of the class know is right -/
def PcA (S : Nat → Int64) (mb : Nat → Bool) (pss pps phv : Nat → Nat → Int64) (psk ppk : Nat → Int32) (pkw : Nat → Int64) (psc ppn : Nat → Int32) : Prop := ∀ p, p < 6 → PcI (S p) (mb p) (pss p) (pps p) (phv p) (psk p) (ppk p) (pkw p) (psc p) (ppn p)
theorem msk_i : ∀ i, i < 6 → ∀ M, M < 64 → M < 2 ^ i → nI M ||| ((1 : Int32) <<< (nI i &&& 31)) = nI (M + 2 ^ i) ∧ M + 2 ^ i < 2 ^ (i + 1) ∧ M < 2 ^ (i + 1) := by decide +kernel
theorem msk_b : ∀ i, i < 6 → ∀ M, M < 64 → ∀ p, p < 6 → M < 2 ^ i → (M + 2 ^ i).testBit p = (M.testBit p || decide (p = i)) ∧ M.testBit i = false := by decide +kernel
theorem msk_eq : ∀ M, M < 64 → ∀ N, N < 64 → ((List.range 6).all fun p => M.testBit p == N.testBit p) = true → M = N := by decide +kernel
theorem msk_lt : ∀ i, i < 7 → 2 ^ i ≤ 64 := by decide +kernel
def RM (W : Int64) (S : Nat → Int64) (mb : Nat → Bool) (pps phv : Nat → Nat → Int64) (ppn : Nat → Int32) (cho : Nat → Int64) (M p : Nat) : Prop := (M.testBit p = true ↔ MS (S p) (mb p)) ∧ cho p = 0 ∧ (M.testBit p = true → ∃ n, ppn p = nI n ∧ PlOK (pps p) 0 (S p) (mb p) W n ∧ IdxOK (phv p) (pps p) n)
theorem r43_ok {su op : Int64} {S : Nat → Int64} {mb : Nat → Bool} {pmm : Nat → Int32} (hm : ∀ p, p < 6 → pmm p = bI (mb p)) : ∀ k fu i M pss pps phv poo psk ppk pkw psc ppn cho, 2200 + k < fu → k + i = 6 → M < 2 ^ i → PcA S mb pss pps phv psk ppk pkw psc ppn → (∀ p, p < i → RM (su ||| op) S mb pps phv ppn cho M p) → Ok (f_X2_run_43 su op S pmm fu (nI M) (nI i) pss pps phv poo psk ppk pkw psc ppn cho) (fun q => ∃ M, q.1 = nI M ∧ M < 64 ∧ PcA S mb q.2.1 q.2.2.1 q.2.2.2.1 q.2.2.2.2.2.1 q.2.2.2.2.2.2.1 q.2.2.2.2.2.2.2.1 q.2.2.2.2.2.2.2.2.1 q.2.2.2.2.2.2.2.2.2.1 ∧ ∀ p, p < 6 → RM (su ||| op) S mb q.2.2.1 q.2.2.2.1 q.2.2.2.2.2.2.2.2.2.1 q.2.2.2.2.2.2.2.2.2.2 M p) := by
  intro k
  induction k with
  | zero =>
    intro fu i M pss pps phv poo psk ppk pkw psc ppn cho hf hk hM hA hR
    obtain ⟨w, rfl⟩ : ∃ w, fu = w + 1 := ⟨fu - 1, by omega⟩
    have : i = 6 := by omega
    subst this
    rw [f_X2_run_43]
    exact Ok.pos (by decide +kernel) (Ok.some ⟨M, rfl, hM, hA, hR⟩)
  | succ k ih =>
    intro fu i M pss pps phv poo psk ppk pkw psc ppn cho hf hk hM hA hR
    obtain ⟨w, rfl⟩ : ∃ w, fu = w + 1 := ⟨fu - 1, by omega⟩
    have hi : i < 6 := by omega
    have hM64 : M < 64 := Nat.lt_of_lt_of_le hM (msk_lt i (by omega))
    obtain ⟨m1, m2, m3⟩ := msk_i i hi M hM64 hM
    have hP := hA i hi
    rw [f_X2_run_43, show nI i + 1 = nI (i + 1) from nI_1 i, m1]
    simp only [cl_n (show i < 2147483648 by omega), vu_s, hm i hi]
    refine Ok.neg (nI_ge (b := 6) hi (by decide)) (Ok.pos (inB_n hi (by decide)) (Ok.pos (inB_n hi (by decide)) (Ok.pos (inB_n hi (by decide)) (Ok.bind (countShapes_ok (by omega) hP.1) ?_))))
    rintro ⟨c, ss', sk', sc'⟩ ⟨e1, ns, e2, e3, hs⟩
    replace e1 : sk' = 1 := e1
    replace e2 : c = nI ns := e2
    replace e3 : sc' = nI ns := e3
    replace hs : ShOK ss' 0 (S i) (mb i) ns := hs
    subst e1 e2 e3
    have h48 := hs.1
    have hpos := hs.pos
    have hc1 : PcI (S i) (mb i) ss' (pps i) (phv i) 1 (ppk i) (pkw i) (nI ns) (ppn i) := ⟨Or.inr ⟨rfl, ns, rfl, hs⟩, hP.2⟩
    refine Ok.ite (fun h => ?_) (fun h => ?_)
    · replace h : nI ns ≤ nI 0 := h
      rw [le_n (by omega) (by omega)] at h
      refine ih w (i + 1) M _ _ _ _ _ _ _ _ _ _ (by omega) (by omega) m3 ?_ ?_
      · intro p hp
        by_cases q : p = i
        · subst q
          rw [vu_s, vu_s, vu_s]
          exact hc1
        · rw [vu_n q, vu_n q, vu_n q]
          exact hA p hp
      · intro p hp
        by_cases q : p = i
        · subst q
          have hb : M.testBit p = false := (msk_b p hi M hM64 p hi hM).2
          refine ⟨?_, vu_s, fun z => ?_⟩
          · rw [hb]
            constructor
            · intro z; cases z
            · intro z
              have := hpos.2 z
              omega
          · rw [hb] at z; cases z
        · obtain ⟨r1, r2, r3⟩ := hR p (by omega)
          exact ⟨r1, by rw [vu_n q]; exact r2, r3⟩
    · replace h : ¬ nI ns ≤ nI 0 := h
      rw [le_n (by omega) (by omega)] at h
      refine Ok.pos (inB_n hi (by decide)) (Ok.pos (inB_n hi (by decide)) (Ok.bind (learnPlaces_ok (by omega) (su ||| op) hc1) ?_))
      rintro ⟨a1, a2, a3, a4, a5, a6, a7, a8, a9⟩ ⟨b1, b2, b3, ⟨n1, b4, b5⟩, n2, b6, b7, b8⟩
      refine ih w (i + 1) (M + 2 ^ i) _ _ _ _ _ _ _ _ _ _ (by omega) (by omega) m2 ?_ ?_
      · intro p hp
        by_cases q : p = i
        · subst q
          simp only [vu_s]
          exact ⟨Or.inr ⟨b1, n1, b4, b5⟩, Or.inr ⟨b2, n2, b6, by rw [show a7 = su ||| op from b3]; exact b7, b8⟩⟩
        · simp only [vu_n q]
          exact hA p hp
      · intro p hp
        by_cases q : p = i
        · subst q
          have hb : (M + 2 ^ p).testBit p = true := by
            rw [(msk_b p hi M hM64 p hi hM).1]
            simp
          refine ⟨?_, vu_s, fun _ => ?_⟩
          · rw [hb]
            exact ⟨fun _ => hpos.1 (by omega), fun _ => rfl⟩
          · simp only [vu_s]
            exact ⟨n2, b6, b7, b8⟩
        · obtain ⟨r1, r2, r3⟩ := hR p (by omega)
          have hb : (M + 2 ^ i).testBit p = M.testBit p := by
            rw [(msk_b i hi M hM64 p (by omega) hM).1]
            simp [q]
          unfold RM
          rw [hb]
          simp only [vu_n q]
          exact ⟨r1, r2, r3⟩
/-- the places that both searches go through -/
def PLK (W : Int64) (S : Nat → Int64) (mb : Nat → Bool) (PL : Nat → Nat → Int64) (n : Nat → Nat) (M : Nat) : Prop := M < 64 ∧ ∀ p, p < 6 → (M.testBit p = true ↔ MS (S p) (mb p)) ∧ (M.testBit p = true → PlOK (PL p) 0 (S p) (mb p) W (n p))
theorem pc_6 : ∀ M, M < 64 → pc M ≤ 6 := by decide +kernel
theorem crun_ok {fu bud : Nat} (hf : 3000 ≤ fu) (hbud : bud ≤ 200000) {su op : Int64} {S : Nat → Int64} {mb : Nat → Bool} {pmm : Nat → Int32} (hm : ∀ p, p < 6 → pmm p = bI (mb p)) {pss pps phv poo : Nat → Nat → Int64} {psk ppk : Nat → Int32} {pkw : Nat → Int64} {psc ppn : Nat → Int32} {cho : Nat → Int64} {wan : Int32} (hA : PcA S mb pss pps phv psk ppk pkw psc ppn) : Ok (f_X2_run fu pss pps phv poo S pmm psk ppk pkw psc ppn cho su op (nI bud) wan) (fun q => PcA S mb q.1 q.2.1 q.2.2.1 q.2.2.2.2.1 q.2.2.2.2.2.1 q.2.2.2.2.2.2.1 q.2.2.2.2.2.2.2.1 q.2.2.2.2.2.2.2.2.1 ∧ q.2.2.2.2.2.2.2.2.2.2.2.1 = wan ∧ ∃ PL n M, PLK (su ||| op) S mb PL n M ∧ SSt bud (fun _ => 0) M (run bud wan (evs PL n su 7 0 M (fun _ => 0)) (0, 0, none)) q.2.2.2.2.2.2.2.2.2.2.2.2) := by
  unfold f_X2_run
  refine Ok.bind (r43_ok hm 6 fu 0 0 pss pps phv poo psk ppk pkw psc ppn cho (by omega) (by omega) (by decide) hA (fun p hp => absurd hp (by omega))) ?_
  rintro ⟨l7, qss, qps, qhv, qoo, qsk, qpk, qkw, qsc, qpn, qch⟩ ⟨M, e, hM, hA', hR⟩
  replace e : l7 = nI M := e
  subst e
  replace hR : ∀ p, p < 6 → RM (su ||| op) S mb qps qhv qpn qch M p := hR
  have hex : ∃ n : Nat → Nat, ∀ p, p < 6 → M.testBit p = true → qpn p = nI (n p) ∧ PlOK (qps p) 0 (S p) (mb p) (su ||| op) (n p) ∧ IdxOK (qhv p) (qps p) (n p) := by
    have h3 : ∀ p, ∃ n, p < 6 → M.testBit p = true → qpn p = nI n ∧ PlOK (qps p) 0 (S p) (mb p) (su ||| op) n ∧ IdxOK (qhv p) (qps p) n := by
      intro p
      by_cases hd : p < 6 ∧ M.testBit p = true
      · obtain ⟨n, hn⟩ := (hR p hd.1).2.2 hd.2
        exact ⟨n, fun _ _ => hn⟩
      · exact ⟨0, fun h1 h2 => absurd ⟨h1, h2⟩ hd⟩
    obtain ⟨n, hn⟩ := Classical.axiomOfChoice h3
    exact ⟨n, hn⟩
  obtain ⟨n, hn⟩ := hex
  refine Ok.bind (goOn_ok (PL := qps) (phv := qhv) (ppn := qpn) (n := n) (su := su) (bud := bud) (fu := fu) (wan := wan) hbud (by omega) 7 M (by omega) hM (Nat.lt_of_le_of_lt (pc_6 M hM) (by omega)) (fun p hp hb => ⟨(hn p hp hb).1, (hn p hp hb).2.1.1, (hn p hp hb).2.2⟩) 0 (fun _ => 0) (0, 0, none) 0 0 0 1 qch ⟨Nat.zero_le _, rfl, rfl, rfl, rfl, fun p hp _ => (hR p hp).2.1⟩ rfl) ?_
  intro q hq
  exact Ok.some ⟨hA', rfl, qps, n, M, ⟨hM, fun p hp => ⟨(hR p hp).1, fun hb => (hn p hp hb).2.1⟩⟩, hq⟩
/-- the reference's places -/
def RP (W : Int64) (S : Nat → Int64) (mb : Nat → Bool) (pls : Nat → Int32) (pl : Nat → Int64) (M p : Nat) : Prop := (M.testBit p = true ↔ MS (S p) (mb p)) ∧ ∃ n, pls p = nI n ∧ PlOK pl (p * 1400) (S p) (mb p) W n
theorem s5_ok {W : Int64} {S : Nat → Int64} {mb : Nat → Bool} {mir : Nat → Int32} (hm : ∀ p, p < 6 → mir p = bI (mb p)) (hc : ∀ p, p < 6 → cnt (S p) ≤ 10) {tgt : Nat → Int32} (hT : TW tgt W) : ∀ k fu i M shs shp pls pl, 1600 + k < fu → k + i = 6 → M < 2 ^ i → (∀ p, p < i → RP W S mb pls pl M p) → Ok (f_X7_search_5 S mir tgt fu (nI M) (nI i) shs shp pls pl) (fun q => ∃ M, q.1 = nI M ∧ M < 64 ∧ ∀ p, p < 6 → RP W S mb q.2.2.2.1 q.2.2.2.2 M p) := by
  intro k
  induction k with
  | zero =>
    intro fu i M shs shp pls pl hf hk hM hR
    obtain ⟨w, rfl⟩ : ∃ w, fu = w + 1 := ⟨fu - 1, by omega⟩
    have : i = 6 := by omega
    subst this
    rw [f_X7_search_5]
    exact Ok.pos (by decide +kernel) (Ok.some ⟨M, rfl, hM, hR⟩)
  | succ k ih =>
    intro fu i M shs shp pls pl hf hk hM hR
    obtain ⟨w, rfl⟩ : ∃ w, fu = w + 1 := ⟨fu - 1, by omega⟩
    have hi : i < 6 := by omega
    have hM64 : M < 64 := Nat.lt_of_lt_of_le hM (msk_lt i (by omega))
    obtain ⟨m1, m2, m3⟩ := msk_i i hi M hM64 hM
    rw [f_X7_search_5, show nI i + 1 = nI (i + 1) from nI_1 i, m1, cl_n (by omega)]
    refine Ok.neg (nI_ge (b := 6) hi (by decide)) (Ok.bind (placesOf_ok (by omega) hi (hm i hi) (hc i hi) hT shs shp pls pl) ?_)
    rintro ⟨a1, a2, a3, a4⟩ ⟨⟨ns, b1, b2⟩, _, _, ⟨n, b3, b4⟩, b5, b6⟩
    replace b1 : a1 i = nI ns := b1
    have h48 := b2.1
    have hpos := b2.pos
    have old : ∀ p, p < i → ∃ n, a3 p = nI n ∧ PlOK a4 (p * 1400) (S p) (mb p) W n := by
      intro p hp
      obtain ⟨_, n, r2, r3⟩ := hR p hp
      refine ⟨n, by rw [← r2]; exact b5 p (by omega), r3.1, r3.2.congr (fun j hj => ?_) (fun _ => Iff.rfl)⟩
      have := r3.1
      exact b6 _ (Or.inl (by omega))
    refine Ok.pos (inB_n hi (by decide)) (Ok.ite (fun h => ?_) (fun h => ?_))
    · replace h : a1 i ≤ nI 0 := h
      rw [b1, le_n (by omega) (by omega)] at h
      refine ih w (i + 1) M _ _ _ _ (by omega) (by omega) m3 ?_
      intro p hp
      by_cases q : p = i
      · subst q
        refine ⟨?_, n, b3, b4⟩
        rw [(msk_b p hi M hM64 p hi hM).2]
        constructor
        · intro z; cases z
        · intro z
          have := hpos.2 z
          omega
      · exact ⟨(hR p (by omega)).1, old p (by omega)⟩
    · replace h : ¬ a1 i ≤ nI 0 := h
      rw [b1, le_n (by omega) (by omega)] at h
      refine ih w (i + 1) (M + 2 ^ i) _ _ _ _ (by omega) (by omega) m2 ?_
      intro p hp
      have hb := (msk_b i hi M hM64 p (by omega) hM).1
      by_cases q : p = i
      · subst q
        refine ⟨?_, n, b3, b4⟩
        rw [hb]
        simp only [decide_true, Bool.or_true, true_iff]
        exact hpos.1 (by omega)
      · refine ⟨?_, old p (by omega)⟩
        rw [hb, decide_eq_false q, Bool.or_false]
        exact (hR p (by omega)).1
abbrev RT : Type := Int32 × (Nat → Int32) × (Nat → Int64) × (Nat → Int32) × (Nat → Int64) × Int32 × (Nat → Int64) × (Nat → Int32) × (Nat → Int32) × (Nat → Int32) × (Nat → Int32) × (Nat → Int64)
def SF (bud : Nat) (r : Rs) (s : RT) : Prop := (r.2.2 = none ∧ s.1 = nI r.2.1 ∧ s.2.2.2.2.2.1 = nI r.1) ∨ (r.2.2 = some none ∧ s.1 = nI r.2.1 ∧ r.1 = bud ∧ s.2.2.2.2.2.1 = nI (bud + 1)) ∨ (∃ c d, r.2.2 = some (some c) ∧ s.1 = nI d + 1000000 ∧ d ≤ 6 ∧ s.2.2.2.2.2.1 = nI r.1 ∧ c = pathF s.2.2.2.2.2.2.2.2.2.1 s.2.2.2.2.2.2.2.2.2.2.2 d ∧ ∀ e, e < d → ∃ p, p < 6 ∧ s.2.2.2.2.2.2.2.2.2.1 e = nI p)
theorem msk_x : ∀ M, M < 64 → M ^^^ M = 0 ∧ M &&& M = M := by decide +kernel
theorem rsearch_ok {fu bud : Nat} (hf : 500000 ≤ fu) (hbud : bud ≤ 200000) {W su : Int64} {S : Nat → Int64} {mb : Nat → Bool} {mir : Nat → Int32} (hm : ∀ p, p < 6 → mir p = bI (mb p)) (hc : ∀ p, p < 6 → cnt (S p) ≤ 10) {tgt : Nat → Int32} (hT : TW tgt W) (hS : TS tgt su) {PL : Nat → Nat → Int64} {n : Nat → Nat} {M : Nat} (hK : PLK W S mb PL n M) (wan : Int32) (shs : Nat → Int32) (shp : Nat → Int64) (pls : Nat → Int32) (pl tak : Nat → Int64) (pld cel pie nxt : Nat → Int32) (cho : Nat → Int64) : Ok (f_X7_search fu S mir tgt shs shp pls pl tak pld cel pie nxt cho (nI bud) wan) (SF bud (run bud wan (evs PL n su 7 0 M (fun _ => 0)) (0, 0, none))) := by
  unfold f_X7_search
  refine Ok.bind (s5_ok hm hc hT 6 fu 0 0 shs shp pls pl (by omega) (by omega) (by decide) (fun p hp => absurd hp (by omega))) ?_
  rintro ⟨l3, a1, a2, a3, a4⟩ ⟨M', e, hM', hR⟩
  obtain ⟨hM, hK⟩ := hK
  have eM : M' = M := by
    apply msk_eq M' hM' M hM
    rw [List.all_eq_true]
    intro p hp
    have hp := List.mem_range.1 hp
    rw [beq_iff_eq]
    have h1 := (hR p hp).1
    have h2 := (hK p hp).1
    cases q1 : M'.testBit p <;> cases q2 : M.testBit p
    · rfl
    · rw [q1] at h1; exact absurd (h1.2 (h2.1 q2)) (by decide)
    · rw [q2] at h2; exact absurd (h2.2 (h1.1 q1)) (by decide)
    · rfl
  subst eM
  replace e : l3 = nI M' := e
  subst e
  obtain ⟨x1, x2⟩ := msk_x M' hM
  have hp0 : (va_up pld (0 : Int32).toNatClampNeg (0 : Int32)) 0 = nI (M' ^^^ M') := by
    rw [x1]
    exact vu_s
  refine Ok.pos (by decide) (Ok.pos (by decide) (Ok.bind (begins_ok (d := 0) (by omega) (by decide) hM hM x2 hS (tak := va_up tak (0 : Int32).toNatClampNeg (0 : Int64)) (cel := cel) (pie := pie) (nxt := nxt) hp0) ?_))
  rintro ⟨q1, q2, q3⟩ ⟨c1, c2, c3, c4⟩
  replace c2 : q1 0 = cvI (su &&& (0 ^^^ (-1 : Int64))) := c2
  replace c3 : q2 = va_up pie 0 (nI (lowP M')) := c3
  replace c4 : q3 = va_up nxt 0 (nI 0) := c4
  subst c3 c4
  have hRK : ∀ p, p < 6 → M'.testBit p = true → RK PL a3 a4 n p := by
    intro p hp hb
    obtain ⟨_, n', r1, r2⟩ := hR p hp
    have hpl := (hK p hp).2 hb
    obtain ⟨g1, g2⟩ := hpl.same r2
    refine ⟨by rw [g1]; exact r1, hpl.1, fun j hj => ?_⟩
    have := g2 j hj
    rw [Nat.zero_add] at this
    exact this.symm
  have hTop : Top PL n su M' (va_up tak (0 : Int32).toNatClampNeg (0 : Int64)) (va_up pld (0 : Int32).toNatClampNeg (0 : Int32)) q1 (va_up pie 0 (nI (lowP M'))) (va_up nxt 0 (nI 0)) cho 1 (evs PL n su 7 0 M' (fun _ => 0)) := by
    refine ⟨0, M', evs PL n su 7 0 M' (fun _ => 0), [], ⟨vu_s, hp0, c2, hM, x2, pc_6 M' hM⟩, rfl, (List.append_nil _).symm, ?_⟩
    by_cases h0 : M' = 0
    · left
      subst h0
      exact ⟨rfl, rfl⟩
    · right
      obtain ⟨l1, l2, l3, l4⟩ := lowP_ok M' hM h0
      exact ⟨lowP M', 0, ⟨h0, vu_s, vu_s, by omega, by omega, fun _ => ⟨l2, Nat.zero_le _⟩⟩, rest_start hM h0⟩
  refine Ok.sumB (Ok.mono (s72_ok (PL := PL) (n := n) (su := su) (M := M') (bud := bud) (wan := wan) hM hbud hS (shs := a1) (shp := a2) (pls := a3) (pl := a4) hRK (2 * bud + 2) fu 1 0 0 _ _ _ _ _ _ _ (by omega) (by omega) (by omega) (by omega) hTop) ?_)
  intro s hs
  cases s with
  | inl s =>
    rcases hs with h | h
    · exact Or.inr (Or.inl h)
    · exact Or.inr (Or.inr h)
  | inr s => exact Ok.some (Or.inl hs)
