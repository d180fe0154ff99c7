/-! all groups of a state, in both programs at once -/
def RQ (A : Nat → Int64) (P lim n0 : Nat) (Sg0 : Nat → Nat → Nat → Int) (s G d : Nat) (fnd : Nat → Int32) (fc mvs : Int32) (mov : Nat → Int32) (a : CE2) (b : RE2) : Prop := (a.1 = 0 ∧ b.1 = 0 ∧ GoB A P lim n0 Sg0 a.2.1 a.2.2.1 a.2.2.2.1 a.2.2.2.2.1 a.2.2.2.2.2.1 a.2.2.2.2.2.2.1 a.2.2.2.2.2.2.2.1 b.2.1 b.2.2.1 b.2.2.2.1 b.2.2.2.2.1 (fun n Sg => DoneR A P n Sg s G d) ∧ a.2.2.2.2.2.2.2.2.1 = fnd ∧ a.2.2.2.2.2.2.2.2.2 = fc ∧ b.2.2.2.2.2.2.2.1 = mvs ∧ b.2.2.2.2.2.2.2.2 = mov) ∨ EndB a.1 b.1 a.2.2.2.2.2.2.2.1 b.2.1 a.2.2.2.2.2.2.2.2.1 a.2.2.2.2.2.2.2.2.2 b.2.2.2.2.2.2.2.2 b.2.2.2.2.2.2.2.1
theorem run_ok {fu : Nat} (hf : 2000 ≤ fu) {A : Nat → Int64} {P lim : Nat} (hP : P < 64) (hP0 : P ≠ 0) (hl : lim ≤ 300) (hA : ∀ p, p < 6 → P.testBit p = true → A p ≠ 0) {cbs cub : Nat → Int32} (hC : CubOK A cbs cub) {s G d : Nat} (hG : GOK P G) (hd : d < 6) {gl gh rl rh rom : Nat → Int32} {fnd mov : Nat → Int32} {fc mvs : Int32} (hfin : Fin fnd fc mov mvs) {n : Nat} {Sg : Nat → Nat → Nat → Int} {par lv : Nat → Nat} {at' pa mo le hd' nt stt frm by' : Nat → Int32} (hBK : BK A P lim n Sg par lv at' pa mo le hd' nt stt frm by') (hs : s < n) (hb : Bd 40 (Sg s)) (hbx : Bx2 A P G (Sg s) gl gh rl rh) (hrom : RomOK A P (Sg s) rom) (wrk oth : Nat → Int32) : Ok2 (f_X5_tryRuns fu at' pa mo le hd' nt (nI n) gl gh rl rh rom fnd fc (nI P) (nI lim) (nI s) (nI G) (nI d)) (f_X7_run fu cbs cub (nI n) stt frm by' wrk oth mvs mov (nI P) (nI lim) (nI s) (nI G) (nI d)) (RQ A P lim n Sg s G d fnd fc mvs mov) := by
  unfold f_X5_tryRuns f_X7_run
  have hn := hBK.1
  refine Ok2.L (roomOfGroup_ok (by omega) hP hG.1 hG.2.1 hd hrom) ?_
  rintro r ⟨m, rfl, hm, hno, hhit⟩
  refine Ok2.R (run3_ok (by omega) (show s < 300 by omega) (wrk := wrk) (hBK.2.2.2.1 s hs)) ?_
  intro wk hwk
  rw [(sgn_i d hd).2]
  obtain ⟨a, b, e1, e2, hq⟩ := run_loop hP hP0 hl hA hC (s := s) hG hd hb hbx hm hno hhit hfin hs rfl 149 fu 1 n Sg par lv at' pa mo le hd' nt stt frm by' wk oth (by omega) (by omega) (by omega) (by omega) hBK (Nat.le_refl _) (fun _ _ => rfl) (fun j j1 j2 => absurd j2 (by omega)) (by rw [show dst d (1 - 1) = 0 by unfold dst; simp, mvG_0]; exact hwk)
  rw [show (1 : Int32) = nI 1 from rfl, show (0 : Int32) = nI (1 - 1) from rfl, e1, e2]
  cases a with
  | inl a =>
    cases b with
    | inl b => exact ⟨a, b, rfl, rfl, Or.inr hq⟩
    | inr b => exact absurd hq (fun z => z)
  | inr a =>
    cases b with
    | inl b => exact ⟨_, b, rfl, rfl, Or.inl ⟨rfl, hq.1, hq.2.1, rfl, rfl, hq.2.2⟩⟩
    | inr b => exact absurd hq (fun z => z)
theorem DoneR.up {A : Nat → Int64} {P n n' s G d : Nat} {Sg Sg' : Nat → Nat → Nat → Int} (h : DoneR A P n Sg s G d) (hs : s < n) (hn : n ≤ n') (e : ∀ t, t < n → Sg' t = Sg t) : DoneR A P n' Sg' s G d := by
  obtain ⟨m, h1, h2, h3⟩ := h
  refine ⟨m, h1, fun k k1 k2 => ?_, by rw [e s hs]; exact h3⟩
  obtain ⟨g1, g2, t, g3, g4⟩ := h2 k k1 k2
  rw [e s hs]
  exact ⟨g1, g2, t, by omega, by rw [e t g3]; exact g4⟩
theorem GoB.mono {A : Nat → Int64} {P lim n0 : Nat} {Sg0 : Nat → Nat → Nat → Int} {at' pa mo le hd nt : Nat → Int32} {ct sts : Int32} {stt frm by' : Nat → Int32} {T T' : Nat → (Nat → Nat → Nat → Int) → Prop} (h : GoB A P lim n0 Sg0 at' pa mo le hd nt ct sts stt frm by' T) (hT : ∀ n Sg, n0 ≤ n → (∀ t, t < n0 → Sg t = Sg0 t) → T n Sg → T' n Sg) : GoB A P lim n0 Sg0 at' pa mo le hd nt ct sts stt frm by' T' := by
  obtain ⟨n, Sg, par, lv, h1, h2, h3, h4, h5, h6⟩ := h
  exact ⟨n, Sg, par, lv, h1, h2, h3, h4, h5, hT n Sg h4 h5 h6⟩
theorem GoB.base {A : Nat → Int64} {P lim n0 n1 : Nat} {Sg0 Sg1 : Nat → Nat → Nat → Int} {at' pa mo le hd nt : Nat → Int32} {ct sts : Int32} {stt frm by' : Nat → Int32} {T : Nat → (Nat → Nat → Nat → Int) → Prop} (h : GoB A P lim n1 Sg1 at' pa mo le hd nt ct sts stt frm by' T) (hn : n0 ≤ n1) (e : ∀ t, t < n0 → Sg1 t = Sg0 t) : GoB A P lim n0 Sg0 at' pa mo le hd nt ct sts stt frm by' T := by
  obtain ⟨n, Sg, par, lv, h1, h2, h3, h4, h5, h6⟩ := h
  exact ⟨n, Sg, par, lv, h1, h2, h3, by omega, fun t ht => (h5 t (by omega)).trans (e t ht), h6⟩
abbrev CW : Type := (Nat → Int32) × (Nat → Int32) × (Nat → Int32) × (Nat → Int32) × (Nat → Int32) × (Nat → Int32) × Int32 × (Nat → Int32) × Int32
abbrev CWE : Type := Int32 × (Nat → Int32) × (Nat → Int32) × (Nat → Int32) × (Nat → Int32) × (Nat → Int32) × (Nat → Int32) × Int32 × (Nat → Int32) × (Nat → Int32) × Int32 × (Nat → Int32) × (Nat → Int32) × Int32 × (Nat → Int32) × (Nat → Int32) × Int32
abbrev RW : Type := Int32 × (Nat → Int32) × (Nat → Int32) × (Nat → Int32) × (Nat → Int32) × (Nat → Int32) × Int32 × (Nat → Int32)
abbrev RWE : Type := Int32 × Int32 × (Nat → Int32) × (Nat → Int32) × Int32 × (Nat → Int32) × (Nat → Int32) × (Nat → Int32) × (Nat → Int32) × (Nat → Int32) × Int32 × (Nat → Int32)
def WE (a : CWE) (b : RWE) : Prop := EndB a.1 b.1 a.2.2.2.2.2.2.2.1 b.2.2.2.2.1 a.2.2.2.2.2.2.2.2.2.2.2.2.2.2.2.1 a.2.2.2.2.2.2.2.2.2.2.2.2.2.2.2.2 b.2.2.2.2.2.2.2.2.2.2.2 b.2.2.2.2.2.2.2.2.2.2.1
def WQ (A : Nat → Int64) (P lim n0 : Nat) (Sg0 : Nat → Nat → Nat → Int) (T : Nat → (Nat → Nat → Nat → Int) → Prop) (fnd : Nat → Int32) (fc mvs : Int32) (mov : Nat → Int32) (th : Int32) (cbs cub : Nat → Int32) (a : CWE ⊕ CW) (b : RWE ⊕ RW) : Prop := match a, b with
  | .inr a, .inr b => GoB A P lim n0 Sg0 a.1 a.2.1 a.2.2.1 a.2.2.2.1 a.2.2.2.2.1 a.2.2.2.2.2.1 a.2.2.2.2.2.2.1 b.1 b.2.1 b.2.2.1 b.2.2.2.1 T ∧ a.2.2.2.2.2.2.2.1 = fnd ∧ a.2.2.2.2.2.2.2.2 = fc ∧ b.2.2.2.2.2.2.1 = mvs ∧ b.2.2.2.2.2.2.2 = mov
  | .inl a, .inl b => WE a b ∧ b.2.1 = th
  | _, _ => False
theorem ways_ok {A : Nat → Int64} {P lim : Nat} (hP : P < 64) (hP0 : P ≠ 0) (hl : lim ≤ 300) (hA : ∀ p, p < 6 → P.testBit p = true → A p ≠ 0) {cbs cub : Nat → Int32} (hC : CubOK A cbs cub) {s G : Nat} (hG : GOK P G) {gl gh rl rh rom : Nat → Int32} {gem rem th : Int32} {fnd mov : Nat → Int32} {fc mvs : Int32} (hfin : Fin fnd fc mov mvs) {n0 : Nat} {Sg0 : Nat → Nat → Nat → Int} (hs0 : s < n0) (hb : Bd 40 (Sg0 s)) (hbx : Bx2 A P G (Sg0 s) gl gh rl rh) (hrom : RomOK A P (Sg0 s) rom) : ∀ k fu d n Sg par lv at' pa mo le hd' nt stt frm by' wrk oth, 2000 + k < fu → k + d = 6 → BK A P lim n Sg par lv at' pa mo le hd' nt stt frm by' → n0 ≤ n → (∀ t, t < n0 → Sg t = Sg0 t) → (∀ d', d' < d → DoneR A P n Sg s G d') → Ok2 (f_X5_expand_46 (nI s) (nI G) gl gh gem rl rh rem rom (nI P) (nI lim) fu (nI d) at' pa mo le hd' nt (nI n) fnd fc) (f_X7_plan_310 (nI P) (nI lim) (nI s) (nI G) th cbs cub fu (nI d) (nI n) stt frm by' wrk oth mvs mov) (WQ A P lim n0 Sg0 (fun n Sg => ∀ d, d < 6 → DoneR A P n Sg s G d) fnd fc mvs mov th cbs cub) := by
  intro k
  induction k with
  | zero =>
    intro fu d n Sg par lv at' pa mo le hd' nt stt frm by' wrk oth hf hk hBK hn hSg hD
    obtain ⟨w, rfl⟩ : ∃ w, fu = w + 1 := ⟨fu - 1, by omega⟩
    have : d = 6 := by omega
    subst this
    rw [f_X5_expand_46, f_X7_plan_310]
    exact Ok2.posL (by decide +kernel) (Ok2.posR (by decide +kernel) (Ok2.some ⟨⟨n, Sg, par, lv, hBK, rfl, rfl, hn, hSg, hD⟩, rfl, rfl, rfl, rfl⟩))
  | succ k ih =>
    intro fu d n Sg par lv at' pa mo le hd' nt stt frm by' wrk oth hf hk hBK hn hSg hD
    obtain ⟨w, rfl⟩ : ∃ w, fu = w + 1 := ⟨fu - 1, by omega⟩
    have hd : d < 6 := by omega
    have hsn : s < n := by omega
    rw [f_X5_expand_46, f_X7_plan_310, show nI d + 1 = nI (d + 1) from nI_1 d]
    refine Ok2.negL (nI_ge (b := 6) hd (by decide)) (Ok2.negR (nI_ge (b := 6) hd (by decide)) (Ok2.bind (run_ok (by omega) hP hP0 hl hA hC hG hd hfin hBK hsn (by rw [hSg s hs0]; exact hb) (by rw [hSg s hs0]; exact hbx) (by rw [hSg s hs0]; exact hrom) wrk oth) ?_))
    rintro ⟨a1, a2, a3, a4, a5, a6, a7, a8, a9, a10⟩ ⟨b1, b2, b3, b4, b5, b6, b7, b8, b9⟩ hq
    rcases hq with ⟨q1, q2, ⟨n', Sg', par', lv', g1, g2, g3, g4, g5, g6⟩, q4, q5, q6, q7⟩ | hq
    · replace q1 : a1 = 0 := q1
      replace q2 : b1 = 0 := q2
      replace g2 : a8 = nI n' := g2
      replace g3 : b2 = nI n' := g3
      replace q4 : a9 = fnd := q4
      replace q5 : a10 = fc := q5
      replace q6 : b8 = mvs := q6
      replace q7 : b9 = mov := q7
      subst q1 q2 g2 g3 q4 q5 q6 q7
      refine Ok2.posL rfl (Ok2.posR rfl (ih w (d + 1) n' Sg' par' lv' a2 a3 a4 a5 a6 a7 b3 b4 b5 b6 b7 (by omega) (by omega) g1 (by omega) (fun t ht => (g5 t (by omega)).trans (hSg t ht)) (fun d' hd' => ?_)))
      by_cases z : d' = d
      · subst z; exact g6
      · exact (hD d' (by omega)).up hsn g4 g5
    · exact Ok2.negL hq.2.1 (Ok2.negR (fun z => hq.2.1 (hq.1.trans z)) (Ok2.some ⟨hq, rfl⟩))
/-- a group with the highest piece gives the reference nothing new -/
theorem norun_ok {fu : Nat} (hf : 2000 ≤ fu) {A : Nat → Int64} {P lim : Nat} (hP : P < 64) (hP0 : P ≠ 0) (hl : lim ≤ 300) (hA : ∀ p, p < 6 → P.testBit p = true → A p ≠ 0) {cbs cub : Nat → Int32} (hC : CubOK A cbs cub) {s G d : Nat} (hG : G < 64) (hGP : SubM G P) (hG0 : G ≠ 0) (hGt : G.testBit (topP P) = true) (hd : d < 6) {mov : Nat → Int32} {mvs : Int32} {n : Nat} {Sg : Nat → Nat → Nat → Int} {par lv : Nat → Nat} {at' pa mo le hd' nt stt frm by' : Nat → Int32} (hBK : BK A P lim n Sg par lv at' pa mo le hd' nt stt frm by') (hs : s < n) (hb : Bd 40 (Sg s)) (hCG : GOK P (cmpl P G)) (hD : DoneR A P n Sg s (cmpl P G) (d ^^^ 1)) (wrk oth : Nat → Int32) : Ok (f_X7_run fu cbs cub (nI n) stt frm by' wrk oth mvs mov (nI P) (nI lim) (nI s) (nI G) (nI d)) (fun b => b.1 = 0 ∧ b.2.1 = nI n ∧ b.2.2.1 = stt ∧ b.2.2.2.1 = frm ∧ b.2.2.2.2.1 = by' ∧ b.2.2.2.2.2.2.2.1 = mvs ∧ b.2.2.2.2.2.2.2.2 = mov) := by
  obtain ⟨l1, l2, _, _⟩ := lowP_ok P hP hP0
  obtain ⟨t1, t2⟩ := top_ok P hP hP0
  obtain ⟨x1, x2, x3, x4, x5⟩ := xor1 d hd
  obtain ⟨c1, c2, c3, c4⟩ := cmpl_cmp P hP G hG (subB_t.2 hGP) hG0 hGt
  have hcl := cmpl_lt hP hG
  have hcc : cmpl P (cmpl P G) = G := c3
  have hn := hBK.1
  have hg : ∃ p, p < 6 ∧ G.testBit p = true := ⟨lowP G, ne_bit G hG hG0⟩
  have hr : ∃ p, p < 6 ∧ P.testBit p = true ∧ G.testBit p = false := by
    have := ne_bit _ hcl hCG.2.2.1
    exact ⟨_, this.1, (cmpl_b hP hG this.1).1 this.2⟩
  obtain ⟨m, hm, hall, hlast⟩ := hD
  have hrel : ∀ k, Rl P (mvG (nrm P (lowP P) (Sg s)) G (d / 2) (dst d k)) (Dk (Sg s) (cmpl P G) (d ^^^ 1) k) := by
    intro k
    have h1 : Rl P (mvG (nrm P (lowP P) (Sg s)) G (d / 2) (dst d k)) (mvG (Sg s) G (d / 2) (dst d k)) := (rl_nrm (Sg s)).mv G (d / 2) (dst d k)
    have h2 := rl_opp hP hG (Sg s) (d / 2) (dst d k)
    have h3 : Dk (Sg s) (cmpl P G) (d ^^^ 1) k = mvG (Sg s) (cmpl P G) (d / 2) (-dst d k) := by
      unfold Dk
      rw [x3, dst_x hd]
    rw [h3]
    exact h1.trans h2
  have loop : ∀ K fu k wrk oth, 1000 + K < fu → K + k = m + 1 → 1 ≤ k → RowW wrk (mvG (nrm P (lowP P) (Sg s)) G (d / 2) (dst d (k - 1))) → Ok (f_X7_run_38 (nI P) (nI lim) (nI s) (nI G) (nI d) cbs cub mvs mov fu (nI (k - 1)) (nI n) stt frm by' wrk oth) (fun r => match r with | .inl b => b.1 = 0 ∧ b.2.1 = nI n ∧ b.2.2.1 = stt ∧ b.2.2.2.1 = frm ∧ b.2.2.2.2.1 = by' ∧ b.2.2.2.2.2.2.2.1 = mvs ∧ b.2.2.2.2.2.2.2.2 = mov | .inr _ => False) := by
    intro K
    induction K with
    | zero =>
      intro fu k wrk oth hf hK h1 hw
      obtain ⟨w, rfl⟩ : ∃ w, fu = w + 1 := ⟨fu - 1, by omega⟩
      have hdst := dst_bd d k
      have hbω : Bd 10000 (mvG (nrm P (lowP P) (Sg s)) G (d / 2) (dst d k)) := ((hb.nrm' l1).mv (K' := 300) (by omega)).up (by omega)
      rw [f_X7_run_38, show nI (k - 1) + 1 = nI k by rw [show nI (k - 1) + 1 = nI (k - 1 + 1) from nI_1 _, show k - 1 + 1 = k by omega]]
      refine Ok.bind (run44_ok (by omega) hG hd hw) ?_
      intro wk hwk
      rw [mvG_mvG, dst_s, show k - 1 + 1 = k by omega] at hwk
      refine Ok.bind (hits_ok (by omega) hC hwk hbω hP hG) ?_
      rintro r (⟨rfl, hH⟩ | ⟨rfl, hH⟩)
      · exact Ok.neg (by decide) (Ok.some ⟨rfl, rfl, rfl, rfl, rfl, rfl, rfl⟩)
      · exfalso
        have e : k = m + 1 := by omega
        rw [← e] at hlast
        have h2 := hit_co hP hcl hCG.2.1 hlast
        rw [hcc] at h2
        exact hH (h2.rl hGP (hrel k).symm)
    | succ K ih =>
      intro fu k wrk oth hf hK h1 hw
      obtain ⟨w, rfl⟩ : ∃ w, fu = w + 1 := ⟨fu - 1, by omega⟩
      have hdst := dst_bd d k
      have hdst2 := dst_bd (d ^^^ 1) k
      have hbω : Bd 10000 (mvG (nrm P (lowP P) (Sg s)) G (d / 2) (dst d k)) := ((hb.nrm' l1).mv (K' := 300) (by omega)).up (by omega)
      obtain ⟨g1, g2, g3⟩ := hall k h1 (by omega)
      have hbD : Bd 1000 (Dk (Sg s) (cmpl P G) (d ^^^ 1) k) := (hb.mv (K' := 300) (by omega)).up (by omega)
      have hpin : Pin P (Dk (Sg s) (cmpl P G) (d ^^^ 1) k) := ((hBK.2.2.2.2.2.2.1 s hs).2).mv hCG _ _
      rw [f_X7_run_38, show nI (k - 1) + 1 = nI k by rw [show nI (k - 1) + 1 = nI (k - 1 + 1) from nI_1 _, show k - 1 + 1 = k by omega]]
      refine Ok.bind (run44_ok (by omega) hG hd hw) ?_
      intro wk hwk
      rw [mvG_mvG, dst_s, show k - 1 + 1 = k by omega] at hwk
      refine Ok.bind (hits_ok (by omega) hC hwk hbω hP hG) ?_
      rintro r (⟨rfl, hH⟩ | ⟨rfl, hH⟩)
      · exact absurd (hit_co hP hG hGP (hH.rl hGP (hrel k))) g1
      · refine Ok.pos rfl (Ok.bind (isFree_ok (by omega) hC hwk hbω hP hG hGP hA hg hr) ?_)
        rintro r (⟨rfl, hF⟩ | ⟨rfl, hF⟩)
        · exact absurd (ap_co hP hG (hF.rl (hrel k))) g2
        · refine Ok.pos rfl (Ok.bind (isKnown_ok (by omega) (show n ≤ 300 by omega) hP hP0 hwk) ?_)
          rintro ⟨r4, oth'⟩ ⟨ho, hr4⟩
          rw [kn_ref hP hP0 hBK (hrel k) hbD hpin] at hr4
          rcases hr4 with ⟨e4, _⟩ | ⟨_, e4⟩
          · replace e4 : r4 = 1 := e4
            subst e4
            refine Ok.neg (show ¬ (1 : Int32) = 0 by decide) ?_
            exact ih w (k + 1) wk oth' (by omega) (by omega) (by omega) hwk
          · exact absurd g3 e4
  unfold f_X7_run
  refine Ok.bind (run3_ok (by omega) (show s < 300 by omega) (wrk := wrk) (hBK.2.2.2.1 s hs)) ?_
  intro wk hwk
  refine Ok.sumB (Ok.mono (loop m fu 1 wk oth (by omega) (by omega) (Nat.le_refl _) (by rw [show dst d (1 - 1) = 0 by unfold dst; simp, mvG_0]; exact hwk)) ?_)
  intro r hr
  cases r with
  | inl b => exact hr
  | inr b => exact absurd hr (fun z => z)
theorem noways_ok {A : Nat → Int64} {P lim : Nat} (hP : P < 64) (hP0 : P ≠ 0) (hl : lim ≤ 300) (hA : ∀ p, p < 6 → P.testBit p = true → A p ≠ 0) {cbs cub : Nat → Int32} (hC : CubOK A cbs cub) {s G : Nat} (hG : G < 64) (hGP : SubM G P) (hG0 : G ≠ 0) (hGt : G.testBit (topP P) = true) {th : Int32} {mov : Nat → Int32} {mvs : Int32} {n : Nat} {Sg : Nat → Nat → Nat → Int} {par lv : Nat → Nat} {at' pa mo le hd' nt stt frm by' : Nat → Int32} (hBK : BK A P lim n Sg par lv at' pa mo le hd' nt stt frm by') (hs : s < n) (hb : Bd 40 (Sg s)) (hCG : GOK P (cmpl P G)) (hD : ∀ d, d < 6 → DoneR A P n Sg s (cmpl P G) d) : ∀ k fu d wrk oth, 2000 + k < fu → k + d = 6 → Ok (f_X7_plan_310 (nI P) (nI lim) (nI s) (nI G) th cbs cub fu (nI d) (nI n) stt frm by' wrk oth mvs mov) (fun r => ∃ wrk oth, r = .inr (nI n, stt, frm, by', wrk, oth, mvs, mov)) := by
  intro k
  induction k with
  | zero =>
    intro fu d wrk oth hf hk
    obtain ⟨w, rfl⟩ : ∃ w, fu = w + 1 := ⟨fu - 1, by omega⟩
    have : d = 6 := by omega
    subst this
    rw [f_X7_plan_310]
    exact Ok.pos (by decide +kernel) (Ok.some ⟨wrk, oth, rfl⟩)
  | succ k ih =>
    intro fu d wrk oth hf hk
    obtain ⟨w, rfl⟩ : ∃ w, fu = w + 1 := ⟨fu - 1, by omega⟩
    have hd : d < 6 := by omega
    rw [f_X7_plan_310, show nI d + 1 = nI (d + 1) from nI_1 d]
    refine Ok.neg (nI_ge (b := 6) hd (by decide)) (Ok.bind (norun_ok (by omega) hP hP0 hl hA hC hG hGP hG0 hGt hd hBK hs hb hCG (hD _ (xor1 d hd).2.1) wrk oth) ?_)
    rintro ⟨b1, b2, b3, b4, b5, b6, b7, b8, b9⟩ ⟨e1, e2, e3, e4, e5, e6, e7⟩
    replace e1 : b1 = 0 := e1
    replace e2 : b2 = nI n := e2
    replace e3 : b3 = stt := e3
    replace e4 : b4 = frm := e4
    replace e5 : b5 = by' := e5
    replace e6 : b8 = mvs := e6
    replace e7 : b9 = mov := e7
    subst e1 e2 e3 e4 e5 e6 e7
    exact Ok.pos rfl (ih w (d + 1) b6 b7 (by omega) (by omega))
