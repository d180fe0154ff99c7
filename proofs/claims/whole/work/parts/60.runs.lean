/-! a run of a group, in both programs at once -/
abbrev CT : Type := (Nat → Int32) × (Nat → Int32) × (Nat → Int32) × (Nat → Int32) × (Nat → Int32) × (Nat → Int32) × Int32
abbrev CE2 : Type := Int32 × (Nat → Int32) × (Nat → Int32) × (Nat → Int32) × (Nat → Int32) × (Nat → Int32) × (Nat → Int32) × Int32 × (Nat → Int32) × Int32
abbrev RE2 : Type := Int32 × Int32 × (Nat → Int32) × (Nat → Int32) × (Nat → Int32) × (Nat → Int32) × (Nat → Int32) × Int32 × (Nat → Int32)
/-- both have ended, with the same answer -/
def EndB (a1 b1 ct sts : Int32) (fnd : Nat → Int32) (fc : Int32) (mov : Nat → Int32) (mvs : Int32) : Prop := a1 = b1 ∧ ¬ a1 = 0 ∧ ct = sts ∧ Fin fnd fc mov mvs
/-- both go on, their books alike, and this run is done -/
def GoB (A : Nat → Int64) (P lim n0 : Nat) (Sg0 : Nat → Nat → Nat → Int) (at' pa mo le hd nt : Nat → Int32) (ct sts : Int32) (stt frm by' : Nat → Int32) (T : Nat → (Nat → Nat → Nat → Int) → Prop) : Prop := ∃ n Sg par lv, BK A P lim n Sg par lv at' pa mo le hd nt stt frm by' ∧ ct = nI n ∧ sts = nI n ∧ n0 ≤ n ∧ (∀ t, t < n0 → Sg t = Sg0 t) ∧ T n Sg
def LQ (A : Nat → Int64) (P lim n0 : Nat) (Sg0 : Nat → Nat → Nat → Int) (s G d : Nat) (mvs : Int32) (mov : Nat → Int32) (a : CE2 ⊕ CT) (b : RE2 ⊕ (Int32 × (Nat → Int32) × (Nat → Int32) × (Nat → Int32) × (Nat → Int32) × (Nat → Int32))) : Prop := match a, b with
  | .inr a, .inl b => b.1 = 0 ∧ GoB A P lim n0 Sg0 a.1 a.2.1 a.2.2.1 a.2.2.2.1 a.2.2.2.2.1 a.2.2.2.2.2.1 a.2.2.2.2.2.2 b.2.1 b.2.2.1 b.2.2.2.1 b.2.2.2.2.1 (fun n Sg => DoneR A P n Sg s G d) ∧ b.2.2.2.2.2.2.2.1 = mvs ∧ b.2.2.2.2.2.2.2.2 = mov
  | .inl a, .inl b => EndB a.1 b.1 a.2.2.2.2.2.2.2.1 b.2.1 a.2.2.2.2.2.2.2.2.1 a.2.2.2.2.2.2.2.2.2 b.2.2.2.2.2.2.2.2 b.2.2.2.2.2.2.2.1
  | _, _ => False
theorem Bd.mv {K K' : Int} {σ : Nat → Nat → Int} (h : Bd K σ) {G ax : Nat} {x : Int} (h1 : -K' ≤ x ∧ x ≤ K') : Bd (K + K') (mvG σ G ax x) := by
  intro p hp a ha
  have := h p hp a ha
  unfold mvG
  split <;> omega
theorem Bd.up {K K' : Int} {σ : Nat → Nat → Int} (h : Bd K σ) (hk : K ≤ K') : Bd K' σ := by
  intro p hp a ha
  have := h p hp a ha
  omega
theorem Bd.nrm' {K : Int} {P f : Nat} {σ : Nat → Nat → Int} (h : Bd K σ) (hf : f < 6) : Bd (K + K) (nrm P f σ) := by
  intro p hp a ha
  have h1 := h p hp a ha
  have h2 := h f hf a ha
  unfold nrm
  split <;> omega
theorem run_loop {A : Nat → Int64} {P lim : Nat} (hP : P < 64) (hP0 : P ≠ 0) (hl : lim ≤ 300) (hA : ∀ p, p < 6 → P.testBit p = true → A p ≠ 0) {cbs cub : Nat → Int32} (hC : CubOK A cbs cub) {s G d m : Nat} (hG : GOK P G) (hd : d < 6) {σ : Nat → Nat → Int} (hb : Bd 40 σ) {gl gh rl rh : Nat → Int32} (hbx : Bx2 A P G σ gl gh rl rh) (hm : m ≤ 500) (hno : ∀ k, 1 ≤ k → k ≤ m → ¬ Hit A P G (Dk σ G d k)) (hhit : m = 500 ∨ Hit A P G (Dk σ G d (m + 1))) {fnd mov : Nat → Int32} {fc mvs : Int32} (hfin : Fin fnd fc mov mvs) {n0 : Nat} {Sg0 : Nat → Nat → Nat → Int} (hs0 : s < n0) (hσ : Sg0 s = σ) : ∀ K fu k n Sg par lv at' pa mo le hd' nt stt frm by' wrk oth, 1000 + K < fu → K + k = 150 → 1 ≤ k → k ≤ m + 1 → BK A P lim n Sg par lv at' pa mo le hd' nt stt frm by' → n0 ≤ n → (∀ t, t < n0 → Sg t = Sg0 t) → (∀ j, 1 ≤ j → j < k → ¬ Ap A P G (Dk σ G d j) ∧ Kn n Sg (Dk σ G d j)) → RowW wrk (mvG (nrm P (lowP P) σ) G (d / 2) (dst d (k - 1))) → Ok2 (f_X5_tryRuns_16 (nI s) (nI G) (nI d) (nI m) (nI (d / 2)) gl gh rl rh fnd fc (nI lim) fu (nI k) at' pa mo le hd' nt (nI n)) (f_X7_run_38 (nI P) (nI lim) (nI s) (nI G) (nI d) cbs cub mvs mov fu (nI (k - 1)) (nI n) stt frm by' wrk oth) (LQ A P lim n0 Sg0 s G d mvs mov) := by
  obtain ⟨hG64, hGP, hG0, hGt⟩ := hG
  obtain ⟨l1, l2, _, _⟩ := lowP_ok P hP hP0
  obtain ⟨t1, t2⟩ := top_ok P hP hP0
  have hg : ∃ p, p < 6 ∧ G.testBit p = true := ⟨lowP G, ne_bit G hG64 hG0⟩
  have hr : ∃ p, p < 6 ∧ P.testBit p = true ∧ G.testBit p = false := ⟨topP P, t1, t2, hGt⟩
  intro K
  induction K with
  | zero =>
    intro fu k n Sg par lv at' pa mo le hd' nt stt frm by' wrk oth hf hK h1 hkm hBK hn hSg hap hw
    exact absurd (far_ap hd hb (show 100 ≤ k - 1 by omega)) (hap (k - 1) (by omega) (by omega)).1
  | succ K ih =>
    intro fu k n Sg par lv at' pa mo le hd' nt stt frm by' wrk oth hf hK h1 hkm hBK hn hSg hap hw
    obtain ⟨w, rfl⟩ : ∃ w, fu = w + 1 := ⟨fu - 1, by omega⟩
    have hk100 : k ≤ 100 := by
      apply Classical.byContradiction
      intro z
      exact (hap (k - 1) (by omega) (by omega)).1 (far_ap hd hb (show 100 ≤ k - 1 by omega))
    have hsσ : Sg s = σ := (hSg s hs0).trans hσ
    have hsn : s < n := by omega
    have hn300 : n ≤ 300 := by have := hBK.1; omega
    have hdst := dst_bd d k
    have hrel : Rl P (mvG (nrm P (lowP P) σ) G (d / 2) (dst d k)) (Dk σ G d k) := (rl_nrm σ).mv G (d / 2) (dst d k)
    have hbω : Bd 10000 (mvG (nrm P (lowP P) σ) G (d / 2) (dst d k)) := ((hb.nrm' l1).mv (K' := 100) (by omega)).up (by omega)
    have hbD : Bd 1000 (Dk σ G d k) := (hb.mv (K' := 100) (by omega)).up (by omega)
    have hpin : Pin P (Dk σ G d k) := by
      have := (hBK.2.2.2.2.2.2.1 s hsn).2
      rw [hsσ] at this
      exact this.mv ⟨hG64, hGP, hG0, hGt⟩ _ _
    rw [f_X5_tryRuns_16, f_X7_run_38, by_dst hd, show nI (k - 1) + 1 = nI k by rw [show nI (k - 1) + 1 = nI (k - 1 + 1) from nI_1 _, show k - 1 + 1 = k by omega], show nI k + 1 = nI (k + 1) from nI_1 k]
    refine Ok2.R (run44_ok (by omega) hG64 hd hw) ?_
    intro wk hwk
    rw [mvG_mvG, dst_s, show k - 1 + 1 = k by omega] at hwk
    refine Ok2.R (hits_ok (by omega) hC hwk hbω hP hG64) ?_
    rintro r (⟨rfl, hH⟩ | ⟨rfl, hH⟩)
    · have hH' : Hit A P G (Dk σ G d k) := hH.rl hGP hrel
      have hkm' : m < k := by
        apply Classical.byContradiction
        intro z
        exact hno k h1 (by omega) hH'
      have ek : k = m + 1 := by omega
      refine Ok2.negR (by decide) (Ok2.posL (by rw [lt_n (by omega) (by omega)]; exact hkm') (Ok2.some ⟨rfl, ⟨n, Sg, par, lv, hBK, rfl, rfl, hn, hSg, ?_⟩, rfl, rfl⟩))
      refine ⟨m, by omega, fun j j1 j2 => ?_, ?_⟩
      · rw [hsσ]
        exact ⟨hno j j1 j2, (hap j j1 (by omega)).1, (hap j j1 (by omega)).2⟩
      · rw [hsσ, ← ek]
        exact hH'
    · have hH' : ¬ Hit A P G (Dk σ G d k) := fun z => hH (z.rl hGP hrel.symm)
      have hkm' : k ≤ m := by
        apply Classical.byContradiction
        intro z
        have : k = m + 1 := by omega
        rcases hhit with y | y
        · omega
        · rw [← this] at y
          exact hH' y
      refine Ok2.posR rfl (Ok2.negL (by rw [lt_n (by omega) (by omega)]; omega) ?_)
      refine Ok2.L (apart_ok (by omega) (show d / 2 < 3 by omega) (hb.up (by omega)) hbx (by omega)) ?_
      intro r1 hr1
      refine Ok2.R (isFree_ok (by omega) hC hwk hbω hP hG64 hGP hA hg hr) ?_
      intro r2 hr2
      rcases hr1 with ⟨rfl, hA1⟩ | ⟨rfl, hA1⟩
      · rcases hr2 with ⟨rfl, hA2⟩ | ⟨rfl, hA2⟩
        · refine Ok2.negL (by decide) (Ok2.negR (by decide) (Ok2.bind (fin_ok (by omega) hl hBK hsn fnd mov fc _) ?_))
          intro a b ⟨hab1, hab2, hab3⟩
          exact Ok2.some ⟨hab1, hab2, rfl, hab3⟩
        · exact absurd (hA1.rl hrel.symm) hA2
      · rcases hr2 with ⟨rfl, hA2⟩ | ⟨rfl, hA2⟩
        · exact absurd (hA2.rl hrel) hA1
        · refine Ok2.posL rfl (Ok2.posR rfl ?_)
          have hrow : RowC at' s σ := by
            have := hBK.2.1 s hsn
            rwa [hsσ] at this
          refine Ok2.L (draft_ok (by omega) hsn hn300 hG64 (show d / 2 < 3 by omega) hrow (dst d k)) ?_
          rintro at2 ⟨a1, a2⟩
          have hBK2 := hBK.row a1
          refine Ok2.L (knows_ok (by omega) hn300 hBK2.2.2.1) ?_
          intro r3 hr3
          refine Ok2.R (isKnown_ok (by omega) hn300 hP hP0 hwk) ?_
          rintro ⟨r4, oth'⟩ ⟨ho, hr4⟩
          replace ho : RowW oth' (nrm P (lowP P) (mvG (nrm P (lowP P) σ) G (d / 2) (dst d k))) := ho
          rw [kn_class hBK2 a2 hbD] at hr3
          rw [kn_ref hP hP0 hBK2 hrel hbD hpin] at hr4
          have goOn : ∀ (n' : Nat) (Sg' : Nat → Nat → Nat → Int), n ≤ n' → (∀ t, t < n → Sg' t = Sg t) → Kn n' Sg' (Dk σ G d k) → ∀ j, 1 ≤ j → j < k + 1 → ¬ Ap A P G (Dk σ G d j) ∧ Kn n' Sg' (Dk σ G d j) := by
            intro n' Sg' hn' hSg' hk' j j1 j2
            by_cases z : j = k
            · subst z
              exact ⟨hA1, hk'⟩
            · obtain ⟨g1, t, g2, g3⟩ := hap j j1 (by omega)
              exact ⟨g1, t, by omega, by rw [hSg' t g2]; exact g3⟩
          rcases hr3 with ⟨rfl, hK1⟩ | ⟨rfl, hK1⟩
          · rcases hr4 with ⟨e4, hK2⟩ | ⟨e4, hK2⟩
            · replace e4 : r4 = 1 := e4
              subst e4
              refine Ok2.negL (by decide) (Ok2.negR (show ¬ (1 : Int32) = 0 by decide) ?_)
              have := ih w (k + 1) n Sg par lv at2 pa mo le hd' nt stt frm by' wk oth' (by omega) (by omega) (by omega) (by omega) hBK2 hn hSg (goOn n Sg (Nat.le_refl _) (fun _ _ => rfl) hK1) hwk
              exact this
            · exact absurd hK1 hK2
          · rcases hr4 with ⟨e4, hK2⟩ | ⟨e4, hK2⟩
            · exact absurd hK2 hK1
            · replace e4 : r4 = 0 := e4
              subst e4
              have hBl := hBK.1
              refine Ok2.posL rfl (Ok2.posR rfl (Ok2.LE rfl ?_))
              by_cases hfull : n = lim
              · subst hfull
                refine Ok2.negL (by rw [lt_n (by omega) (by omega)]; omega) (Ok2.posR rfl (Ok2.some ⟨rfl, show ¬ (-2 : Int32) = 0 by decide, rfl, hfin⟩))
              · refine Ok2.posL (by rw [lt_n (by omega) (by omega)]; omega) (Ok2.negR (by rw [eq_n (by omega) (by omega)]; exact hfull) ?_)
                refine Ok2.L (add_ok (by omega) (show n < 300 by omega) (pa := pa) (mo := mo) (le := le) hBK2.2.2.1 hsn _) ?_
                rintro ⟨b1, b2, b3, b4, b5, b6⟩ ⟨e1, e2, e3, hCh, e5⟩
                replace e1 : b1 = va_up pa n (nI s) := e1
                replace e2 : b2 = va_up mo n _ := e2
                replace e3 : b3 = va_up le n (le s + 1) := e3
                replace e5 : b6 = nI (n + 1) := e5
                subst e1 e2 e3 e5
                refine Ok2.R (run185_ok (by omega) (show n < 300 by omega)) ?_
                rintro stt' ⟨hst, hst2⟩
                rw [cl_n (by omega), show nI n + 1 = nI (n + 1) from nI_1 n]
                refine Ok2.posR (inB_n (by omega) (by decide)) (Ok2.posR (inB_n (by omega) (by decide)) ?_)
                have hDk : Dk σ G d k = mvG (Sg s) G (d / 2) (dst d k) := by rw [hsσ]; rfl
                have hBK3 := hBK2.add hP hP0 (by omega) hsn ⟨hG64, hGP, hG0, hGt⟩ (by rw [hsσ]; exact a2) (by rw [hsσ]; exact hbD) (by rw [hsσ]; exact hA1) hCh (by rw [hsσ]; exact hrel) ho hst hst2 ((1000 : Int32) * nI G + (100 : Int32) * nI d + nI k)
                refine ih w (k + 1) (n + 1) _ _ _ at2 _ _ _ b4 b5 stt' _ _ wk oth' (by omega) (by omega) (by omega) (by omega) hBK3 (by omega) (fun t ht => ?_) (goOn (n + 1) _ (by omega) (fun t ht => vu_n (by omega)) ⟨n, by omega, fun p hp a ha => ?_⟩) hwk
                · rw [vu_n (by omega)]
                  exact hSg t ht
                · rw [vu_s, hDk]
