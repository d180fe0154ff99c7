/-! all groups, all states, in both programs at once -/
def DoneTo (A : Nat → Int64) (P s g n : Nat) (Sg : Nat → Nat → Nat → Int) : Prop := ∀ G, G < g → GOK P G → ∀ d, d < 6 → DoneR A P n Sg s G d
abbrev CG : Type := (Nat → Int32) × (Nat → Int32) × (Nat → Int32) × (Nat → Int32) × (Nat → Int32) × (Nat → Int32) × Int32 × (Nat → Int32) × (Nat → Int32) × Int32 × (Nat → Int32) × (Nat → Int32) × Int32 × (Nat → Int32) × Int32
def GQ (A : Nat → Int64) (P lim n0 : Nat) (Sg0 : Nat → Nat → Nat → Int) (T : Nat → (Nat → Nat → Nat → Int) → Prop) (fnd : Nat → Int32) (fc mvs : Int32) (mov : Nat → Int32) (th : Int32) (a : CWE ⊕ CG) (b : RWE ⊕ RW) : Prop := match a, b with
  | .inr a, .inr b => GoB A P lim n0 Sg0 a.1 a.2.1 a.2.2.1 a.2.2.2.1 a.2.2.2.2.1 a.2.2.2.2.2.1 a.2.2.2.2.2.2.1 b.1 b.2.1 b.2.2.1 b.2.2.2.1 T ∧ a.2.2.2.2.2.2.2.2.2.2.2.2.2.1 = fnd ∧ a.2.2.2.2.2.2.2.2.2.2.2.2.2.2 = fc ∧ b.2.2.2.2.2.2.1 = mvs ∧ b.2.2.2.2.2.2.2 = mov
  | .inl a, .inl b => WE a b ∧ b.2.1 = th
  | _, _ => False
theorem DoneTo.up {A : Nat → Int64} {P s g n n' : Nat} {Sg Sg' : Nat → Nat → Nat → Int} (h : DoneTo A P s g n Sg) (hs : s < n) (hn : n ≤ n') (e : ∀ t, t < n → Sg' t = Sg t) : DoneTo A P s g n' Sg' := fun G h1 h2 d hd => (h G h1 h2 d hd).up hs hn e
theorem groups_ok {A : Nat → Int64} {P lim : Nat} (hP : P < 64) (hP0 : P ≠ 0) (hl : lim ≤ 300) (hA : ∀ p, p < 6 → P.testBit p = true → A p ≠ 0) {cbs cub : Nat → Int32} (hC : CubOK A cbs cub) {s : Nat} {blo bhi : Nat → Nat → Int32} (hx : ∀ p, p < 6 → BxF (A p) (blo p) (bhi p)) {rom : Nat → Int32} {th : Int32} {fnd mov : Nat → Int32} {fc mvs : Int32} (hfin : Fin fnd fc mov mvs) {n0 : Nat} {Sg0 : Nat → Nat → Nat → Int} (hs0 : s < n0) (hb : Bd 40 (Sg0 s)) (hrom : RomOK A P (Sg0 s) rom) : ∀ k fu g n Sg par lv at' pa mo le hd' nt gl gh ge rl rh re stt frm by' wrk oth, 3000 + k < fu → k + g = P → 1 ≤ g → BK A P lim n Sg par lv at' pa mo le hd' nt stt frm by' → n0 ≤ n → (∀ t, t < n0 → Sg t = Sg0 t) → DoneTo A P s g n Sg → Ok2 (f_X5_expand_7 (nI s) blo bhi rom (nI P) (nI lim) fu (nI g) at' pa mo le hd' nt (nI n) gl gh ge rl rh re fnd fc) (f_X7_plan_289 (nI P) (nI lim) (nI s) th cbs cub fu (nI g) (nI n) stt frm by' wrk oth mvs mov) (GQ A P lim n0 Sg0 (DoneTo A P s P) fnd fc mvs mov th) := by
  intro k
  induction k with
  | zero =>
    intro fu g n Sg par lv at' pa mo le hd' nt gl gh ge rl rh re stt frm by' wrk oth hf hk h1 hBK hn hSg hD
    obtain ⟨w, rfl⟩ : ∃ w, fu = w + 1 := ⟨fu - 1, by omega⟩
    have : g = P := by omega
    subst this
    rw [f_X5_expand_7, f_X7_plan_289]
    exact Ok2.posL (nI_le (Nat.le_refl _) (by omega)) (Ok2.posR (nI_le (Nat.le_refl _) (by omega)) (Ok2.some ⟨⟨n, Sg, par, lv, hBK, rfl, rfl, hn, hSg, hD⟩, rfl, rfl, rfl, rfl⟩))
  | succ k ih =>
    intro fu g n Sg par lv at' pa mo le hd' nt gl gh ge rl rh re stt frm by' wrk oth hf hk h1 hBK hn hSg hD
    obtain ⟨w, rfl⟩ : ∃ w, fu = w + 1 := ⟨fu - 1, by omega⟩
    have hg64 : g < 64 := by omega
    have hsn : s < n := by omega
    have hnl := hBK.1
    rw [f_X5_expand_7, f_X7_plan_289, show nI g + 1 = nI (g + 1) from nI_1 g, (rest_i P hP g hg64).1]
    refine Ok2.negL (nI_ge (by omega) (by omega)) (Ok2.negR (nI_ge (by omega) (by omega)) ?_)
    have skip : ¬ GOK P g → DoneTo A P s (g + 1) n Sg := by
      intro hng G hG hGO d hd
      by_cases z : G = g
      · subst z; exact absurd hGO hng
      · exact hD G (by omega) hGO d hd
    by_cases hsub : nI g &&& (nI P ^^^ (-1 : Int32)) = 0
    · have hSM : SubM g P := subB_t.1 ((sub_g P hP g hg64).1 hsub)
      refine Ok2.posL hsub (Ok2.posR hsub ?_)
      have htop := top_g P hP g hg64 hP0 hsub
      by_cases hle : nI (P &&& (g ^^^ 63)) ≤ nI g
      · have hgt := htop.1 hle
        obtain ⟨c1, c2, c3, c4⟩ := cmpl_cmp P hP g hg64 (subB_t.2 hSM) (by omega) hgt
        have hCG : GOK P (cmpl P g) := ⟨cmpl_lt hP hg64, fun p hp z => ((cmpl_b hP hg64 hp).1 z).1, cmpl_ne P hP g hg64 (subB_t.2 hSM) (by omega), c4⟩
        obtain ⟨r, er, wrk', oth', e⟩ := noways_ok hP hP0 hl hA hC (s := s) hg64 hSM (by omega) hgt (th := th) (mov := mov) (mvs := mvs) hBK hsn (by rw [hSg s hs0]; exact hb) hCG (hD _ c1 hCG) 6 w 0 wrk oth (by omega) (by omega)
        rw [show (0 : Int32) = nI 0 from rfl, er, e]
        refine Ok2.posL hle ?_
        exact ih w (g + 1) n Sg par lv at' pa mo le hd' nt gl gh ge rl rh re stt frm by' wrk' oth' (by omega) (by omega) (by omega) hBK hn hSg (skip (fun z => by rw [z.2.2.2] at hgt; cases hgt))
      · have hgt : g.testBit (topP P) = false := by
          cases hh : g.testBit (topP P)
          · rfl
          · exact absurd (htop.2 hh) hle
        have hGO : GOK P g := ⟨hg64, hSM, by omega, hgt⟩
        obtain ⟨t1, t2⟩ := top_ok P hP hP0
        have hlow := ne_bit g hg64 (by omega)
        have hrow : RowC at' s (Sg0 s) := by
          have := hBK.2.1 s hsn
          rwa [hSg s hs0] at this
        refine Ok2.negL hle (Ok2.L (measureBoxes_ok (by omega) hP hg64 ⟨lowP g, hlow.1, hSM _ hlow.1 hlow.2, hlow.2⟩ ⟨topP P, t1, t2, hgt⟩ (show s ≤ 300 by omega) hrow (hb.up (by omega)) hx gl gh rl rh) ?_)
        rintro ⟨gl', gh', ge', rl', rh', re'⟩ hbx
        refine Ok2.sumB (Ok2.mono (ways_ok hP hP0 hl hA hC hGO (gem := ge') (rem := re') (th := th) hfin (n0 := n) (Sg0 := Sg) hsn (by rw [hSg s hs0]; exact hb) (by rw [hSg s hs0]; exact hbx) (by rw [hSg s hs0]; exact hrom) 6 w 0 n Sg par lv at' pa mo le hd' nt stt frm by' wrk oth (by omega) (by omega) hBK (Nat.le_refl _) (fun _ _ => rfl) (fun d' hd' => absurd hd' (by omega))) ?_)
        intro a b hab
        cases a with
        | inl a =>
          cases b with
          | inl b => exact hab
          | inr b => exact absurd hab (fun z => z)
        | inr a =>
          cases b with
          | inl b => exact absurd hab (fun z => z)
          | inr b =>
            obtain ⟨a1, a2, a3, a4, a5, a6, a7, a8, a9⟩ := a
            obtain ⟨b1, b2, b3, b4, b5, b6, b7, b8⟩ := b
            obtain ⟨⟨n', Sg', par', lv', g1, g2, g3, g4, g5, g6⟩, q1, q2, q3, q4⟩ := hab
            replace g2 : a7 = nI n' := g2
            replace g3 : b1 = nI n' := g3
            replace q1 : a8 = fnd := q1
            replace q2 : a9 = fc := q2
            replace q3 : b7 = mvs := q3
            replace q4 : b8 = mov := q4
            subst g2 g3 q1 q2 q3 q4
            refine ih w (g + 1) n' Sg' par' lv' a1 a2 a3 a4 a5 a6 gl' gh' ge' rl' rh' re' b2 b3 b4 b5 b6 (by omega) (by omega) (by omega) g1 (by omega) (fun t ht => (g5 t (by omega)).trans (hSg t ht)) (fun G hG hGO' d hd => ?_)
            by_cases z : G = g
            · subst z; exact g6 d hd
            · exact (hD G (by omega) hGO' d hd).up hsn g4 g5
    · have hng : ¬ GOK P g := fun z => hsub ((sub_g P hP g hg64).2 (subB_t.2 z.2.1))
      exact Ok2.negL hsub (Ok2.negR hsub (ih w (g + 1) n Sg par lv at' pa mo le hd' nt gl gh ge rl rh re stt frm by' wrk oth (by omega) (by omega) (by omega) hBK hn hSg (skip hng)))
theorem done_tight {A : Nat → Int64} {P n s : Nat} {Sg : Nat → Nat → Nat → Int} (hD : ∀ G, GOK P G → ∀ d, d < 6 → DoneR A P n Sg s G d) : Tight A P (Sg s) := by
  intro G hG hAp
  have fin : ∀ d, d < 6 → Ap A P G (Dk (Sg s) G d 1) → False := by
    intro d hd h1
    obtain ⟨m, _, h2, h3⟩ := hD G hG d hd
    by_cases z : m = 0
    · subst z
      exact h1.nohit hG.2.1 h3
    · exact (h2 1 (Nat.le_refl _) (by omega)).2.1 h1
  obtain ⟨a, ha, hh⟩ := hAp
  have mg : ∀ x u, G.testBit u = true → mvG (Sg s) G a x u a = Sg s u a + x := fun x u hu => if_pos ⟨hu, rfl⟩
  have mr : ∀ x u, G.testBit u = false → mvG (Sg s) G a x u a = Sg s u a := fun x u hu => if_neg (fun y => by rw [hu] at y; cases y.1)
  rcases hh with hh | hh
  · refine fin (2 * a) (by omega) ⟨a, ha, Or.inl (fun p q hp hq h1 h2 h3 h4 => ?_)⟩
    have := hh p q hp hq h1 h2 h3 h4
    have e : Dk (Sg s) G (2 * a) 1 = mvG (Sg s) G a 1 := by
      unfold Dk dst sgn
      rw [show 2 * a / 2 = a by omega, if_pos (by omega)]
      rfl
    rw [e, mg 1 p h2, mr 1 q h4]
    omega
  · refine fin (2 * a + 1) (by omega) ⟨a, ha, Or.inr (fun p q hp hq h1 h2 h3 h4 => ?_)⟩
    have := hh p q hp hq h1 h2 h3 h4
    have e : Dk (Sg s) G (2 * a + 1) 1 = mvG (Sg s) G a (-1) := by
      unfold Dk dst sgn
      rw [show (2 * a + 1) / 2 = a by omega, if_neg (by omega)]
      rfl
    rw [e, mg (-1) p h2, mr (-1) q h4]
    omega
def gltB (P G : Nat) : Bool := !subB G P || G.testBit (topP P) || decide (G < P)
theorem gltB_ok : ∀ P, P < 64 → ∀ G, G < 64 → P = 0 ∨ gltB P G = true := by decide +kernel
theorem GOK.lt {P G : Nat} (hP : P < 64) (hP0 : P ≠ 0) (h : GOK P G) : G < P := by
  rcases gltB_ok P hP G h.1 with z | z
  · exact absurd z hP0
  · unfold gltB at z
    rw [subB_t.2 h.2.1, h.2.2.2] at z
    simpa using z
theorem bd_state {A : Nat → Int64} {P lim n : Nat} (hP : P < 64) (hP0 : P ≠ 0) {Sg : Nat → Nat → Nat → Int} {par lv : Nat → Nat} {at' pa mo le hd nt stt frm by' : Nat → Int32} (hBK : BK A P lim n Sg par lv at' pa mo le hd nt stt frm by') {s : Nat} (hs : s < n) (hD : ∀ s', s' < s → DoneTo A P s' P n Sg) : Bd 40 (Sg s) := by
  by_cases z : s = 0
  · subst z
    rw [hBK.2.2.2.2.2.2.2.1]
    intro p hp a ha
    exact ⟨show (-40 : Int) ≤ 0 by decide, show (0 : Int) ≤ 40 by decide⟩
  · obtain ⟨g1, _⟩ := hBK.2.2.2.2.2.1 s (by omega) hs
    obtain ⟨G, ax, x, h1, h2, h3⟩ := hBK.2.2.2.2.2.2.2.2 s (by omega) hs
    have hT := done_tight (s := par s) (fun G hG d hd => hD (par s) g1 G (hG.lt hP hP0) hG d hd)
    have hpin := (hBK.2.2.2.2.2.2.1 s hs).2
    refine near_bd hP hP0 hpin (by decide) (fun p q a hp hq ha p1 q1 => ?_)
    rw [h2] at h3 ⊢
    exact child_near hP hP0 hT h1 h3 hp hq ha p1 q1
abbrev CL : Type := (Nat → Int32) × (Nat → Int32) × (Nat → Int32) × (Nat → Int32) × (Nat → Int32) × (Nat → Int32) × Int32 × (Nat → Int32) × (Nat → Int32) × Int32 × (Nat → Int32) × (Nat → Int32) × Int32 × (Nat → Int32) × (Nat → Int32) × Int32
abbrev CLE : Type := Int32 × (Nat → Int32) × (Nat → Int32) × (Nat → Int32) × (Nat → Int32) × (Nat → Int32) × (Nat → Int32) × Int32 × (Nat → Int64) × (Nat → Nat → Int32) × (Nat → Nat → Int32) × (Nat → Int32) × (Nat → Int32) × (Nat → Int32) × Int32 × (Nat → Int32) × (Nat → Int32) × Int32 × (Nat → Int32) × (Nat → Int32) × Int32 × Int32 × Int32
def SB (th : Int32) (a : CLE ⊕ CL) (b : RWE ⊕ RW) : Prop := match a, b with
  | .inr a, .inr b => a.2.2.2.2.2.2.1 = b.1 ∧ Fin a.2.2.2.2.2.2.2.2.2.2.2.2.2.2.1 a.2.2.2.2.2.2.2.2.2.2.2.2.2.2.2 b.2.2.2.2.2.2.2 b.2.2.2.2.2.2.1
  | .inl a, .inl b => EndB a.1 b.1 a.2.2.2.2.2.2.2.1 b.2.2.2.2.1 a.2.2.2.2.2.2.2.2.2.2.2.2.2.2.2.2.2.2.2.1 a.2.2.2.2.2.2.2.2.2.2.2.2.2.2.2.2.2.2.2.2.1 b.2.2.2.2.2.2.2.2.2.2.2 b.2.2.2.2.2.2.2.2.2.2.1 ∧ b.2.1 = th
  | _, _ => False
theorem states_ok {A : Nat → Int64} {P lim : Nat} (hP : P < 64) (hP0 : P ≠ 0) (hl : lim ≤ 300) (hA : ∀ p, p < 6 → P.testBit p = true → A p ≠ 0) {cbs cub : Nat → Int32} (hC : CubOK A cbs cub) {blo bhi : Nat → Nat → Int32} {bem : Nat → Int32} (hx : ∀ p, p < 6 → BxF (A p) (blo p) (bhi p)) {th : Int32} {fnd mov : Nat → Int32} {fc mvs : Int32} (hfin : Fin fnd fc mov mvs) : ∀ k fu s n Sg par lv at' pa mo le hd' nt gl gh ge rl rh re rom stt frm by' wrk oth, 20000 + k < fu → k + s = 300 → s ≤ n → BK A P lim n Sg par lv at' pa mo le hd' nt stt frm by' → (∀ s', s' < s → DoneTo A P s' P n Sg) → Ok2 (f_X5_look_66 A blo bhi bem (nI P) (nI lim) fu (nI s) at' pa mo le hd' nt (nI n) gl gh ge rl rh re rom fnd fc) (f_X7_plan_277 (nI P) (nI lim) th cbs cub fu (nI s) (nI n) stt frm by' wrk oth mvs mov) (SB th) := by
  intro k
  induction k with
  | zero =>
    intro fu s n Sg par lv at' pa mo le hd' nt gl gh ge rl rh re rom stt frm by' wrk oth hf hk hsn hBK hD
    obtain ⟨w, rfl⟩ : ∃ w, fu = w + 1 := ⟨fu - 1, by omega⟩
    have hn := hBK.1
    rw [f_X5_look_66, f_X7_plan_277]
    exact Ok2.posL (by show nI 300 ≤ nI s; rw [le_n (by omega) (by omega)]; omega) (Ok2.posR (by rw [le_n (by omega) (by omega)]; omega) (Ok2.some ⟨rfl, hfin⟩))
  | succ k ih =>
    intro fu s n Sg par lv at' pa mo le hd' nt gl gh ge rl rh re rom stt frm by' wrk oth hf hk hsn hBK hD
    obtain ⟨w, rfl⟩ : ∃ w, fu = w + 1 := ⟨fu - 1, by omega⟩
    have hn := hBK.1
    rw [f_X5_look_66, f_X7_plan_277, show nI s + 1 = nI (s + 1) from nI_1 s]
    refine Ok2.negL (by show ¬ nI 300 ≤ nI s; rw [le_n (by omega) (by omega)]; omega) (Ok2.LE rfl ?_)
    by_cases hend : n ≤ s
    · exact Ok2.posL (by rw [le_n (by omega) (by omega)]; exact hend) (Ok2.posR (by rw [le_n (by omega) (by omega)]; exact hend) (Ok2.some ⟨rfl, hfin⟩))
    · refine Ok2.negL (by rw [le_n (by omega) (by omega)]; exact hend) (Ok2.negR (by rw [le_n (by omega) (by omega)]; exact hend) ?_)
      have hs : s < n := by omega
      have hb := bd_state hP hP0 hBK hs hD
      obtain ⟨rom', er, hrom⟩ := measureRoom_ok (fu := w) (by omega) (A := A) (show s ≤ 300 by omega) hP (hBK.2.1 s hs) (hb.up (by omega)) rom
      obtain ⟨a, b, ea, eb, hq⟩ := groups_ok hP hP0 hl hA hC (s := s) hx (th := th) hfin hs hb hrom (P - 1) w 1 n Sg par lv at' pa mo le hd' nt gl gh ge rl rh re stt frm by' wrk oth (by omega) (by omega) (Nat.le_refl _) hBK (Nat.le_refl _) (fun _ _ => rfl) (fun G hG hGO => absurd hG (by have := hGO.2.2.1; omega))
      have eE : f_X5_expand w at' pa mo le hd' nt (nI n) A blo bhi gl gh ge rl rh re rom fnd fc (nI P) (nI lim) (nI s) = sumB (some a) id fun t48 => some ((0 : Int32), t48.1, t48.2.1, t48.2.2.1, t48.2.2.2.1, t48.2.2.2.2.1, t48.2.2.2.2.2.1, t48.2.2.2.2.2.2.1, t48.2.2.2.2.2.2.2.1, t48.2.2.2.2.2.2.2.2.1, t48.2.2.2.2.2.2.2.2.2.1, t48.2.2.2.2.2.2.2.2.2.2.1, t48.2.2.2.2.2.2.2.2.2.2.2.1, t48.2.2.2.2.2.2.2.2.2.2.2.2.1, rom', t48.2.2.2.2.2.2.2.2.2.2.2.2.2.1, t48.2.2.2.2.2.2.2.2.2.2.2.2.2.2) := by
        unfold f_X5_expand
        rw [er]
        show sumB (f_X5_expand_7 (nI s) blo bhi rom' (nI P) (nI lim) w 1 at' pa mo le hd' nt (nI n) gl gh ge rl rh re fnd fc) id _ = _
        rw [show (1 : Int32) = nI 1 from rfl, ea]
      rw [eE, show (1 : Int32) = nI 1 from rfl, eb]
      cases a with
      | inl a =>
        cases b with
        | inl b =>
          exact Ok2.LE rfl (Ok2.negL hq.1.2.1 (Ok2.some ⟨hq.1, hq.2⟩))
        | inr b => exact absurd hq (fun z => z)
      | inr a =>
        cases b with
        | inl b => exact absurd hq (fun z => z)
        | inr b =>
          obtain ⟨a1, a2, a3, a4, a5, a6, a7, a8, a9, a10, a11, a12, a13, a14, a15⟩ := a
          obtain ⟨b1, b2, b3, b4, b5, b6, b7, b8⟩ := b
          obtain ⟨⟨n', Sg', par', lv', g1, g2, g3, g4, g5, g6⟩, q1, q2, q3, q4⟩ := hq
          replace g2 : a7 = nI n' := g2
          replace g3 : b1 = nI n' := g3
          replace q1 : a14 = fnd := q1
          replace q2 : a15 = fc := q2
          replace q3 : b7 = mvs := q3
          replace q4 : b8 = mov := q4
          subst g2 g3 q1 q2 q3 q4
          refine Ok2.LE rfl (Ok2.posL rfl (ih w (s + 1) n' Sg' par' lv' a1 a2 a3 a4 a5 a6 _ _ _ _ _ _ _ b2 b3 b4 b5 b6 (by omega) (by omega) (by omega) g1 (fun s' hs' => ?_)))
          by_cases z : s' = s
          · subst z; exact g6
          · exact (hD s' (by omega)).up (by omega) g4 g5
