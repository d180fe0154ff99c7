/-! both books, and one run of a group in both programs -/
def Kn (n : Nat) (Sg : Nat → Nat → Nat → Int) (D : Nat → Nat → Int) : Prop := ∃ t, t < n ∧ ∀ p, p < 6 → ∀ a, a < 3 → Sg t p a = D p a
def Dk (σ : Nat → Nat → Int) (G d k : Nat) : Nat → Nat → Int := mvG σ G (d / 2) (dst d k)
def DoneR (A : Nat → Int64) (P n : Nat) (Sg : Nat → Nat → Nat → Int) (s G d : Nat) : Prop := ∃ m, m ≤ 200 ∧ (∀ k, 1 ≤ k → k ≤ m → ¬ Hit A P G (Dk (Sg s) G d k) ∧ ¬ Ap A P G (Dk (Sg s) G d k) ∧ Kn n Sg (Dk (Sg s) G d k)) ∧ Hit A P G (Dk (Sg s) G d (m + 1))
def BK (A : Nat → Int64) (P lim n : Nat) (Sg : Nat → Nat → Nat → Int) (par lv : Nat → Nat) (at' pa mo le hd nt stt frm by' : Nat → Int32) : Prop := (1 ≤ n ∧ n ≤ lim) ∧ (∀ t, t < n → RowC at' t (Sg t)) ∧ ChOK at' hd nt n ∧ (∀ t, t < n → RowR stt t (nrm P (lowP P) (Sg t))) ∧ (lv 0 = 0 ∧ le 0 = 0 ∧ frm 0 = -1) ∧ (∀ t, 0 < t → t < n → par t < t ∧ pa t = nI (par t) ∧ frm t = nI (par t) ∧ mo t = by' t ∧ lv t = lv (par t) + 1 ∧ le t = nI (lv t)) ∧ (∀ t, t < n → Bd 1000 (Sg t) ∧ Pin P (Sg t)) ∧ (Sg 0 = fun _ _ => 0) ∧ (∀ t, 0 < t → t < n → ∃ G ax x, GOK P G ∧ Sg t = mvG (Sg (par t)) G ax x ∧ ¬ Ap A P G (Sg t))
theorem BK.row {A : Nat → Int64} {P lim n : Nat} {Sg : Nat → Nat → Nat → Int} {par lv : Nat → Nat} {at' pa mo le hd nt stt frm by' at2 : Nat → Int32} (h : BK A P lim n Sg par lv at' pa mo le hd nt stt frm by') (e : ∀ j, j < n * 18 → at2 j = at' j) : BK A P lim n Sg par lv at2 pa mo le hd nt stt frm by' := by
  obtain ⟨h1, h2, h3, h4⟩ := h
  refine ⟨h1, fun t ht p hp a ha => ?_, h3.congr e, h4⟩
  rw [e _ (by omega)]
  exact h2 t ht p hp a ha
theorem BK.lv_le {A : Nat → Int64} {P lim n : Nat} {Sg : Nat → Nat → Nat → Int} {par lv : Nat → Nat} {at' pa mo le hd nt stt frm by' : Nat → Int32} (h : BK A P lim n Sg par lv at' pa mo le hd nt stt frm by') : ∀ t, t < n → lv t ≤ t := by
  intro t
  induction t using Nat.strongRecOn with
  | ind t ih =>
    intro ht
    by_cases z : t = 0
    · subst z
      rw [h.2.2.2.2.1.1]
      exact Nat.le_refl _
    · obtain ⟨g1, _, _, _, g2, _⟩ := h.2.2.2.2.2.1 t (by omega) ht
      have := ih (par t) g1 (by omega)
      omega
def Fin (fnd : Nat → Int32) (fc : Int32) (mov : Nat → Int32) (mvs : Int32) : Prop := ∃ l, l ≤ 300 ∧ fc = nI l ∧ mvs = nI l ∧ ∀ k, k < l → fnd k = mov k
theorem fin5_ok {A : Nat → Int64} {P lim n : Nat} {Sg : Nat → Nat → Nat → Int} {par lv : Nat → Nat} {at' pa mo le hd nt stt frm by' : Nat → Int32} (hl : lim ≤ 300) (h : BK A P lim n Sg par lv at' pa mo le hd nt stt frm by') : ∀ t fu c, t < n → t < fu → f_X7_finish_5 frm fu (nI c) (nI t) = some (nI (c + lv t)) := by
  have hn := h.1
  intro t
  induction t using Nat.strongRecOn with
  | ind t ih =>
    intro fu c ht hf
    obtain ⟨w, rfl⟩ : ∃ w, fu = w + 1 := ⟨fu - 1, by omega⟩
    rw [f_X7_finish_5, if_pos (inB_n (by omega) (by decide)), cl_n (by omega)]
    by_cases z : t = 0
    · subst z
      rw [h.2.2.2.2.1.2.2, if_pos (by decide), h.2.2.2.2.1.1]
      rfl
    · obtain ⟨g1, _, g3, _, g2, _⟩ := h.2.2.2.2.2.1 t (by omega) ht
      rw [g3, if_neg (nI_pos (by omega)), if_pos (inB_n (by omega) (by decide)), show nI c + 1 = nI (c + 1) from nI_1 c, ih (par t) g1 w (c + 1) (by omega) (by omega), g2]
      congr 2
      omega
theorem path_ok {A : Nat → Int64} {P lim n : Nat} {Sg : Nat → Nat → Nat → Int} {par lv : Nat → Nat} {at' pa mo le hd nt stt frm by' : Nat → Int32} (hl : lim ≤ 300) (h : BK A P lim n Sg par lv at' pa mo le hd nt stt frm by') {L : Nat} : ∀ t fu fu' fnd mov, t < n → t < fu → t < fu' → (∀ k, lv t ≤ k → k < L → fnd k = mov k) → Ok2 (f_X5_writePlan_38 pa mo fu (nI t) (pI (lv t)) fnd) (f_X7_finish_52 frm by' fu' (pI (lv t)) (nI t) mov) (fun a b => ∀ k, k < L → a k = b k) := by
  have hn := h.1
  intro t
  induction t using Nat.strongRecOn with
  | ind t ih =>
    intro fu fu' fnd mov ht hf hf' hk
    obtain ⟨w, rfl⟩ : ∃ w, fu = w + 1 := ⟨fu - 1, by omega⟩
    obtain ⟨w', rfl⟩ : ∃ w, fu' = w + 1 := ⟨fu' - 1, by omega⟩
    rw [f_X5_writePlan_38, f_X7_finish_52, cl_n (show t < 2147483648 by omega)]
    by_cases z : t = 0
    · subst z
      rw [h.2.2.2.2.1.1] at hk ⊢
      exact Ok2.posL pI_0 (Ok2.posR (inB_n (by omega) (by decide)) (Ok2.posR (by rw [h.2.2.2.2.1.2.2]; decide) (Ok2.some (fun k hk' => hk k (Nat.zero_le _) hk'))))
    · obtain ⟨g1, gp, g3, gm, g2, _⟩ := h.2.2.2.2.2.1 t (by omega) ht
      have hlv := h.lv_le (par t) (by omega)
      obtain ⟨p1, p2, p3⟩ := pI_n (o := lv t) (by omega) (by omega)
      have em : f_X4_moveTo mo (nI t) = some (mo t) := by
        unfold f_X4_moveTo
        rw [if_pos (inB_n (by omega) (by decide)), cl_n (by omega)]
      have ep : f_X4_parentOf pa (nI t) = some (nI (par t)) := by
        unfold f_X4_parentOf
        rw [if_pos (inB_n (by omega) (by decide)), cl_n (by omega), gp]
      have e3 : pI (lv t - 1) = pI (lv (par t)) := by rw [g2]; rfl
      rw [p3, e3, p2, g3, cl_n (by omega)]
      refine Ok2.negL (by rw [← p2]; exact p1) (Ok2.LE em (Ok2.posL (inB_n (by omega) (by decide)) (Ok2.LE ep ?_)))
      refine Ok2.posR (inB_n (by omega) (by decide)) (Ok2.negR (nI_pos (by omega)) (Ok2.posR (inB_n (by omega) (by decide)) (Ok2.posR (inB_n (by omega) (by decide)) (Ok2.posR (inB_n (by omega) (by decide)) ?_))))
      refine ih (par t) g1 w w' _ _ (by omega) (by omega) (by omega) (fun k k1 k2 => ?_)
      by_cases y : k = lv t - 1
      · subst y
        rw [vu_s, vu_s, gm]
      · rw [vu_n y, vu_n y]
        exact hk k (by omega) k2
theorem fin_ok {fu : Nat} (hf : 400 ≤ fu) {A : Nat → Int64} {P lim n : Nat} {Sg : Nat → Nat → Nat → Int} {par lv : Nat → Nat} {at' pa mo le hd nt stt frm by' : Nat → Int32} (hl : lim ≤ 300) (h : BK A P lim n Sg par lv at' pa mo le hd nt stt frm by') {s : Nat} (hs : s < n) (fnd mov : Nat → Int32) (fc code : Int32) : Ok2 (f_X5_writePlan fu pa mo le fnd fc (nI s) code) (f_X7_finish fu frm by' mov (nI s) code) (fun a b => a.1 = b.1 ∧ ¬ a.1 = 0 ∧ Fin a.2.1 a.2.2 b.2 b.1) := by
  have hn := h.1
  have hlv := h.lv_le s hs
  have hle : le s = nI (lv s) := by
    by_cases z : s = 0
    · subst z
      rw [h.2.2.2.2.1.2.1, h.2.2.2.2.1.1]
      rfl
    · exact (h.2.2.2.2.2.1 s (by omega) hs).2.2.2.2.2
  have e1 : f_X4_levelOf le (nI s) = some (nI (lv s)) := by
    unfold f_X4_levelOf
    rw [if_pos (inB_n (by omega) (by decide)), cl_n (by omega), hle]
  unfold f_X5_writePlan f_X7_finish
  refine Ok2.LE e1 (Ok2.RE (fin5_ok hl h s fu 1 hs (by omega)) ?_)
  have a1 : nI (lv s) + 1 = nI (lv s + 1) := nI_1 _
  have a2 : nI (lv s + 1) - 1 = nI (lv s) := nI_pred _
  have a3 : nI (lv s + 1) - 2 = pI (lv s) := by
    unfold pI
    rw [iI_n, iI_n, show (2 : Int32) = iI 2 from rfl, show (1 : Int32) = iI 1 from rfl, iI_sub, iI_sub]
    congr 1
    omega
  rw [a1, show 1 + lv s = lv s + 1 by omega, a2, a3, cl_n (by omega)]
  refine Ok2.posL (by show nI (lv s + 1) ≤ nI 300; rw [le_n (by omega) (by omega)]; omega) (Ok2.posL (inB_n (by omega) (by decide)) (Ok2.posR (inB_n (by omega) (by decide)) (Ok2.bind (path_ok hl h (L := lv s + 1) s fu fu _ _ hs (by omega) (by omega) (fun k k1 k2 => ?_)) ?_)))
  · have : k = lv s := by omega
    subst this
    rw [vu_s, vu_s]
  · intro a b hab
    refine Ok2.some ⟨rfl, ?_, lv s + 1, by omega, rfl, rfl, hab⟩
    intro z
    replace z : nI (lv s + 1) = nI 0 := z
    rw [eq_n (by omega) (by omega)] at z
    omega
/-- a state is known to both or to none -/
theorem kn_class {A : Nat → Int64} {P lim n : Nat} {Sg : Nat → Nat → Nat → Int} {par lv : Nat → Nat} {at' pa mo le hd nt stt frm by' : Nat → Int32} (h : BK A P lim n Sg par lv at' pa mo le hd nt stt frm by') {D : Nat → Nat → Int} (hD : RowC at' n D) (hb : Bd 1000 D) : (∃ t, t < n ∧ ∀ i, i < 18 → at' (t * 18 + i) = at' (n * 18 + i)) ↔ Kn n Sg D := by
  have one : ∀ t, t < n → ∀ p, p < 6 → ∀ a, a < 3 → (at' (t * 18 + (3 * p + a)) = at' (n * 18 + (3 * p + a)) ↔ Sg t p a = D p a) := by
    intro t ht p hp a ha
    have e1 := h.2.1 t ht p hp a ha
    have e2 := hD p hp a ha
    rw [show t * 18 + (3 * p + a) = t * 18 + p * 3 + a by omega, show n * 18 + (3 * p + a) = n * 18 + p * 3 + a by omega, e1, e2]
    have b1 := (h.2.2.2.2.2.2.1 t ht).1 p hp a ha
    have b2 := hb p hp a ha
    rw [iI_eq (by omega) (by omega) (by omega) (by omega)]
  constructor
  · rintro ⟨t, ht, e⟩
    exact ⟨t, ht, fun p hp a ha => (one t ht p hp a ha).1 (e _ (by omega))⟩
  · rintro ⟨t, ht, e⟩
    refine ⟨t, ht, fun i hi => ?_⟩
    obtain ⟨p, a, hp, ha, rfl⟩ := k18 hi
    exact (one t ht p hp a ha).2 (e p hp a ha)
theorem kn_ref {A : Nat → Int64} {P lim n : Nat} (hP : P < 64) (hP0 : P ≠ 0) {Sg : Nat → Nat → Nat → Int} {par lv : Nat → Nat} {at' pa mo le hd nt stt frm by' : Nat → Int32} (h : BK A P lim n Sg par lv at' pa mo le hd nt stt frm by') {D ω : Nat → Nat → Int} (hr : Rl P ω D) (hb : Bd 1000 D) (hpin : Pin P D) : (∃ t, t < n ∧ RowR stt t (nrm P (lowP P) ω)) ↔ Kn n Sg D := by
  obtain ⟨l1, l2, _, _⟩ := lowP_ok P hP hP0
  obtain ⟨t1, t2⟩ := top_ok P hP hP0
  have nb : ∀ σ : Nat → Nat → Int, Bd 1000 σ → ∀ p a, p < 6 → a < 3 → -2000 ≤ nrm P (lowP P) σ p a ∧ nrm P (lowP P) σ p a ≤ 2000 := by
    intro σ hσ p a hp ha
    have b1 := hσ p hp a ha
    have b2 := hσ (lowP P) l1 a ha
    unfold nrm
    split <;> omega
  have e0 : ∀ p a, p < 6 → a < 3 → nrm P (lowP P) ω p a = nrm P (lowP P) D p a := fun p a hp ha => nrm_rl l1 l2 hr hp ha
  constructor
  · rintro ⟨t, ht, e⟩
    obtain ⟨b, hpt⟩ := h.2.2.2.2.2.2.1 t ht
    have e2 : ∀ p a, p < 6 → a < 3 → nrm P (lowP P) (Sg t) p a = nrm P (lowP P) D p a := by
      intro p a hp ha
      have h1 := h.2.2.2.1 t ht p hp a ha
      rw [e p hp a ha, e0 p a hp ha] at h1
      have b1 := nb _ b p a hp ha
      have b2 := nb _ hb p a hp ha
      rw [iI_eq (by omega) (by omega) (by omega) (by omega)] at h1
      exact h1.symm
    refine ⟨t, ht, fun p hp a ha => ?_⟩
    have ef : Sg t (lowP P) a = D (lowP P) a := by
      have := e2 (topP P) a t1 ha
      unfold nrm at this
      rw [t2, if_pos rfl, if_pos rfl, hpt _ t1 (Or.inr rfl) a ha, hpin _ t1 (Or.inr rfl) a ha] at this
      omega
    cases hbp : P.testBit p
    · rw [hpt p hp (Or.inl hbp) a ha, hpin p hp (Or.inl hbp) a ha]
    · have := e2 p a hp ha
      unfold nrm at this
      rw [hbp, if_pos rfl, if_pos rfl] at this
      omega
  · rintro ⟨t, ht, e⟩
    refine ⟨t, ht, fun p hp a ha => ?_⟩
    rw [h.2.2.2.1 t ht p hp a ha, e0 p a hp ha]
    unfold nrm
    rw [e p hp a ha, e _ l1 a ha]
theorem by_i : ∀ d, d < 6 → ((nI d - nI d / (2 : Int32) * (2 : Int32)) = 0 ↔ sgn d = 1) ∧ (sgn d = 1 ∨ sgn d = -1) := by decide +kernel
theorem by_dst {d : Nat} (hd : d < 6) (k : Nat) : (if (nI d - nI d / (2 : Int32) * (2 : Int32)) = 0 then nI k else (-(nI k))) = iI (dst d k) := by
  obtain ⟨h1, h2⟩ := by_i d hd
  unfold dst
  by_cases z : (nI d - nI d / (2 : Int32) * (2 : Int32)) = 0
  · rw [if_pos z, h1.1 z, Int.one_mul, iI_n]
  · have : sgn d = -1 := by
      rcases h2 with h2 | h2
      · exact absurd (h1.2 h2) z
      · exact h2
    rw [if_neg z, this, iI_n, iI_neg]
    congr 1
    omega
theorem BK.add {A : Nat → Int64} {P lim n : Nat} (hP : P < 64) (hP0 : P ≠ 0) {Sg : Nat → Nat → Nat → Int} {par lv : Nat → Nat} {at' pa mo le hd nt stt frm by' : Nat → Int32} (h : BK A P lim n Sg par lv at' pa mo le hd nt stt frm by') (hn : n < lim) {s : Nat} (hs : s < n) {G ax : Nat} {x : Int} (hG : GOK P G) (hD : RowC at' n (mvG (Sg s) G ax x)) (hb : Bd 1000 (mvG (Sg s) G ax x)) (hA : ¬ Ap A P G (mvG (Sg s) G ax x)) {hd' nt' stt' oth : Nat → Int32} (hC : ChOK at' hd' nt' (n + 1)) {ω : Nat → Nat → Int} (hr : Rl P ω (mvG (Sg s) G ax x)) (ho : RowW oth (nrm P (lowP P) ω)) (hst : ∀ j, j < 18 → stt' (n * 18 + j) = oth j) (hst2 : ∀ j, j < n * 18 → stt' j = stt j) (code : Int32) : BK A P lim (n + 1) (va_up Sg n (mvG (Sg s) G ax x)) (va_up par n s) (va_up lv n (lv s + 1)) at' (va_up pa n (nI s)) (va_up mo n code) (va_up le n (le s + 1)) hd' nt' stt' (va_up frm n (nI s)) (va_up by' n code) := by
  obtain ⟨l1, l2, _, _⟩ := lowP_ok P hP hP0
  have hle : le s = nI (lv s) := by
    by_cases z : s = 0
    · subst z
      rw [h.2.2.2.2.1.2.1, h.2.2.2.2.1.1]
      rfl
    · exact (h.2.2.2.2.2.1 s (by omega) hs).2.2.2.2.2
  obtain ⟨h1, h2, h3, h4, ⟨h5, h6, h7⟩, h8, h9, h10, h11⟩ := h
  refine ⟨⟨by omega, by omega⟩, fun t ht => ?_, hC, fun t ht => ?_, ⟨?_, ?_, ?_⟩, fun t h0 ht => ?_, fun t ht => ?_, ?_, fun t h0 ht => ?_⟩
  · by_cases z : t = n
    · subst z; rw [vu_s]; exact hD
    · rw [vu_n z]; exact h2 t (by omega)
  · by_cases z : t = n
    · subst z
      rw [vu_s]
      intro p hp a ha
      rw [hst _ (by omega), ho p hp a ha, nrm_rl l1 l2 hr hp ha]
    · rw [vu_n z]
      intro p hp a ha
      rw [hst2 _ (by omega)]
      exact h4 t (by omega) p hp a ha
  · rw [vu_n (by omega)]; exact h5
  · rw [vu_n (by omega)]; exact h6
  · rw [vu_n (by omega)]; exact h7
  · by_cases z : t = n
    · subst z
      simp only [vu_s]
      rw [vu_n (show s ≠ t by omega)]
      refine ⟨hs, trivial, trivial, trivial, rfl, ?_⟩
      rw [hle]
      exact nI_1 _
    · obtain ⟨g1, g2, g3, g4, g5, g6⟩ := h8 t h0 (by omega)
      simp only [vu_n z]
      rw [vu_n (show par t ≠ n by omega)]
      exact ⟨g1, g2, g3, g4, g5, g6⟩
  · by_cases z : t = n
    · subst z; rw [vu_s]; exact ⟨hb, (h9 s hs).2.mv hG ax x⟩
    · rw [vu_n z]; exact h9 t (by omega)
  · rw [vu_n (by omega)]; exact h10
  · by_cases z : t = n
    · subst z
      rw [vu_s, vu_s, vu_n (show s ≠ t by omega)]
      exact ⟨G, ax, x, hG, rfl, hA⟩
    · rw [vu_n z, vu_n z, vu_n (show par t ≠ n by have := (h8 t h0 (by omega)).1; omega)]
      exact h11 t h0 (by omega)
