/-! the reference's search: what it begins with, and its next candidate -/
def cvI (x : Int64) : Int32 := if lowI x = 64 then -1 else nI (lowI x)
def CelOK (X : Int64) (i : Nat) (v : Int32) : Prop := (v = -1 ∧ ∀ c, i ≤ c → c < 64 → B X c = false) ∨ (∃ c, i ≤ c ∧ c < 64 ∧ v = nI c ∧ B X c = true ∧ ∀ j, i ≤ j → j < c → B X j = false)
theorem CelOK.fin {X : Int64} {v : Int32} (h : CelOK X 0 v) : v = cvI X := by
  unfold cvI
  rcases h with ⟨h1, h2⟩ | ⟨c, _, h2, h3, h4, h5⟩
  · have : X = 0 := B_zero.2 (fun c hc => h2 c (by omega) hc)
    rw [if_pos (lowI_64.2 this), h1]
  · have hx : X ≠ 0 := B_ne.2 ⟨c, h2, h4⟩
    obtain ⟨g1, g2, g3⟩ := lowI_ne hx
    have : lowI X = c := by
      apply Classical.byContradiction
      intro q
      by_cases z : lowI X < c
      · rw [h5 _ (by omega) z] at g2; cases g2
      · rw [g3 c (by omega)] at h4; cases h4
    rw [this, if_neg (by omega), h3]
def TS (tgt : Nat → Int32) (su : Int64) : Prop := ∀ c, c < 64 → (tgt c = 1 ↔ B su c = true)
theorem b10_ok {d : Nat} (hd : d < 7) {tgt : Nat → Int32} {tak : Nat → Int64} {su : Int64} (hT : TS tgt su) {cel0 : Nat → Int32} : ∀ i fu cel, i < fu → i ≤ 64 → (∀ j, j ≠ d → cel j = cel0 j) → CelOK (su &&& (tak d ^^^ (-1 : Int64))) i (cel d) → Ok (f_X7_begins_10 (nI d) tgt tak fu (pI i) cel) (fun q => (∀ j, j ≠ d → q j = cel0 j) ∧ q d = cvI (su &&& (tak d ^^^ (-1 : Int64)))) := by
  intro i
  induction i with
  | zero =>
    intro fu cel hf hi h1 h2
    obtain ⟨w, rfl⟩ : ∃ w, fu = w + 1 := ⟨fu - 1, by omega⟩
    rw [f_X7_begins_10]
    exact Ok.pos pI_0 (Ok.some ⟨h1, h2.fin⟩)
  | succ i ih =>
    intro fu cel hf hi h1 h2
    obtain ⟨w, rfl⟩ : ∃ w, fu = w + 1 := ⟨fu - 1, by omega⟩
    obtain ⟨p1, p2, p3⟩ := pI_n (o := i + 1) (by omega) (by omega)
    rw [f_X7_begins_10, p3, p2, cl_n (by omega), cl_n (by omega), show i + 1 - 1 = i by omega]
    have hX : B (su &&& (tak d ^^^ (-1 : Int64))) i = (B su i && !B (tak d) i) := by rw [B_and, B_not _ (by omega)]
    have keep : B (su &&& (tak d ^^^ (-1 : Int64))) i = false → CelOK (su &&& (tak d ^^^ (-1 : Int64))) i (cel d) := by
      intro hz
      rcases h2 with ⟨q1, q2⟩ | ⟨c, q1, q2, q3, q4, q5⟩
      · refine Or.inl ⟨q1, fun c hc hc2 => ?_⟩
        by_cases e : c = i
        · subst e; exact hz
        · exact q2 c (by omega) hc2
      · refine Or.inr ⟨c, by omega, q2, q3, q4, fun j hj hj2 => ?_⟩
        by_cases e : j = i
        · subst e; exact hz
        · exact q5 j (by omega) hj2
    refine Ok.neg (nI_pos (by omega)) (Ok.pos (inB_n (by omega) (by decide)) (Ok.ite (fun h => ?_) (fun h => ?_)))
    · rw [hT i (by omega)] at h
      refine Ok.pos (inB_n hd (by decide)) (Ok.bindE (has_ok _ (by omega)) (Ok.ite (fun q => ?_) (fun q => ?_)))
      · rw [bI_0] at q
        refine Ok.pos (inB_n hd (by decide)) (ih w _ (by omega) (by omega) (fun j hj => by rw [vu_n hj, h1 j hj]) ?_)
        rw [vu_s]
        refine Or.inr ⟨i, Nat.le_refl _, by omega, rfl, by rw [hX, h, q]; rfl, fun j hj hj2 => absurd hj2 (by omega)⟩
      · rw [bI_n0] at q
        exact ih w _ (by omega) (by omega) h1 (keep (by rw [hX, q]; simp))
    · rw [hT i (by omega), Bool.not_eq_true] at h
      exact ih w _ (by omega) (by omega) h1 (keep (by rw [hX, h]; rfl))
/-- the first piece of a mask from p on, or 6 -/
def nxP (L p : Nat) : Nat := ((List.range 6).find? (fun q => decide (p ≤ q) && L.testBit q)).getD 6
theorem nxP_s0 : ∀ L, L < 64 → ∀ p, p < 6 → nxP L p = if L.testBit p then p else nxP L (p + 1) := by decide +kernel
theorem nxP_6 : ∀ L, L < 64 → nxP L 6 = 6 ∧ nxP L 0 = lowP L := by decide +kernel
theorem nxP_le0 : ∀ L, L < 64 → ∀ p, p < 7 → nxP L p ≤ 6 := by decide +kernel
theorem nxP_b : ∀ L, L < 64 → ∀ p, p < 7 → nxP L p < 6 → L.testBit (nxP L p) = true ∧ p ≤ nxP L p := by decide +kernel
theorem nxP_z0 : ∀ L, L < 64 → ∀ p, p < 7 → ∀ q, q < 6 → (decide (p ≤ q) && decide (q < nxP L p) && L.testBit q) = false := by decide +kernel
theorem nxP_z {L p q : Nat} (hL : L < 64) (hp : p < 7) (hq : q < 6) (h1 : p ≤ q) (h2 : q < nxP L p) : L.testBit q = false := by
  have := nxP_z0 L hL p hp q hq
  simpa [h1, h2] using this
def bitP (M P q : Nat) : Bool := decide ((((nI M >>> (nI q &&& 31)) &&& (1 : Int32)) &&& ((nI P >>> (nI q &&& 31)) ^^^ (-1 : Int32))) = 0)
theorem bitP_ok : ∀ M, M < 64 → ∀ L, L < 64 → L &&& M = L → ((List.range 6).all (fun q => bitP M (M ^^^ L) q == !L.testBit q)) = true := by decide +kernel
theorem bitP_t {M L q : Nat} (hM : M < 64) (hL : L < 64) (hs : L &&& M = L) (hq : q < 6) : ((((nI M >>> (nI q &&& 31)) &&& (1 : Int32)) &&& ((nI (M ^^^ L) >>> (nI q &&& 31)) ^^^ (-1 : Int32))) = 0) ↔ L.testBit q = false := by
  have := List.all_eq_true.1 (bitP_ok M hM L hL hs) q (List.mem_range.2 hq)
  unfold bitP at this
  rw [beq_iff_eq] at this
  constructor
  · intro h
    rw [decide_eq_true h] at this
    cases hb : L.testBit q
    · rfl
    · rw [hb] at this; cases this
  · intro h
    rw [h] at this
    exact of_decide_eq_true this
theorem b52_ok {d M L : Nat} (hd : d < 7) (hM : M < 64) (hL : L < 64) (hs : L &&& M = L) {pld : Nat → Int32} (hp : pld d = nI (M ^^^ L)) : ∀ k fu p, k < fu → k + p = 6 → f_X7_begins_52 (nI d) (nI M) pld fu (nI p) = some (nI (nxP L p)) := by
  intro k
  induction k with
  | zero =>
    intro fu p hf hk
    obtain ⟨w, rfl⟩ : ∃ w, fu = w + 1 := ⟨fu - 1, by omega⟩
    have : p = 6 := by omega
    subst this
    rw [f_X7_begins_52, if_pos (by decide +kernel), (nxP_6 L hL).1]
  | succ k ih =>
    intro fu p hf hk
    obtain ⟨w, rfl⟩ : ∃ w, fu = w + 1 := ⟨fu - 1, by omega⟩
    rw [f_X7_begins_52, if_neg (show ¬ (6 : Int32) ≤ nI p from nI_ge (b := 6) (by omega) (by decide)), if_pos (inB_n hd (by decide)), cl_n (by omega), hp, nxP_s0 L hL p (by omega)]
    by_cases h : L.testBit p = true
    · rw [if_neg (fun q => by rw [bitP_t hM hL hs (by omega), h] at q; cases q), if_pos h]
    · rw [Bool.not_eq_true] at h
      rw [if_pos ((bitP_t hM hL hs (by omega)).2 h), h, show nI p + 1 = nI (p + 1) from nI_1 p]
      exact ih w (p + 1) (by omega) (by omega)
theorem s184_eq {M d : Int32} {pld : Nat → Int32} : ∀ fu q, f_X7_search_184 M d pld fu q = f_X7_begins_52 d M pld fu q := by
  intro fu
  induction fu with
  | zero => intro q; rfl
  | succ fu ih =>
    intro q
    rw [f_X7_search_184, f_X7_begins_52]
    simp only [ih]
theorem begins_ok {fu d M L : Nat} (hf : 100 ≤ fu) (hd : d < 7) (hM : M < 64) (hL : L < 64) (hs : L &&& M = L) {tgt : Nat → Int32} {tak : Nat → Int64} {su : Int64} (hT : TS tgt su) {pld cel pie nxt : Nat → Int32} (hp : pld d = nI (M ^^^ L)) : Ok (f_X7_begins fu tgt tak pld cel pie nxt (nI d) (nI M)) (fun q => (∀ j, j ≠ d → q.1 j = cel j) ∧ q.1 d = cvI (su &&& (tak d ^^^ (-1 : Int64))) ∧ q.2.1 = va_up pie d (nI (lowP L)) ∧ q.2.2 = va_up nxt d (nI 0)) := by
  unfold f_X7_begins
  rw [cl_n (by omega)]
  refine Ok.pos (inB_n hd (by decide)) (Ok.bind (b10_ok hd hT (cel0 := cel) 64 fu _ (by omega) (by omega) (fun j hj => vu_n hj) (by rw [vu_s]; exact Or.inl ⟨rfl, fun c h1 h2 => absurd h2 (by omega)⟩)) ?_)
  rintro q ⟨h1, h2⟩
  refine Ok.bindE (b52_ok hd hM hL hs hp 6 fu 0 (by omega) (by omega)) (Ok.pos (inB_n hd (by decide)) (Ok.pos (inB_n hd (by decide)) (Ok.some ⟨h1, h2, ?_, rfl⟩)))
  rw [(nxP_6 L hL).2]
/-- what is left of a node's events, from a piece and a place on -/
def restC (PL : Nat → Nat → Int64) (n : Nat → Nat) (sub : Int64 → Nat → (Nat → Int64) → List Ev) (T : Int64) (L : Nat) (ch : Nat → Int64) (cl p i : Nat) : List Ev := if p < 6 then evP PL n sub T L ch cl p (896 - i) i ++ (if cl = 64 then [] else evQ PL n sub T L ch cl (5 - p) (p + 1)) else []
theorem rest_6 {PL : Nat → Nat → Int64} {n : Nat → Nat} {sub : Int64 → Nat → (Nat → Int64) → List Ev} {T : Int64} {L : Nat} {ch : Nat → Int64} {cl p i : Nat} (h : 6 ≤ p) : restC PL n sub T L ch cl p i = [] := if_neg (by omega)
theorem evQ_nx {PL : Nat → Nat → Int64} {n : Nat → Nat} {sub : Int64 → Nat → (Nat → Int64) → List Ev} {T : Int64} {L : Nat} {ch : Nat → Int64} {cl p : Nat} (hL : L < 64) (hp : p < 7) (hcl : cl ≠ 64) : evQ PL n sub T L ch cl (6 - p) p = restC PL n sub T L ch cl (nxP L p) 0 := by
  have h6 := nxP_le0 L hL p hp
  by_cases h : nxP L p < 6
  · obtain ⟨h1, h2⟩ := nxP_b L hL p hp h
    unfold restC
    rw [if_pos h, if_neg hcl, show 6 - p = (nxP L p - p) + ((5 - nxP L p) + 1) by omega, evQ_add, evQ_nil (nxP L p - p) p (fun q g1 g2 => nxP_z hL hp (by omega) g1 (by omega)), List.nil_append, show p + (nxP L p - p) = nxP L p by omega]
    show (if L.testBit (nxP L p) then _ else _) ++ _ = _
    rw [if_pos h1]
  · rw [rest_6 (by omega), evQ_nil _ _ (fun q g1 g2 => nxP_z hL hp (by omega) g1 (by omega))]
theorem rest_next {PL : Nat → Nat → Int64} {n : Nat → Nat} {sub : Int64 → Nat → (Nat → Int64) → List Ev} {T : Int64} {L : Nat} {ch : Nat → Int64} {cl p : Nat} (hL : L < 64) (hp : p < 6) (hn : n p ≤ 896) : restC PL n sub T L ch cl p (n p) = restC PL n sub T L ch cl (if cl = 64 then 6 else nxP L (p + 1)) 0 := by
  have e : evP PL n sub T L ch cl p (896 - n p) (n p) = [] := evP_nil (fun j h1 h2 => by unfold okc; rw [decide_eq_false (by omega)]; rfl)
  rw [restC, if_pos hp, e, List.nil_append]
  by_cases h : cl = 64
  · rw [if_pos h, if_pos h, rest_6 (by omega)]
  · rw [if_neg h, if_neg h, show 5 - p = 6 - (p + 1) by omega, evQ_nx hL (by omega) h]
theorem rest_skip {PL : Nat → Nat → Int64} {n : Nat → Nat} {sub : Int64 → Nat → (Nat → Int64) → List Ev} {T : Int64} {L : Nat} {ch : Nat → Int64} {cl p i : Nat} (hp : p < 6) (hi : i < 896) (h : okc PL n cl p i = false) : restC PL n sub T L ch cl p i = restC PL n sub T L ch cl p (i + 1) := by
  unfold restC
  rw [if_pos hp, if_pos hp, show 896 - i = 1 + (896 - (i + 1)) by omega, evP_app, evP_nil (k := 1) (fun j h1 h2 => by rw [show j = i by omega]; exact h), List.nil_append]
theorem rest_take {PL : Nat → Nat → Int64} {n : Nat → Nat} {sub : Int64 → Nat → (Nat → Int64) → List Ev} {T : Int64} {L : Nat} {ch : Nat → Int64} {cl p i : Nat} (hp : p < 6) (hi : i < 896) (h : okc PL n cl p i = true) : restC PL n sub T L ch cl p i = evC PL sub T L ch p i ++ restC PL n sub T L ch cl p (i + 1) := by
  unfold restC
  rw [if_pos hp, if_pos hp, show 896 - i = (896 - (i + 1)) + 1 by omega, evP_one h, List.append_assoc]
theorem rest_start {PL : Nat → Nat → Int64} {n : Nat → Nat} {su T : Int64} {k L : Nat} {ch : Nat → Int64} (hL : L < 64) (h0 : L ≠ 0) : evs PL n su (k + 1) T L ch = restC PL n (evs PL n su k) T L ch (clO su T) (lowP L) 0 := by
  obtain ⟨l1, l2, l3, l4⟩ := lowP_ok L hL h0
  show (if L = 0 then _ else if clO su T = 64 then evP PL n (evs PL n su k) T L ch 64 (lowP L) 896 0 else evQ PL n (evs PL n su k) T L ch (clO su T) 6 0) = _
  rw [if_neg h0]
  by_cases h : clO su T = 64
  · rw [if_pos h, restC, if_pos l1, if_pos h, List.append_nil, h]
  · rw [if_neg h, ← (nxP_6 L hL).2, ← evQ_nx hL (by decide) h]
/-- what the reference's search knows of a piece -/
def RK (PL : Nat → Nat → Int64) (pls : Nat → Int32) (pl : Nat → Int64) (n : Nat → Nat) (p : Nat) : Prop := pls p = nI (n p) ∧ n p ≤ 896 ∧ ∀ j, j < n p → pl (p * 1400 + j) = PL p j
theorem cvI_neg {x : Int64} : (cvI x < 0 ↔ lowI x = 64) ∧ (0 ≤ cvI x ↔ lowI x ≠ 64) := by
  unfold cvI
  by_cases h : lowI x = 64
  · rw [if_pos h]
    exact ⟨⟨fun _ => h, fun _ => by decide⟩, ⟨fun q => absurd q (by decide), fun q => absurd h q⟩⟩
  · rw [if_neg h]
    have : lowI x < 64 := (lowI_ne (fun q => h (lowI_64.2 q))).1
    exact ⟨⟨fun q => absurd q (nI_pos (by omega)), fun q => absurd q h⟩, ⟨fun _ => h, fun _ => nI_pos' (by omega)⟩⟩
theorem s130_m {m p i p2 w : Nat} (h : (6 - p) * 900 + 897 ≤ m + i) (hi : i ≤ 896) (h1 : p + 1 ≤ p2) (h2 : p2 ≤ 6) (hf : 10 + m < w + 1) : m - 1 < m ∧ 10 + (m - 1) < w ∧ (6 - p2) * 900 + 897 ≤ m - 1 + 0 := by omega
theorem s130_ok {PL : Nat → Nat → Int64} {n : Nat → Nat} {sub : Int64 → Nat → (Nat → Int64) → List Ev} {su T : Int64} {M L d : Nat} {ch : Nat → Int64} (hd : d < 7) (hM : M < 64) (hL : L < 64) (hs : L &&& M = L) {pls : Nat → Int32} {pl : Nat → Int64} {pld cel : Nat → Int32} (hK : ∀ p, p < 6 → L.testBit p = true → RK PL pls pl n p) (hpld : pld d = nI (M ^^^ L)) (hcel : cel d = cvI (su &&& (T ^^^ (-1 : Int64)))) {pie0 nxt0 : Nat → Int32} {cho0 : Nat → Int64} : ∀ m fu p i pie nxt cho, 10 + m < fu → (6 - p) * 900 + 897 ≤ m + i → p ≤ 6 → i ≤ 896 → (p < 6 → L.testBit p = true ∧ i ≤ n p) → pie d = nI p → nxt d = nI i → (∀ j, j ≠ d → pie j = pie0 j ∧ nxt j = nxt0 j ∧ cho j = cho0 j) → Ok (f_X7_search_130 (nI M) (nI d) 0 pls pl pld cel fu 0 pie nxt cho) (fun q => (∀ j, j ≠ d → q.2.1 j = pie0 j ∧ q.2.2.1 j = nxt0 j ∧ q.2.2.2 j = cho0 j) ∧ ((q.1 = 0 ∧ restC PL n sub T L ch (clO su T) p i = []) ∨ (q.1 = 1 ∧ ∃ p' i', p' < 6 ∧ L.testBit p' = true ∧ i' < n p' ∧ q.2.1 d = nI p' ∧ q.2.2.1 d = nI (i' + 1) ∧ q.2.2.2 d = PL p' i' ∧ restC PL n sub T L ch (clO su T) p i = evC PL sub T L ch p' i' ++ restC PL n sub T L ch (clO su T) p' (i' + 1)))) := by
  intro m
  induction m using Nat.strongRecOn with
  | ind m ih =>
    intro fu p i pie nxt cho hf hm hp6 hi896 hpi hpie hnxt hfr
    obtain ⟨w, rfl⟩ : ∃ w, fu = w + 1 := ⟨fu - 1, by omega⟩
    rw [f_X7_search_130]
    simp only [cl_n (show d < 2147483648 by omega), hpie, hnxt, hcel]
    refine Ok.pos trivial (Ok.pos (inB_n hd (by decide)) (Ok.ite (fun h => ?_) (fun h => ?_)))
    · rw [show (6 : Int32) = nI 6 from rfl, le_n (by decide) (by omega)] at h
      exact Ok.some ⟨hfr, Or.inl ⟨rfl, rest_6 h⟩⟩
    · rw [show (6 : Int32) = nI 6 from rfl, le_n (by decide) (by omega)] at h
      have hp : p < 6 := by omega
      obtain ⟨hLp, hin⟩ := hpi hp
      obtain ⟨k1, k2, k3⟩ := hK p hp hLp
      simp only [cl_n (show p < 2147483648 by omega), k1]
      refine Ok.pos trivial (Ok.pos (inB_n hd (by decide)) (Ok.pos (inB_n hd (by decide)) (Ok.pos (inB_n hp (by decide)) (Ok.ite (fun h2 => ?_) (fun h2 => ?_)))))
      · rw [eq_n (by omega) (by omega)] at h2
        rw [s184_eq, show nI p + 1 = nI (p + 1) from nI_1 p]
        refine Ok.bindE (b52_ok hd hM hL hs hpld (6 - (p + 1)) w (p + 1) (by omega) (by omega)) (Ok.pos (inB_n hd (by decide)) (Ok.pos (inB_n hd (by decide)) (Ok.pos (inB_n hd (by decide)) ?_)))
        have e : (if 0 ≤ cvI (su &&& (T ^^^ (-1 : Int64))) then nI (nxP L (p + 1)) else (6 : Int32)) = nI (if clO su T = 64 then 6 else nxP L (p + 1)) := by
          by_cases z : clO su T = 64
          · rw [if_neg (fun q => cvI_neg.2.1 q z), if_pos z]; rfl
          · rw [if_pos (cvI_neg.2.2 z), if_neg z]
        rw [e]
        have hrn := rest_next (PL := PL) (n := n) (sub := sub) (T := T) (L := L) (ch := ch) (cl := clO su T) hL hp k2
        rw [← h2] at hrn
        rw [hrn]
        generalize hg : (if clO su T = 64 then 6 else nxP L (p + 1)) = p2
        have hp2 : p2 ≤ 6 ∧ p + 1 ≤ p2 ∧ (p2 < 6 → L.testBit p2 = true) := by
          rw [← hg]
          by_cases z : clO su T = 64
          · rw [if_pos z]; exact ⟨by omega, by omega, fun q => absurd q (by omega)⟩
          · rw [if_neg z]
            have := nxP_le0 L hL (p + 1) (by omega)
            refine ⟨this, ?_, fun q => (nxP_b L hL (p + 1) (by omega) q).1⟩
            by_cases y : nxP L (p + 1) < 6
            · exact (nxP_b L hL (p + 1) (by omega) y).2
            · omega
        have hm3 := s130_m hm hi896 hp2.2.1 hp2.1 hf
        exact ih (m - 1) hm3.1 w p2 0 _ _ cho hm3.2.1 hm3.2.2 hp2.1 (Nat.zero_le _) (fun q => ⟨hp2.2.2 q, Nat.zero_le _⟩) vu_s vu_s (fun j hj => by rw [vu_n hj, vu_n hj]; exact hfr j hj)
      · rw [eq_n (by omega) (by omega)] at h2
        have hlt : i < n p := by omega
        have hidx : nI p * 1400 + nI i = nI (p * 1400 + i) := by rw [show (1400 : Int32) = nI 1400 from rfl, pk_mul, nI_add]
        simp only [hidx, cl_n (show p * 1400 + i < 2147483648 by omega), k3 i hlt, vu_s, show nI i + 1 = nI (i + 1) from nI_1 i]
        have fr' : ∀ j, j ≠ d → pie j = pie0 j ∧ va_up nxt d (nI (i + 1)) j = nxt0 j ∧ va_up cho d (PL p i) j = cho0 j := fun j hj => by rw [vu_n hj, vu_n hj]; exact hfr j hj
        have done : okc PL n (clO su T) p i = true → Ok (f_X7_search_130 (nI M) (nI d) 0 pls pl pld cel w 1 pie (va_up nxt d (nI (i + 1))) (va_up cho d (PL p i))) (fun q => (∀ j, j ≠ d → q.2.1 j = pie0 j ∧ q.2.2.1 j = nxt0 j ∧ q.2.2.2 j = cho0 j) ∧ ((q.1 = 0 ∧ restC PL n sub T L ch (clO su T) p i = []) ∨ (q.1 = 1 ∧ ∃ p' i', p' < 6 ∧ L.testBit p' = true ∧ i' < n p' ∧ q.2.1 d = nI p' ∧ q.2.2.1 d = nI (i' + 1) ∧ q.2.2.2 d = PL p' i' ∧ restC PL n sub T L ch (clO su T) p i = evC PL sub T L ch p' i' ++ restC PL n sub T L ch (clO su T) p' (i' + 1)))) := by
          intro hok
          obtain ⟨w2, rfl⟩ : ∃ w2, w = w2 + 1 := ⟨w - 1, by omega⟩
          rw [f_X7_search_130]
          refine Ok.pos rfl (Ok.pos (inB_n hd (by decide)) (Ok.neg ?_ (Ok.neg (by decide) (Ok.some ⟨fr', Or.inr ⟨rfl, p, i, hp, hLp, hlt, hpie, vu_s, vu_s, rest_take hp (by omega) hok⟩⟩))))
          rw [cl_n (by omega), hpie]
          exact nI_ge (b := 6) hp (by decide)
        refine Ok.pos (inB_n hd (by decide)) (Ok.pos (inB_n (by omega) (by decide)) (Ok.pos (inB_n hd (by decide)) (Ok.pos (inB_n hd (by decide)) (Ok.pos (inB_n hd (by decide)) (Ok.pos (inB_n hd (by decide)) (Ok.ite (fun h3 => ?_) (fun h3 => ?_)))))))
        · rw [cvI_neg.1] at h3
          refine done ?_
          unfold okc
          rw [decide_eq_true hlt, show clO su T = 64 from h3]
          rfl
        · have h3' : clO su T ≠ 64 := fun q => h3 (cvI_neg.1.2 q)
          have hcl : clO su T < 64 := (lowI_ne (fun q => h3' (lowI_64.2 q))).1
          have ecv : cvI (su &&& (T ^^^ (-1 : Int64))) = nI (clO su T) := by
            unfold cvI
            exact if_neg h3'
          refine Ok.pos (inB_n hd (by decide)) (Ok.pos (inB_n hd (by decide)) ?_)
          rw [ecv]
          refine Ok.bindE (has_ok _ hcl) ?_
          have hok : okc PL n (clO su T) p i = B (PL p i) (clO su T) := by
            unfold okc
            rw [decide_eq_true hlt, decide_eq_false h3', Bool.true_and, Bool.false_or]
          by_cases hB : B (PL p i) (clO su T) = true
          · rw [if_neg (by rw [hB]; decide)]
            exact done (by rw [hok, hB])
          · rw [Bool.not_eq_true] at hB
            rw [if_pos (by rw [hB]; decide), rest_skip hp (by omega) (by rw [hok, hB])]
            exact ih (m - 1) (by omega) w p (i + 1) _ _ _ (by omega) (by omega) hp6 (by omega) (fun _ => ⟨hLp, hlt⟩) hpie vu_s fr'
