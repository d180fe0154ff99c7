/-! how far pieces and groups can go -/
def sgn (d : Nat) : Int := if d % 2 = 0 then 1 else -1
theorem sgn_i : ∀ d, d < 6 → (if (nI d - nI d / (2 : Int32) * (2 : Int32)) = 0 then (1 : Int32) else (-1 : Int32)) = iI (sgn d) ∧ nI d / (2 : Int32) = nI (d / 2) := by decide +kernel
theorem sgn_c (d : Nat) : sgn d = 1 ∨ sgn d = -1 := by
  unfold sgn
  split
  · exact Or.inl rfl
  · exact Or.inr rfl
/-- a row of the book -/
def RowC (at' : Nat → Int32) (s : Nat) (σ : Nat → Nat → Int) : Prop := ∀ p, p < 6 → ∀ a, a < 3 → at' (s * 18 + p * 3 + a) = iI (σ p a)
def Bd (K : Int) (σ : Nat → Nat → Int) : Prop := ∀ p, p < 6 → ∀ a, a < 3 → -K ≤ σ p a ∧ σ p a ≤ K
theorem ix_row (s p a : Nat) : nI s * 18 + nI p * 3 + nI a = nI (s * 18 + p * 3 + a) := by
  rw [show (18 : Int32) = nI 18 from rfl, show (3 : Int32) = nI 3 from rfl, pk_mul, pk_mul, nI_add, nI_add]
theorem gap_ok {at' : Nat → Int32} {s : Nat} {σ : Nat → Nat → Int} (hs : s ≤ 300) (h : RowC at' s σ) {p q a : Nat} (hp : p < 6) (hq : q < 6) (ha : a < 3) : f_X5_gap at' (nI s) (nI p) (nI q) (nI a) = some (iI (σ p a - σ q a)) := by
  unfold f_X5_gap f_X4_offsets f_X4_rowOf
  show (if inB (nI s * 18 + nI p * 3 + nI a) 5418 = true then (if inB (nI s * 18 + nI q * 3 + nI a) 5418 = true then some (at' (nI s * 18 + nI p * 3 + nI a).toNatClampNeg - at' (nI s * 18 + nI q * 3 + nI a).toNatClampNeg) else none) else none) = _
  rw [ix_row, ix_row, if_pos (inB_n (by omega) (by decide)), if_pos (inB_n (by omega) (by decide)), cl_n (by omega), cl_n (by omega), h p hp a ha, h q hq a ha, iI_sub]
theorem p31_ok {at' : Nat → Int32} {s : Nat} {σ : Nat → Nat → Int} (hs : s ≤ 300) (h : RowC at' s σ) (hb : Bd 1000 σ) {p q ax : Nat} (hp : p < 6) (hq : q < 6) (hax : ax < 3) {x : Int64} : ∀ k fu i v, k < fu → k + i = 3 → (∀ d, d < 64 → (B v d = true ↔ ∃ c, B x c = true ∧ ∀ b, b < 3 → if b < i ∧ b ≠ ax then (co b c : Int) + (σ p b - σ q b) = co b d else co b c = co b d)) → Ok (f_X5_roomOfPair_31 (nI s) (nI p) (nI q) (nI ax) at' fu v (nI i)) (fun v => ∀ d, d < 64 → (B v d = true ↔ ∃ c, B x c = true ∧ ∀ b, b < 3 → if b ≠ ax then (co b c : Int) + (σ p b - σ q b) = co b d else co b c = co b d)) := by
  intro k
  induction k with
  | zero =>
    intro fu i v hf hi hv
    obtain ⟨w, rfl⟩ : ∃ w, fu = w + 1 := ⟨fu - 1, by omega⟩
    have : i = 3 := by omega
    subst this
    rw [f_X5_roomOfPair_31]
    refine Ok.pos (by decide +kernel) (Ok.some (fun d hd => (hv d hd).trans ?_))
    constructor
    · rintro ⟨c, h1, h2⟩
      refine ⟨c, h1, fun b hb => ?_⟩
      have := h2 b hb
      by_cases z : b = ax
      · rw [if_neg (fun y => y.2 z)] at this
        rw [if_neg (fun y => y z)]
        exact this
      · rw [if_pos ⟨hb, z⟩] at this
        rw [if_pos z]
        exact this
    · rintro ⟨c, h1, h2⟩
      refine ⟨c, h1, fun b hb => ?_⟩
      have := h2 b hb
      by_cases z : b = ax
      · rw [if_neg (fun y => y.2 z)]
        rw [if_neg (fun y => y z)] at this
        exact this
      · rw [if_pos ⟨hb, z⟩]
        rw [if_pos z] at this
        exact this
  | succ k ih =>
    intro fu i v hf hi hv
    obtain ⟨w, rfl⟩ : ∃ w, fu = w + 1 := ⟨fu - 1, by omega⟩
    rw [f_X5_roomOfPair_31, show nI i + 1 = nI (i + 1) from nI_1 i]
    refine Ok.neg (nI_ge (b := 3) (by omega) (by decide)) (Ok.ite (fun e => ?_) (fun e => ?_))
    · rw [eq_n (by omega) (by omega)] at e
      subst e
      refine ih w (i + 1) v (by omega) (by omega) (fun d hd => (hv d hd).trans ?_)
      constructor
      · rintro ⟨c, h1, h2⟩
        refine ⟨c, h1, fun b hb => ?_⟩
        have := h2 b hb
        by_cases z : b < i ∧ b ≠ i
        · rw [if_pos z] at this
          rw [if_pos ⟨by omega, z.2⟩]
          exact this
        · rw [if_neg z] at this
          rw [if_neg (fun y => z ⟨by omega, y.2⟩)]
          exact this
      · rintro ⟨c, h1, h2⟩
        refine ⟨c, h1, fun b hb => ?_⟩
        have := h2 b hb
        by_cases z : b < i ∧ b ≠ i
        · rw [if_pos ⟨by omega, z.2⟩] at this
          rw [if_pos z]
          exact this
        · rw [if_neg (fun y => z ⟨by omega, y.2⟩)] at this
          rw [if_neg z]
          exact this
    · rw [eq_n (by omega) (by omega)] at e
      have b1 := hb p hp i (by omega)
      have b2 := hb q hq i (by omega)
      refine Ok.bindE (gap_ok hs h hp hq (show i < 3 by omega)) (Ok.bind (shf_ok v (show i < 3 by omega) (by omega) (by omega)) ?_)
      intro v' hv'
      refine ih w (i + 1) v' (by omega) (by omega) (fun d hd => (hv' d hd).trans ?_)
      constructor
      · rintro ⟨c', h1, h2, h3⟩
        have hc' := B_lt h1
        obtain ⟨c, g1, g2⟩ := (hv c' hc').1 h1
        refine ⟨c, g1, fun b hb => ?_⟩
        have := g2 b hb
        by_cases z : b = i
        · subst z
          rw [if_neg (fun y => absurd y.1 (by omega))] at this
          rw [if_pos ⟨by omega, e⟩, this]
          exact h2
        · by_cases z2 : b < i ∧ b ≠ ax
          · rw [if_pos z2] at this
            rw [if_pos ⟨by omega, z2.2⟩, this, h3 b hb z]
          · rw [if_neg z2] at this
            rw [if_neg (fun y => z2 ⟨by omega, y.2⟩), this]
            exact h3 b hb z
      · rintro ⟨c, g1, g2⟩
        have hf4 : ∀ b, b < 3 → (if b = i then co i c else co b d) < 4 := by
          intro b hb
          split
          · exact co_lt _ _
          · exact co_lt _ _
        obtain ⟨k1, k2⟩ := cel3_ok (f := fun b => if b = i then co i c else co b d) hf4
        refine ⟨_, (hv _ k1).2 ⟨c, g1, fun b hb => ?_⟩, ?_, fun b hb z => ?_⟩
        · rw [k2 b hb]
          have := g2 b hb
          by_cases z : b = i
          · subst z
            rw [if_neg (fun y => absurd y.1 (by omega))]
            show _ = if b = b then co b c else co b d
            rw [if_pos rfl]
          · show if b < i ∧ b ≠ ax then (co b c : Int) + (σ p b - σ q b) = ((if b = i then co i c else co b d : Nat) : Int) else co b c = if b = i then co i c else co b d
            rw [if_neg z]
            by_cases z2 : b < i ∧ b ≠ ax
            · rw [if_pos ⟨by omega, z2.2⟩] at this
              rw [if_pos z2]
              exact this
            · rw [if_neg (fun y => z2 ⟨by omega, y.2⟩)] at this
              rw [if_neg z2]
              exact this
        · have := g2 i (by omega)
          rw [if_pos ⟨by omega, e⟩] at this
          rw [k2 i (by omega)]
          show ((if i = i then co i c else co i d : Nat) : Int) + _ = _
          rw [if_pos rfl]
          exact this
        · rw [k2 b hb]
          exact if_neg z
def gp (σ : Nat → Nat → Int) (p q : Nat) : Nat → Int := fun b => σ p b - σ q b
theorem meet_ok {x y v v' : Int64} {g : Nat → Int} {ax : Nat} (hax : ax < 3) {t : Int} (h1 : ∀ d, d < 64 → (B v d = true ↔ ∃ c, B x c = true ∧ ∀ b, b < 3 → if b ≠ ax then (co b c : Int) + g b = co b d else co b c = co b d)) (h2 : ∀ d, d < 64 → (B v' d = true ↔ ∃ c, B v c = true ∧ (co ax c : Int) + t = co ax d ∧ ∀ b, b < 3 → b ≠ ax → co b c = co b d)) : v' &&& y ≠ 0 ↔ PH x y (fun b => if b = ax then t else g b) := by
  rw [B_ne]
  constructor
  · rintro ⟨d, hd, q⟩
    rw [B_and, Bool.and_eq_true] at q
    obtain ⟨c', g1, g2, g3⟩ := (h2 d hd).1 q.1
    obtain ⟨c, k1, k2⟩ := (h1 c' (B_lt g1)).1 g1
    refine ⟨c, d, k1, q.2, fun b hb => ?_⟩
    have := k2 b hb
    by_cases z : b = ax
    · subst z
      rw [if_neg (fun y => y rfl)] at this
      show _ + (if b = b then t else g b) = _
      rw [if_pos rfl, this]
      exact g2
    · rw [if_pos z] at this
      show _ + (if b = ax then t else g b) = _
      rw [if_neg z, this, g3 b hb z]
  · rintro ⟨c, d, k1, k2, k3⟩
    have hd := B_lt k2
    refine ⟨d, hd, ?_⟩
    rw [B_and, Bool.and_eq_true]
    refine ⟨(h2 d hd).2 ?_, k2⟩
    have hf4 : ∀ b, b < 3 → (if b = ax then co ax c else co b d) < 4 := by
      intro b hb
      split
      · exact co_lt _ _
      · exact co_lt _ _
    obtain ⟨m1, m2⟩ := cel3_ok (f := fun b => if b = ax then co ax c else co b d) hf4
    refine ⟨_, (h1 _ m1).2 ⟨c, k1, fun b hb => ?_⟩, ?_, fun b hb z => ?_⟩
    · rw [m2 b hb]
      have : (co b c : Int) + (if b = ax then t else g b) = co b d := k3 b hb
      by_cases z : b = ax
      · subst z
        rw [if_neg (fun y => y rfl)]
        exact (if_pos rfl).symm
      · rw [if_neg z] at this
        rw [if_pos z]
        show _ = ((if b = ax then co ax c else co b d : Nat) : Int)
        rw [if_neg z]
        exact this
    · have : (co ax c : Int) + (if ax = ax then t else g ax) = co ax d := k3 ax hax
      rw [if_pos rfl] at this
      rw [m2 ax hax]
      show ((if ax = ax then co ax c else co ax d : Nat) : Int) + _ = _
      rw [if_pos rfl]
      exact this
    · rw [m2 b hb]
      exact if_neg z
theorem sg_sq {sg : Int} (h : sg = 1 ∨ sg = -1) (x k : Int) : sg * (sg * x + k) = x + sg * k := by
  rcases h with rfl | rfl <;> omega
theorem p93_ok {x v : Int64} {sts6 : Nat → Int64} {q ax : Nat} (hq : q < 6) (hax : ax < 3) {g : Nat → Int} {sg : Int} (hsg : sg = 1 ∨ sg = -1) (hg : -2000 ≤ g ax ∧ g ax ≤ 2000) (h1 : ∀ d, d < 64 → (B v d = true ↔ ∃ c, B x c = true ∧ ∀ b, b < 3 → if b ≠ ax then (co b c : Int) + g b = co b d else co b c = co b d)) : ∀ (n fu st : Nat), n < fu → 4 - sg * g ax - st ≤ n → 1 ≤ st → st ≤ 5000 → (∀ k : Nat, 1 ≤ k → k < st → ¬ PH x (sts6 q) (gk g ax sg k)) → Ok (f_X5_roomOfPair_93 (nI q) (nI ax) (iI sg) v (iI (sg * g ax)) sts6 fu (nI st)) (fun r => match r with | .inl z => ∃ m, z = nI m ∧ (m : Int) < 4 - sg * g ax ∧ (∀ k, 1 ≤ k → k ≤ m → ¬ PH x (sts6 q) (gk g ax sg k)) ∧ PH x (sts6 q) (gk g ax sg (m + 1)) | .inr _ => ∀ k, 1 ≤ k → ¬ PH x (sts6 q) (gk g ax sg k)) := by
  intro n
  have hsg2 : -2000 ≤ sg * g ax ∧ sg * g ax ≤ 2000 := by rcases hsg with rfl | rfl <;> omega
  have far : ∀ k : Nat, 4 - sg * g ax ≤ k → ¬ PH x (sts6 q) (gk g ax sg k) := by
    intro k hk h
    have := h.near hax
    have e : gk g ax sg k ax = g ax + sg * k := if_pos rfl
    rw [e] at this
    rcases hsg with rfl | rfl <;> omega
  induction n with
  | zero =>
    intro fu st hf hn h0 h3 hk
    obtain ⟨w, rfl⟩ : ∃ w, fu = w + 1 := ⟨fu - 1, by omega⟩
    rw [f_X5_roomOfPair_93, show (4 : Int32) = iI 4 from rfl, iI_sub, iI_n st]
    refine Ok.pos (by rw [iI_le (by omega) (by omega) (by omega) (by omega)]; omega) (Ok.some (fun k h4 => ?_))
    by_cases z : k < st
    · exact hk k h4 z
    · exact far k (by omega)
  | succ n ih =>
    intro fu st hf hn h0 h3 hk
    obtain ⟨w, rfl⟩ : ∃ w, fu = w + 1 := ⟨fu - 1, by omega⟩
    rw [f_X5_roomOfPair_93, show nI st + 1 = nI (st + 1) from nI_1 st, show (4 : Int32) = iI 4 from rfl, iI_sub]
    refine Ok.ite (fun e => ?_) (fun e => ?_)
    · rw [iI_n st, iI_le (by omega) (by omega) (by omega) (by omega)] at e
      refine Ok.some (fun k h4 => ?_)
      by_cases z : k < st
      · exact hk k h4 z
      · exact far k (by omega)
    · rw [iI_n st, iI_le (by omega) (by omega) (by omega) (by omega)] at e
      have e2 : iI sg * (iI (sg * g ax) + nI st) = iI (g ax + sg * st) := by
        rw [iI_n, iI_add, iI_mul, sg_sq hsg]
      rw [e2]
      refine Ok.bind (shf_ok v hax (g := g ax + sg * st) (by rcases hsg with rfl | rfl <;> omega) (by rcases hsg with rfl | rfl <;> omega)) ?_
      intro v' hv'
      have hm := meet_ok (y := sts6 q) hax h1 hv'
      have hPH : PH x (sts6 q) (fun b => if b = ax then g ax + sg * st else g b) ↔ PH x (sts6 q) (gk g ax sg st) := by
        constructor
        · intro h
          refine h.congr (fun b hb => ?_)
          unfold gk
          by_cases z : b = ax
          · subst z; rw [if_pos rfl]
            try rw [if_pos rfl]
          · rw [if_neg z]
            try rw [if_neg z]
        · intro h
          refine h.congr (fun b hb => ?_)
          unfold gk
          by_cases z : b = ax
          · subst z; rw [if_pos rfl]
            try rw [if_pos rfl]
          · rw [if_neg z]
            try rw [if_neg z]
      rw [cl_n (by omega)]
      refine Ok.pos (inB_n hq (by decide)) (Ok.ite (fun z => ?_) (fun z => ?_))
      · refine ih w (st + 1) (by omega) (by omega) (by omega) (by omega) (fun k h4 h5 => ?_)
        by_cases y : k = st
        · subst y
          intro h
          exact hm.2 (hPH.2 h) z
        · exact hk k h4 (by omega)
      · obtain ⟨m, rfl⟩ : ∃ m, st = m + 1 := ⟨st - 1, by omega⟩
        exact Ok.some ⟨m, nI_pred m, by omega, fun k h4 h5 => hk k h4 (by omega), hPH.1 (hm.1 z)⟩
theorem pair_ok {fu : Nat} (hf : 10000 ≤ fu) {at' : Nat → Int32} {sts6 : Nat → Int64} {s : Nat} {σ : Nat → Nat → Int} (hs : s ≤ 300) (h : RowC at' s σ) (hb : Bd 100 σ) {p q d : Nat} (hp : p < 6) (hq : q < 6) (hd : d < 6) : Ok (f_X5_roomOfPair fu at' sts6 (nI s) (nI p) (nI q) (nI d)) (fun r => ∃ m, r = nI m ∧ PR (sts6 p) (sts6 q) (gp σ p q) (d / 2) (sgn d) m) := by
  unfold f_X5_roomOfPair
  obtain ⟨e1, e2⟩ := sgn_i d hd
  rw [e1, e2, cl_n (by omega)]
  have hax : d / 2 < 3 := by omega
  have hb' : Bd 1000 σ := fun p hp a ha => by have := hb p hp a ha; omega
  refine Ok.pos (inB_n hp (by decide)) (Ok.bind (p31_ok hs h hb' hp hq hax (x := sts6 p) 3 fu 0 (sts6 p) (by omega) (by omega) (fun d hd => ?_)) ?_)
  · constructor
    · intro z
      exact ⟨d, z, fun b hb => by rw [if_neg (fun y => absurd y.1 (by omega))]⟩
    · rintro ⟨c, z1, z2⟩
      have : c = d := co_ext' (B_lt z1) hd (fun b hb => by
        have := z2 b hb
        rw [if_neg (fun y => absurd y.1 (by omega))] at this
        exact this)
      rw [← this]
      exact z1
  · intro v hv
    have b1 := hb p hp _ hax
    have b2 := hb q hq _ hax
    have hsg := sgn_c d
    generalize hsgn : sgn d = sg at *
    refine Ok.bindE (gap_ok hs h hp hq hax) ?_
    show Ok (sumB (f_X5_roomOfPair_93 (nI q) (nI (d / 2)) (iI sg) v (iI sg * iI (gp σ p q (d / 2))) sts6 fu (if (1 : Int32) < (-3 : Int32) - (iI sg * iI (gp σ p q (d / 2))) then (-3 : Int32) - (iI sg * iI (gp σ p q (d / 2))) else (1 : Int32))) id fun t29 => some (500 : Int32)) _
    have hgb : -200 ≤ gp σ p q (d / 2) ∧ gp σ p q (d / 2) ≤ 200 := by unfold gp; omega
    rw [iI_mul, show (-3 : Int32) = iI (-3) from rfl, iI_sub, show (1 : Int32) = iI 1 from rfl]
    have hab : -200 ≤ sg * gp σ p q (d / 2) ∧ sg * gp σ p q (d / 2) ≤ 200 := by rcases hsg with rfl | rfl <;> omega
    have hst : ∃ st : Nat, (if iI 1 < iI (-3 - sg * gp σ p q (d / 2)) then iI (-3 - sg * gp σ p q (d / 2)) else iI 1) = nI st ∧ 1 ≤ st ∧ st ≤ 300 ∧ (∀ k : Nat, 1 ≤ k → k < st → (k : Int) < -3 - sg * gp σ p q (d / 2)) := by
      by_cases z : 1 < -3 - sg * gp σ p q (d / 2)
      · refine ⟨(-3 - sg * gp σ p q (d / 2)).toNat, ?_, by omega, by omega, fun k h1 h2 => by omega⟩
        rw [if_pos (by rw [iI_lt (by omega) (by omega) (by omega) (by omega)]; exact z), iI_n]
        congr 1
        omega
      · refine ⟨1, ?_, by omega, by omega, fun k h1 h2 => by omega⟩
        rw [if_neg (by rw [iI_lt (by omega) (by omega) (by omega) (by omega)]; exact z)]
        rfl
    obtain ⟨st, e3, s1, s2, s3⟩ := hst
    rw [e3]
    refine Ok.sumB (Ok.mono (p93_ok (x := sts6 p) (v := v) (sts6 := sts6) (g := gp σ p q) hq hax hsg (by omega) hv 1000 fu st (by omega) (by omega) s1 (by omega) (fun k h1 h2 h3 => ?_)) ?_)
    · have := h3.near hax
      have e : gk (gp σ p q) (d / 2) sg k (d / 2) = gp σ p q (d / 2) + sg * k := if_pos rfl
      rw [e] at this
      have := s3 k h1 h2
      rcases hsg with rfl | rfl <;> omega
    · intro r hr
      cases r with
      | inl z =>
        obtain ⟨m, e, h1, h2, h3⟩ := hr
        exact ⟨m, e, by omega, h2, Or.inr h3⟩
      | inr z => exact Ok.some ⟨500, rfl, Nat.le_refl _, fun k h1 _ => hr k h1, Or.inl rfl⟩
