/-! the rooms of all pairs, and of a group -/
def rv (rom : Nat → Int32) (d p q : Nat) : Nat := (rom ((d * 6 + p) * 6 + q)).toNatClampNeg
def RE (A : Nat → Int64) (σ : Nat → Nat → Int) (rom : Nat → Int32) (d p q : Nat) : Prop := rom ((d * 6 + p) * 6 + q) = nI (rv rom d p q) ∧ PR (A p) (A q) (gp σ p q) (d / 2) (sgn d) (rv rom d p q)
def RI (A : Nat → Int64) (σ : Nat → Nat → Int) (rom : Nat → Int32) (F : Nat → Nat → Nat → Prop) : Prop := ∀ d p q, d < 6 → p < 6 → q < 6 → F d p q → RE A σ rom d p q
theorem RE_up {A : Nat → Int64} {σ : Nat → Nat → Int} {rom : Nat → Int32} {d p q m : Nat} (hm : m ≤ 500) (h : PR (A p) (A q) (gp σ p q) (d / 2) (sgn d) m) (he : rom ((d * 6 + p) * 6 + q) = nI m) : RE A σ rom d p q := by
  have e : rv rom d p q = m := by unfold rv; rw [he, cl_n (by omega)]
  unfold RE
  rw [e]
  exact ⟨he, h⟩
theorem ix_inj {d p q d' p' q' : Nat} (hp : p < 6) (hq : q < 6) (hp' : p' < 6) (hq' : q' < 6) (h : (d * 6 + p) * 6 + q = (d' * 6 + p') * 6 + q') : d = d' ∧ p = p' ∧ q = q' := by omega
theorem RI.up {A : Nat → Int64} {σ : Nat → Nat → Int} {rom : Nat → Int32} {F : Nat → Nat → Nat → Prop} (h : RI A σ rom F) {d p q m : Nat} (hd : d < 6) (hp : p < 6) (hq : q < 6) (hP : PR (A p) (A q) (gp σ p q) (d / 2) (sgn d) m) : RI A σ (va_up rom ((d * 6 + p) * 6 + q) (nI m)) (fun d' p' q' => F d' p' q' ∨ (d' = d ∧ p' = p ∧ q' = q)) := by
  intro d' p' q' h1 h2 h3 h4
  by_cases z : (d' * 6 + p') * 6 + q' = (d * 6 + p) * 6 + q
  · obtain ⟨rfl, rfl, rfl⟩ := ix_inj h2 h3 hp hq z
    exact RE_up hP.1 hP vu_s
  · have hF : F d' p' q' := by
      rcases h4 with h4 | ⟨rfl, rfl, rfl⟩
      · exact h4
      · exact absurd rfl z
    have := h d' p' q' h1 h2 h3 hF
    unfold RE rv at this ⊢
    rw [vu_n z]
    exact this
theorem RI.mono {A : Nat → Int64} {σ : Nat → Nat → Int} {rom : Nat → Int32} {F F' : Nat → Nat → Nat → Prop} (h : RI A σ rom F) (hF : ∀ d p q, d < 6 → p < 6 → q < 6 → F' d p q → F d p q) : RI A σ rom F' := fun d p q h1 h2 h3 h4 => h d p q h1 h2 h3 (hF d p q h1 h2 h3 h4)
theorem xor1 : ∀ d, d < 6 → nI d ^^^ (1 : Int32) = nI (d ^^^ 1) ∧ d ^^^ 1 < 6 ∧ (d ^^^ 1) / 2 = d / 2 ∧ sgn (d ^^^ 1) = - sgn d ∧ (d ^^^ 1) ^^^ 1 = d := by decide +kernel
theorem PR.sym {x y : Int64} {g g' : Nat → Int} {ax : Nat} {sg sg' : Int} {m : Nat} (h : PR x y g ax sg m) (hg : ∀ b, g' b = - g b) (hs : sg' = - sg) : PR y x g' ax sg' m := by
  have e : ∀ k b, gk g' ax sg' k b = - gk g ax sg k b := by
    intro k b
    unfold gk
    rw [hg, hs]
    split
    · rw [Int.neg_mul]; omega
    · rfl
  obtain ⟨h1, h2, h3⟩ := h
  refine ⟨h1, fun k q1 q2 q3 => h2 k q1 q2 (q3.sym (fun b _ => by rw [e]; omega)), ?_⟩
  rcases h3 with h3 | h3
  · exact Or.inl h3
  · exact Or.inr (h3.sym (fun b _ => e _ b))
theorem ix_room (d p q : Nat) : (nI d * 6 + nI p) * 6 + nI q = nI ((d * 6 + p) * 6 + q) := by
  rw [show (6 : Int32) = nI 6 from rfl, pk_mul, nI_add, pk_mul, nI_add]
theorem m39_ok {at' : Nat → Int32} {A : Nat → Int64} {s : Nat} {σ : Nat → Nat → Int} (hs : s ≤ 300) (h : RowC at' s σ) (hb : Bd 100 σ) {p q : Nat} (hp : p < 6) (hq : q < 6) {F : Nat → Nat → Nat → Prop} : ∀ k fu d rom, 10000 + k < fu → k + d = 6 → RI A σ rom (fun d' p' q' => F d' p' q' ∨ (d' < d ∧ p' = p ∧ q' = q) ∨ ((d' ^^^ 1) < d ∧ p' = q ∧ q' = p)) → Ok (f_X5_measureRoom_39 (nI s) (nI p) (nI q) at' A fu (nI d) rom) (fun r => RI A σ r (fun d' p' q' => F d' p' q' ∨ (p' = p ∧ q' = q) ∨ (p' = q ∧ q' = p))) := by
  intro k
  induction k with
  | zero =>
    intro fu d rom hf hk hR
    obtain ⟨w, rfl⟩ : ∃ w, fu = w + 1 := ⟨fu - 1, by omega⟩
    have : d = 6 := by omega
    subst this
    rw [f_X5_measureRoom_39]
    refine Ok.pos (by decide +kernel) (Ok.some (hR.mono (fun d' p' q' h1 h2 h3 h4 => ?_)))
    rcases h4 with h4 | h4 | h4
    · exact Or.inl h4
    · exact Or.inr (Or.inl ⟨h1, h4⟩)
    · exact Or.inr (Or.inr ⟨(xor1 d' h1).2.1, h4⟩)
  | succ k ih =>
    intro fu d rom hf hk hR
    obtain ⟨w, rfl⟩ : ∃ w, fu = w + 1 := ⟨fu - 1, by omega⟩
    have hd : d < 6 := by omega
    obtain ⟨x1, x2, x3, x4, x5⟩ := xor1 d hd
    rw [f_X5_measureRoom_39, show nI d + 1 = nI (d + 1) from nI_1 d]
    refine Ok.neg (nI_ge (b := 6) hd (by decide)) (Ok.bind (pair_ok (by omega) hs h hb hp hq hd) ?_)
    rintro r ⟨m, rfl, hPR⟩
    unfold f_X5_roomIndex
    refine Ok.bindE rfl ?_
    rw [x1, ix_room, ix_room, cl_n (by omega)]
    refine Ok.pos (inB_n (by omega) (by decide)) (Ok.bindE rfl ?_)
    rw [cl_n (by omega)]
    refine Ok.pos (inB_n (by omega) (by decide)) (ih w (d + 1) _ (by omega) (by omega) ?_)
    have h1 := hR.up hd hp hq hPR
    have h2 := h1.up (d := d ^^^ 1) (p := q) (q := p) (m := m) x2 hq hp (by rw [x3]; exact hPR.sym (fun b => by unfold gp; omega) x4)
    refine h2.mono (fun d' p' q' g1 g2 g3 g4 => ?_)
    rcases g4 with g4 | ⟨g4, g5⟩ | ⟨g4, g5⟩
    · exact Or.inl (Or.inl (Or.inl g4))
    · by_cases z : d' = d
      · exact Or.inl (Or.inr ⟨z, g5⟩)
      · exact Or.inl (Or.inl (Or.inr (Or.inl ⟨by omega, g5⟩)))
    · by_cases z : d' ^^^ 1 = d
      · refine Or.inr ⟨?_, g5⟩
        have := (xor1 d' g1).2.2.2.2
        rw [z] at this
        exact this.symm
      · exact Or.inl (Or.inl (Or.inr (Or.inr ⟨by omega, g5⟩)))
theorem bit2 : ∀ P, P < 64 → ∀ p, p < 6 → ∀ q, q < 6 → (((nI P >>> (nI p &&& 31)) &&& (nI P >>> (nI q &&& 31))) &&& (1 : Int32) = 0 ↔ (P.testBit p && P.testBit q) = false) := by decide +kernel
/-- the pairs of a part, up to a piece and another -/
def FR (P p q : Nat) : Nat → Nat → Nat → Prop := fun _ p' q' => P.testBit p' = true ∧ P.testBit q' = true ∧ p' ≠ q' ∧ ((p' < p ∨ (p' = p ∧ q' < q)) ∨ (q' < p ∨ (q' = p ∧ p' < q)))
theorem m12_ok {at' : Nat → Int32} {A : Nat → Int64} {s P : Nat} {σ : Nat → Nat → Int} (hs : s ≤ 300) (hP : P < 64) (h : RowC at' s σ) (hb : Bd 100 σ) {p : Nat} (hp : p < 6) : ∀ k fu q rom, 10100 + k < fu → k + q = 6 → p < q → RI A σ rom (FR P p q) → Ok (f_X5_measureRoom_12 (nI s) (nI p) at' A (nI P) fu (nI q) rom) (fun r => RI A σ r (FR P p 6)) := by
  intro k
  induction k with
  | zero =>
    intro fu q rom hf hk hpq hR
    obtain ⟨w, rfl⟩ : ∃ w, fu = w + 1 := ⟨fu - 1, by omega⟩
    have : q = 6 := by omega
    subst this
    rw [f_X5_measureRoom_12]
    exact Ok.pos (by decide +kernel) (Ok.some hR)
  | succ k ih =>
    intro fu q rom hf hk hpq hR
    obtain ⟨w, rfl⟩ : ∃ w, fu = w + 1 := ⟨fu - 1, by omega⟩
    have hq : q < 6 := by omega
    rw [f_X5_measureRoom_12, show nI q + 1 = nI (q + 1) from nI_1 q]
    refine Ok.neg (nI_ge (b := 6) hq (by decide)) (Ok.ite (fun z => ?_) (fun z => ?_))
    · rw [bit2 P hP p hp q hq] at z
      refine ih w (q + 1) rom (by omega) (by omega) (by omega) (hR.mono (fun d' p' q' g1 g2 g3 ⟨g4, g5, g6, g7⟩ => ⟨g4, g5, g6, ?_⟩))
      by_cases y : (p' = p ∧ q' = q) ∨ (q' = p ∧ p' = q)
      · exfalso
        rcases y with ⟨rfl, rfl⟩ | ⟨rfl, rfl⟩
        · rw [g4, g5] at z; cases z
        · rw [g4, g5] at z; cases z
      · omega
    · refine Ok.bind (m39_ok hs h hb hp hq (F := FR P p q) 6 w 0 rom (by omega) (by omega) (hR.mono (fun d' p' q' g1 g2 g3 g4 => ?_))) ?_
      · rcases g4 with g4 | ⟨g4, _⟩ | ⟨g4, _⟩
        · exact g4
        · exact absurd g4 (by omega)
        · exact absurd g4 (by omega)
      · intro r hr
        refine ih w (q + 1) r (by omega) (by omega) (by omega) (hr.mono (fun d' p' q' g1 g2 g3 ⟨g4, g5, g6, g7⟩ => ?_))
        by_cases y : (p' = p ∧ q' = q) ∨ (p' = q ∧ q' = p)
        · exact Or.inr y
        · exact Or.inl ⟨g4, g5, g6, by omega⟩
theorem m2_ok {at' : Nat → Int32} {A : Nat → Int64} {s P : Nat} {σ : Nat → Nat → Int} (hs : s ≤ 300) (hP : P < 64) (h : RowC at' s σ) (hb : Bd 100 σ) : ∀ k fu p rom, 10200 + k < fu → k + p = 6 → RI A σ rom (FR P p 0) → Ok (f_X5_measureRoom_2 (nI s) at' A (nI P) fu (nI p) rom) (fun r => RI A σ r (FR P 6 0)) := by
  intro k
  induction k with
  | zero =>
    intro fu p rom hf hk hR
    obtain ⟨w, rfl⟩ : ∃ w, fu = w + 1 := ⟨fu - 1, by omega⟩
    have : p = 6 := by omega
    subst this
    rw [f_X5_measureRoom_2]
    exact Ok.pos (by decide +kernel) (Ok.some hR)
  | succ k ih =>
    intro fu p rom hf hk hR
    obtain ⟨w, rfl⟩ : ∃ w, fu = w + 1 := ⟨fu - 1, by omega⟩
    have hp : p < 6 := by omega
    rw [f_X5_measureRoom_2, show nI p + 1 = nI (p + 1) from nI_1 p]
    refine Ok.neg (nI_ge (b := 6) hp (by decide)) (Ok.bind (m12_ok hs hP h hb hp (5 - p) w (p + 1) rom (by omega) (by omega) (by omega) (hR.mono (fun d' p' q' g1 g2 g3 ⟨g4, g5, g6, g7⟩ => ⟨g4, g5, g6, by omega⟩))) ?_)
    intro r hr
    exact ih w (p + 1) r (by omega) (by omega) (hr.mono (fun d' p' q' g1 g2 g3 ⟨g4, g5, g6, g7⟩ => ⟨g4, g5, g6, by omega⟩))
/-- the rooms of a state, between all pieces of a part -/
def RomOK (A : Nat → Int64) (P : Nat) (σ : Nat → Nat → Int) (rom : Nat → Int32) : Prop := ∀ d p q, d < 6 → p < 6 → q < 6 → P.testBit p = true → P.testBit q = true → p ≠ q → RE A σ rom d p q
theorem measureRoom_ok {fu : Nat} (hf : 11000 ≤ fu) {at' : Nat → Int32} {A : Nat → Int64} {s P : Nat} {σ : Nat → Nat → Int} (hs : s ≤ 300) (hP : P < 64) (h : RowC at' s σ) (hb : Bd 100 σ) (rom : Nat → Int32) : Ok (f_X5_measureRoom fu at' A rom (nI P) (nI s)) (RomOK A P σ) := by
  unfold f_X5_measureRoom
  refine Ok.bind (m2_ok hs hP h hb 6 fu 0 rom (by omega) (by omega) (fun d p q h1 h2 h3 h4 => ?_)) (fun r hr => Ok.some (fun d p q h1 h2 h3 h4 h5 h6 => hr d p q h1 h2 h3 ⟨h4, h5, h6, Or.inl (Or.inl h2)⟩))
  obtain ⟨_, _, _, g⟩ := h4
  omega
theorem low_clr : ∀ L, L < 64 → L ≠ 0 → nI L &&& (nI L - 1) = nI (clrB L (lowP L)) := by decide +kernel
theorem g37_ok {rom : Nat → Int32} {d p : Nat} (hd : d < 6) (hp : p < 6) : ∀ k fu L m, k < fu → pc L ≤ k → L < 64 → m ≤ 500 → (∀ q, q < 6 → L.testBit q = true → rom ((d * 6 + p) * 6 + q) = nI (rv rom d p q) ∧ rv rom d p q ≤ 500) → Ok (f_X5_roomOfGroup_37 (nI ((d * 6 + p) * 6 + 0)) rom fu (nI m) (nI L)) (fun r => ∃ m', r = nI m' ∧ m' ≤ m ∧ (∀ q, q < 6 → L.testBit q = true → m' ≤ rv rom d p q) ∧ (m' = m ∨ ∃ q, q < 6 ∧ L.testBit q = true ∧ m' = rv rom d p q)) := by
  intro k
  induction k with
  | zero =>
    intro fu L m hf hk hL hm h
    obtain ⟨w, rfl⟩ : ∃ w, fu = w + 1 := ⟨fu - 1, by omega⟩
    have := pc_0 L hL (by omega)
    subst this
    rw [f_X5_roomOfGroup_37]
    exact Ok.pos rfl (Ok.some ⟨m, rfl, Nat.le_refl _, fun q _ z => absurd z (by rw [Nat.zero_testBit]; decide), Or.inl rfl⟩)
  | succ k ih =>
    intro fu L m hf hk hL hm h
    obtain ⟨w, rfl⟩ : ∃ w, fu = w + 1 := ⟨fu - 1, by omega⟩
    rw [f_X5_roomOfGroup_37]
    by_cases h0 : L = 0
    · subst h0
      exact Ok.pos rfl (Ok.some ⟨m, rfl, Nat.le_refl _, fun q _ z => absurd z (by rw [Nat.zero_testBit]; decide), Or.inl rfl⟩)
    · obtain ⟨l1, l2, l3, l4⟩ := lowP_ok L hL h0
      obtain ⟨r1, r2⟩ := h _ l1 l2
      refine Ok.neg (fun z => h0 (by replace z : nI L = nI 0 := z; rwa [eq_n (by omega) (by omega)] at z)) (Ok.bindE l4 ?_)
      rw [nI_add, Nat.add_zero, cl_n (by omega), r1, low_clr L hL h0]
      have hcl := clrB_lt L hL _ l1
      have hpc := clrB_pc L hL _ l1 l2
      have hbits : ∀ q, q < 6 → (clrB L (lowP L)).testBit q = true → L.testBit q = true := by
        intro q hq z
        rw [clrB_b0 L hL _ l1 q hq, Bool.and_eq_true] at z
        exact z.1
      have hmin : ∃ m1, (if nI (rv rom d p (lowP L)) < nI m then nI (rv rom d p (lowP L)) else nI m) = nI m1 ∧ m1 ≤ m ∧ m1 ≤ rv rom d p (lowP L) ∧ (m1 = m ∨ m1 = rv rom d p (lowP L)) := by
        by_cases z : rv rom d p (lowP L) < m
        · exact ⟨_, if_pos (by rw [lt_n (by omega) (by omega)]; exact z), by omega, by omega, Or.inr rfl⟩
        · exact ⟨_, if_neg (by rw [lt_n (by omega) (by omega)]; exact z), by omega, by omega, Or.inl rfl⟩
      obtain ⟨m1, e1, e2, e3, e4⟩ := hmin
      rw [e1]
      refine Ok.pos (inB_n (by omega) (by decide)) (Ok.mono (ih w _ m1 (by omega) (by omega) hcl (by omega) (fun q hq z => h q hq (hbits q hq z))) ?_)
      rintro r ⟨m', f1, f2, f3, f4⟩
      refine ⟨m', f1, by omega, fun q hq z => ?_, ?_⟩
      · by_cases y : q = lowP L
        · subst y; omega
        · refine f3 q hq ?_
          rw [clrB_b0 L hL _ l1 q hq, z, decide_eq_false y]
          rfl
      · rcases f4 with rfl | ⟨q, g1, g2, g3⟩
        · rcases e4 with e4 | e4
          · exact Or.inl e4
          · exact Or.inr ⟨_, l1, l2, e4⟩
        · exact Or.inr ⟨q, g1, hbits q g1 g2, g3⟩
theorem g17_ok {rom : Nat → Int32} {d R : Nat} (hd : d < 6) (hR : R < 64) : ∀ k fu L m, 10 + k < fu → pc L ≤ k → L < 64 → m ≤ 500 → (∀ p, p < 6 → L.testBit p = true → ∀ q, q < 6 → R.testBit q = true → rom ((d * 6 + p) * 6 + q) = nI (rv rom d p q) ∧ rv rom d p q ≤ 500) → Ok (f_X5_roomOfGroup_17 (nI d) (nI R) rom fu (nI m) (nI L)) (fun r => ∃ m', (r = .inl (nI m') ∨ r = .inr (nI m')) ∧ m' ≤ m ∧ (∀ p, p < 6 → L.testBit p = true → ∀ q, q < 6 → R.testBit q = true → m' ≤ rv rom d p q) ∧ (m' = m ∨ ∃ p q, p < 6 ∧ L.testBit p = true ∧ q < 6 ∧ R.testBit q = true ∧ m' = rv rom d p q)) := by
  intro k
  induction k with
  | zero =>
    intro fu L m hf hk hL hm h
    obtain ⟨w, rfl⟩ : ∃ w, fu = w + 1 := ⟨fu - 1, by omega⟩
    have := pc_0 L hL (by omega)
    subst this
    rw [f_X5_roomOfGroup_17]
    exact Ok.pos rfl (Ok.some ⟨m, Or.inr rfl, Nat.le_refl _, fun q _ z => absurd z (by rw [Nat.zero_testBit]; decide), Or.inl rfl⟩)
  | succ k ih =>
    intro fu L m hf hk hL hm h
    obtain ⟨w, rfl⟩ : ∃ w, fu = w + 1 := ⟨fu - 1, by omega⟩
    rw [f_X5_roomOfGroup_17]
    by_cases h0 : L = 0
    · subst h0
      exact Ok.pos rfl (Ok.some ⟨m, Or.inr rfl, Nat.le_refl _, fun q _ z => absurd z (by rw [Nat.zero_testBit]; decide), Or.inl rfl⟩)
    · obtain ⟨l1, l2, l3, l4⟩ := lowP_ok L hL h0
      refine Ok.neg (fun z => h0 (by replace z : nI L = nI 0 := z; rwa [eq_n (by omega) (by omega)] at z)) (Ok.bindE l4 ?_)
      unfold f_X5_roomIndex
      have e0 : (nI d * 6 + nI (lowP L)) * 6 + 0 = nI ((d * 6 + lowP L) * 6 + 0) := ix_room d (lowP L) 0
      refine Ok.bindE rfl ?_
      rw [e0, low_clr L hL h0]
      have hcl := clrB_lt L hL _ l1
      have hpc := clrB_pc L hL _ l1 l2
      have hbits : ∀ q, q < 6 → (clrB L (lowP L)).testBit q = true → L.testBit q = true := by
        intro q hq z
        rw [clrB_b0 L hL _ l1 q hq, Bool.and_eq_true] at z
        exact z.1
      refine Ok.bind (g37_ok hd l1 6 w R m (by omega) (pc_6 R hR) hR hm (fun q hq z => h _ l1 l2 q hq z)) ?_
      rintro r ⟨m1, rfl, e2, e3, e4⟩
      have e5 : m1 = m ∨ ∃ p q, p < 6 ∧ L.testBit p = true ∧ q < 6 ∧ R.testBit q = true ∧ m1 = rv rom d p q := by
        rcases e4 with e4 | ⟨q, g1, g2, g3⟩
        · exact Or.inl e4
        · exact Or.inr ⟨_, q, l1, l2, g1, g2, g3⟩
      refine Ok.ite (fun z => ?_) (fun z => ?_)
      · replace z : nI m1 = nI 0 := z
        rw [eq_n (by omega) (by omega)] at z
        subst z
        exact Ok.some ⟨0, Or.inl rfl, Nat.zero_le _, fun _ _ _ _ _ _ => Nat.zero_le _, e5⟩
      · refine Ok.mono (ih w _ m1 (by omega) (by omega) hcl (by omega) (fun p hp z q hq z2 => h p hp (hbits p hp z) q hq z2)) ?_
        rintro r ⟨m', f1, f2, f3, f4⟩
        refine ⟨m', f1, by omega, fun p hp z q hq z2 => ?_, ?_⟩
        · by_cases y : p = lowP L
          · subst y
            have := e3 q hq z2
            omega
          · refine f3 p hp ?_ q hq z2
            rw [clrB_b0 L hL _ l1 p hp, z, decide_eq_false y]
            rfl
        · rcases f4 with rfl | ⟨p, q, g1, g2, g3⟩
          · exact e5
          · exact Or.inr ⟨p, q, g1, hbits p g1 g2, g3⟩
/-- does a group meet the rest of a part -/
def Hit (A : Nat → Int64) (P G : Nat) (σ : Nat → Nat → Int) : Prop := ∃ p q, p < 6 ∧ q < 6 ∧ G.testBit p = true ∧ P.testBit q = true ∧ G.testBit q = false ∧ PH (A p) (A q) (gp σ p q)
/-- a group gone along an axis -/
def mvG (σ : Nat → Nat → Int) (G a : Nat) (k : Int) : Nat → Nat → Int := fun p x => if G.testBit p = true ∧ x = a then σ p x + k else σ p x
def dst (d k : Nat) : Int := sgn d * k
theorem mv_gk {σ : Nat → Nat → Int} {G d p q : Nat} (hp : G.testBit p = true) (hq : G.testBit q = false) (k : Nat) : ∀ b, gp (mvG σ G (d / 2) (dst d k)) p q b = gk (gp σ p q) (d / 2) (sgn d) k b := by
  intro b
  unfold gp mvG gk dst
  by_cases z : b = d / 2
  · rw [if_pos ⟨hp, z⟩, if_neg (fun y => by rw [hq] at y; cases y.1), if_pos z]
    generalize sgn d * (k : Int) = y
    show σ p b + y - σ q b = σ p b - σ q b + y
    omega
  · rw [if_neg (fun y => z y.2), if_neg (fun y => z y.2), if_neg z]
theorem rest_i : ∀ P, P < 64 → ∀ G, G < 64 → nI P &&& (nI G ^^^ (-1 : Int32)) = nI (P &&& (G ^^^ 63)) ∧ P &&& (G ^^^ 63) < 64 := by decide +kernel
theorem rest_b : ∀ P, P < 64 → ∀ G, G < 64 → ∀ q, q < 6 → (P &&& (G ^^^ 63)).testBit q = (P.testBit q && !G.testBit q) := by decide +kernel
theorem roomOfGroup_ok {fu : Nat} (hf : 100 ≤ fu) {A : Nat → Int64} {P G d : Nat} (hP : P < 64) (hG : G < 64) (hGP : ∀ p, p < 6 → G.testBit p = true → P.testBit p = true) (hd : d < 6) {σ : Nat → Nat → Int} {rom : Nat → Int32} (h : RomOK A P σ rom) : Ok (f_X5_roomOfGroup fu rom (nI P) (nI G) (nI d)) (fun r => ∃ m, r = nI m ∧ m ≤ 500 ∧ (∀ k, 1 ≤ k → k ≤ m → ¬ Hit A P G (mvG σ G (d / 2) (dst d k))) ∧ (m = 500 ∨ Hit A P G (mvG σ G (d / 2) (dst d (m + 1))))) := by
  unfold f_X5_roomOfGroup
  obtain ⟨e1, e2⟩ := rest_i P hP G hG
  rw [e1]
  have hval : ∀ p, p < 6 → G.testBit p = true → ∀ q, q < 6 → (P &&& (G ^^^ 63)).testBit q = true → RE A σ rom d p q := by
    intro p hp z q hq z2
    rw [rest_b P hP G hG q hq, Bool.and_eq_true, Bool.not_eq_true'] at z2
    exact h d p q hd hp hq (hGP p hp z) z2.1 (fun y => by rw [y, z2.2] at z; cases z)
  refine Ok.sumB (Ok.mono (g17_ok hd e2 6 fu G 500 (by omega) (pc_6 G hG) hG (by omega) (fun p hp z q hq z2 => ⟨(hval p hp z q hq z2).1, (hval p hp z q hq z2).2.1⟩)) ?_)
  rintro r ⟨m, hr, h1, h2, h3⟩
  have done : ∃ m', nI m = nI m' ∧ m' ≤ 500 ∧ (∀ k, 1 ≤ k → k ≤ m' → ¬ Hit A P G (mvG σ G (d / 2) (dst d k))) ∧ (m' = 500 ∨ Hit A P G (mvG σ G (d / 2) (dst d (m' + 1)))) := by
    refine ⟨m, rfl, h1, ?_, ?_⟩
    · rintro k k1 k2 ⟨p, q, hp, hq, g1, g2, g3, g4⟩
      have hr : (P &&& (G ^^^ 63)).testBit q = true := by rw [rest_b P hP G hG q hq, g2, g3]; rfl
      have hv := hval p hp g1 q hq hr
      have := h2 p hp g1 q hq hr
      exact hv.2.2.1 k k1 (by omega) (g4.congr (fun b _ => (mv_gk g1 g3 k b).symm))
    · rcases h3 with h3 | ⟨p, q, hp, g1, hq, g2, g3⟩
      · exact Or.inl h3
      · have hv := hval p hp g1 q hq g2
        rw [rest_b P hP G hG q hq, Bool.and_eq_true, Bool.not_eq_true'] at g2
        rcases hv.2.2.2 with y | y
        · exact Or.inl (by omega)
        · refine Or.inr ⟨p, q, hp, hq, g1, g2.1, g2.2, ?_⟩
          rw [← g3] at y
          exact y.congr (fun b _ => mv_gk g1 g2.2 (m + 1) b)
  rcases hr with rfl | rfl
  · exact done
  · exact Ok.some done
