/-! how pieces lie to each other -/
def Rl (P : Nat) (σ σ' : Nat → Nat → Int) : Prop := ∀ p q, p < 6 → q < 6 → P.testBit p = true → P.testBit q = true → ∀ a, a < 3 → σ p a - σ q a = σ' p a - σ' q a
theorem Rl.symm {P : Nat} {σ σ' : Nat → Nat → Int} (h : Rl P σ σ') : Rl P σ' σ := fun p q hp hq h1 h2 a ha => (h p q hp hq h1 h2 a ha).symm
theorem Rl.trans {P : Nat} {σ σ' σ'' : Nat → Nat → Int} (h : Rl P σ σ') (h' : Rl P σ' σ'') : Rl P σ σ'' := fun p q hp hq h1 h2 a ha => (h p q hp hq h1 h2 a ha).trans (h' p q hp hq h1 h2 a ha)
theorem Rl.mv {P : Nat} {σ σ' : Nat → Nat → Int} (h : Rl P σ σ') (G ax : Nat) (x : Int) : Rl P (mvG σ G ax x) (mvG σ' G ax x) := by
  intro p q hp hq h1 h2 a ha
  have := h p q hp hq h1 h2 a ha
  unfold mvG
  split <;> split <;> omega
theorem rl_nrm {P f : Nat} (σ : Nat → Nat → Int) : Rl P (nrm P f σ) σ := by
  intro p q hp hq h1 h2 a ha
  unfold nrm
  rw [h1, h2, if_pos rfl, if_pos rfl]
  omega
theorem nrm_rl {P f : Nat} (hf : f < 6) (hPf : P.testBit f = true) {σ σ' : Nat → Nat → Int} (h : Rl P σ σ') {p a : Nat} (hp : p < 6) (ha : a < 3) : nrm P f σ p a = nrm P f σ' p a := by
  unfold nrm
  cases hb : P.testBit p
  · rfl
  · rw [if_pos rfl, if_pos rfl]
    exact h p f hp hf hb hPf a ha
/-- the rest of a part -/
def cmpl (P G : Nat) : Nat := P &&& (G ^^^ 63)
def SubM (G P : Nat) : Prop := ∀ p, p < 6 → G.testBit p = true → P.testBit p = true
theorem cmpl_b {P G q : Nat} (hP : P < 64) (hG : G < 64) (hq : q < 6) : (cmpl P G).testBit q = true ↔ P.testBit q = true ∧ G.testBit q = false := by
  unfold cmpl
  rw [rest_b P hP G hG q hq, Bool.and_eq_true, Bool.not_eq_true']
theorem cmpl_f {P G q : Nat} (hP : P < 64) (hG : G < 64) (hq : q < 6) (hp : P.testBit q = true) : (cmpl P G).testBit q = false ↔ G.testBit q = true := by
  have := cmpl_b hP hG hq
  cases h1 : (cmpl P G).testBit q <;> cases h2 : G.testBit q
  · rw [h1, h2] at this
    exact absurd (this.2 ⟨hp, rfl⟩) (by decide)
  · exact ⟨fun _ => rfl, fun _ => rfl⟩
  · constructor
    · intro z; cases z
    · intro z; cases z
  · rw [h1, h2] at this
    exact absurd (this.1 rfl).2 (by decide)
theorem cmpl_lt {P G : Nat} (hP : P < 64) (hG : G < 64) : cmpl P G < 64 := (rest_i P hP G hG).2
theorem Hit.rl {A : Nat → Int64} {P G : Nat} {σ σ' : Nat → Nat → Int} (hGP : SubM G P) (h : Rl P σ σ') (hh : Hit A P G σ) : Hit A P G σ' := by
  obtain ⟨p, q, hp, hq, h1, h2, h3, h4⟩ := hh
  exact ⟨p, q, hp, hq, h1, h2, h3, h4.congr (fun b hb => (h p q hp hq (hGP p hp h1) h2 b hb).symm)⟩
theorem hit_co {A : Nat → Int64} {P G : Nat} {σ : Nat → Nat → Int} (hP : P < 64) (hG : G < 64) (hGP : SubM G P) (hh : Hit A P G σ) : Hit A P (cmpl P G) σ := by
  obtain ⟨p, q, hp, hq, h1, h2, h3, h4⟩ := hh
  exact ⟨q, p, hq, hp, (cmpl_b hP hG hq).2 ⟨h2, h3⟩, hGP p hp h1, (cmpl_f hP hG hp (hGP p hp h1)).2 h1, h4.sym (fun b _ => by unfold gp; omega)⟩
theorem Ap.rl {A : Nat → Int64} {P G : Nat} {σ σ' : Nat → Nat → Int} (h : Rl P σ σ') (hh : Ap A P G σ) : Ap A P G σ' := by
  obtain ⟨a, ha, hh⟩ := hh
  refine ⟨a, ha, ?_⟩
  rcases hh with hh | hh
  · left
    intro p q hp hq h1 h2 h3 h4
    have := hh p q hp hq h1 h2 h3 h4
    have := h p q hp hq h1 h3 a ha
    omega
  · right
    intro p q hp hq h1 h2 h3 h4
    have := hh p q hp hq h1 h2 h3 h4
    have := h p q hp hq h1 h3 a ha
    omega
theorem ap_co {A : Nat → Int64} {P G : Nat} {σ : Nat → Nat → Int} (hP : P < 64) (hG : G < 64) (hh : Ap A P G σ) : Ap A P (cmpl P G) σ := by
  obtain ⟨a, ha, hh⟩ := hh
  refine ⟨a, ha, ?_⟩
  rcases hh with hh | hh
  · right
    intro p q hp hq h1 h2 h3 h4
    exact hh q p hq hp h3 ((cmpl_f hP hG hq h3).1 h4) h1 ((cmpl_b hP hG hp).1 h2).2
  · left
    intro p q hp hq h1 h2 h3 h4
    exact hh q p hq hp h3 ((cmpl_f hP hG hq h3).1 h4) h1 ((cmpl_b hP hG hp).1 h2).2
theorem Ap.nohit {A : Nat → Int64} {P G : Nat} {σ : Nat → Nat → Int} (hGP : SubM G P) (hh : Ap A P G σ) : ¬ Hit A P G σ := by
  rintro ⟨p, q, hp, hq, h1, h2, h3, c, d, h4, h5, h6⟩
  obtain ⟨a, ha, hh⟩ := hh
  have e : (co a c : Int) + (σ p a - σ q a) = co a d := h6 a ha
  have k1 := lo_le (a := a) h4
  have k2 := hi_ge (a := a) h4
  have k3 := lo_le (a := a) h5
  have k4 := hi_ge (a := a) h5
  rcases hh with hh | hh
  · have := hh p q hp hq (hGP p hp h1) h1 h2 h3
    omega
  · have := hh p q hp hq (hGP p hp h1) h1 h2 h3
    omega
theorem rl_opp {P G : Nat} (hP : P < 64) (hG : G < 64) (σ : Nat → Nat → Int) (ax : Nat) (x : Int) : Rl P (mvG σ G ax x) (mvG σ (cmpl P G) ax (-x)) := by
  intro p q hp hq h1 h2 a ha
  have m : ∀ r, r < 6 → P.testBit r = true → mvG σ (cmpl P G) ax (-x) r a = mvG σ G ax x r a - (if a = ax then x else 0) := by
    intro r hr hb
    unfold mvG
    by_cases z : a = ax
    · rw [if_pos z]
      cases hg : G.testBit r
      · rw [if_pos ⟨(cmpl_b hP hG hr).2 ⟨hb, hg⟩, z⟩, if_neg (fun y => by cases y.1)]
        omega
      · rw [if_neg (fun y => by rw [(cmpl_f hP hG hr hb).2 hg] at y; cases y.1), if_pos ⟨rfl, z⟩]
        omega
    · rw [if_neg z, if_neg (fun y => z y.2), if_neg (fun y => z y.2)]
      omega
  rw [m p hp h1, m q hq h2]
  omega
theorem mvG_mvG (σ : Nat → Nat → Int) (G ax : Nat) (x y : Int) : mvG (mvG σ G ax x) G ax y = mvG σ G ax (x + y) := by
  funext p a
  unfold mvG
  by_cases z : G.testBit p = true ∧ a = ax
  · rw [if_pos z, if_pos z, if_pos z]
    omega
  · rw [if_neg z, if_neg z, if_neg z]
theorem mvG_0 (σ : Nat → Nat → Int) (G ax : Nat) : mvG σ G ax 0 = σ := by
  funext p a
  unfold mvG
  split
  · omega
  · rfl
theorem dst_s (d k : Nat) : dst d k + sgn d = dst d (k + 1) := by
  unfold dst
  rcases sgn_c d with h | h <;> rw [h] <;> omega
theorem dst_bd (d k : Nat) : -(k : Int) ≤ dst d k ∧ dst d k ≤ k := by
  unfold dst
  rcases sgn_c d with h | h <;> rw [h] <;> omega
theorem dst_x {d : Nat} (hd : d < 6) (k : Nat) : dst (d ^^^ 1) k = - dst d k := by
  unfold dst
  rw [(xor1 d hd).2.2.2.1, Int.neg_mul]
/-- the highest piece of a part -/
def topP (P : Nat) : Nat := 5 - ((List.range 6).find? (fun i => P.testBit (5 - i))).getD 0
theorem top_ok : ∀ P, P < 64 → P ≠ 0 → topP P < 6 ∧ P.testBit (topP P) = true := by decide +kernel
theorem top_g : ∀ P, P < 64 → ∀ G, G < 64 → P ≠ 0 → nI G &&& (nI P ^^^ (-1 : Int32)) = 0 → (nI (P &&& (G ^^^ 63)) ≤ nI G ↔ G.testBit (topP P) = true) := by decide +kernel
def subB (G P : Nat) : Bool := (List.range 6).all (fun p => !G.testBit p || P.testBit p)
theorem sub_g : ∀ P, P < 64 → ∀ G, G < 64 → (nI G &&& (nI P ^^^ (-1 : Int32)) = 0 ↔ subB G P = true) := by decide +kernel
theorem subB_t {G P : Nat} : subB G P = true ↔ SubM G P := by
  unfold subB SubM
  rw [List.all_eq_true]
  constructor
  · intro h p hp hb
    have := h p (List.mem_range.2 hp)
    rw [hb] at this
    simpa using this
  · intro h p hp
    cases hb : G.testBit p
    · rfl
    · rw [h p (List.mem_range.1 hp) hb]; rfl
theorem ne_bit : ∀ G, G < 64 → G ≠ 0 → lowP G < 6 ∧ G.testBit (lowP G) = true := by decide +kernel
theorem cmpl_ne : ∀ P, P < 64 → ∀ G, G < 64 → subB G P = true → G < P → P &&& (G ^^^ 63) ≠ 0 := by decide +kernel
def cmplB (P G : Nat) : Bool := !subB G P || decide (G = 0) || !G.testBit (topP P) || (decide (P &&& (G ^^^ 63) < G) && decide ((P &&& (G ^^^ 63)) < P) && decide (P &&& ((P &&& (G ^^^ 63)) ^^^ 63) = G) && !(P &&& (G ^^^ 63)).testBit (topP P))
theorem cmplB_ok : ∀ P, P < 64 → ∀ G, G < 64 → cmplB P G = true := by decide +kernel
theorem cmpl_cmp (P : Nat) (hP : P < 64) (G : Nat) (hG : G < 64) (h1 : subB G P = true) (h2 : G ≠ 0) (h3 : G.testBit (topP P) = true) : P &&& (G ^^^ 63) < G ∧ (P &&& (G ^^^ 63)) < P ∧ P &&& ((P &&& (G ^^^ 63)) ^^^ 63) = G ∧ (P &&& (G ^^^ 63)).testBit (topP P) = false := by
  have := cmplB_ok P hP G hG
  unfold cmplB at this
  rw [h1, h3, decide_eq_false h2] at this
  simp only [Bool.not_true, Bool.false_or, Bool.and_eq_true, decide_eq_true_eq, Bool.not_eq_true'] at this
  exact ⟨this.1.1.1, this.1.1.2, this.1.2, this.2⟩
/-- a group that goes: within the part, not all of it, without its highest piece -/
def GOK (P G : Nat) : Prop := G < 64 ∧ SubM G P ∧ G ≠ 0 ∧ G.testBit (topP P) = false
def Tight (A : Nat → Int64) (P : Nat) (σ : Nat → Nat → Int) : Prop := ∀ G, GOK P G → ¬ Ap A P G σ
/-- a mask out of what is said of each piece -/
def mkM (f : Nat → Bool) : Nat := (if f 0 then 1 else 0) + (if f 1 then 2 else 0) + (if f 2 then 4 else 0) + (if f 3 then 8 else 0) + (if f 4 then 16 else 0) + (if f 5 then 32 else 0)
theorem mkM_0 : ∀ b0 b1 b2 b3 b4 b5 : Bool, ((if b0 then 1 else 0) + (if b1 then 2 else 0) + (if b2 then 4 else 0) + (if b3 then 8 else 0) + (if b4 then 16 else 0) + (if b5 then 32 else 0) : Nat) < 64 ∧ ((if b0 then 1 else 0) + (if b1 then 2 else 0) + (if b2 then 4 else 0) + (if b3 then 8 else 0) + (if b4 then 16 else 0) + (if b5 then 32 else 0) : Nat).testBit 0 = b0 ∧ ((if b0 then 1 else 0) + (if b1 then 2 else 0) + (if b2 then 4 else 0) + (if b3 then 8 else 0) + (if b4 then 16 else 0) + (if b5 then 32 else 0) : Nat).testBit 1 = b1 ∧ ((if b0 then 1 else 0) + (if b1 then 2 else 0) + (if b2 then 4 else 0) + (if b3 then 8 else 0) + (if b4 then 16 else 0) + (if b5 then 32 else 0) : Nat).testBit 2 = b2 ∧ ((if b0 then 1 else 0) + (if b1 then 2 else 0) + (if b2 then 4 else 0) + (if b3 then 8 else 0) + (if b4 then 16 else 0) + (if b5 then 32 else 0) : Nat).testBit 3 = b3 ∧ ((if b0 then 1 else 0) + (if b1 then 2 else 0) + (if b2 then 4 else 0) + (if b3 then 8 else 0) + (if b4 then 16 else 0) + (if b5 then 32 else 0) : Nat).testBit 4 = b4 ∧ ((if b0 then 1 else 0) + (if b1 then 2 else 0) + (if b2 then 4 else 0) + (if b3 then 8 else 0) + (if b4 then 16 else 0) + (if b5 then 32 else 0) : Nat).testBit 5 = b5 := by decide +kernel
theorem mkM_ok (f : Nat → Bool) : mkM f < 64 ∧ ∀ p, p < 6 → (mkM f).testBit p = f p := by
  obtain ⟨h, h0, h1, h2, h3, h4, h5⟩ := mkM_0 (f 0) (f 1) (f 2) (f 3) (f 4) (f 5)
  refine ⟨h, fun p hp => ?_⟩
  have : p = 0 ∨ p = 1 ∨ p = 2 ∨ p = 3 ∨ p = 4 ∨ p = 5 := by omega
  rcases this with rfl | rfl | rfl | rfl | rfl | rfl
  · exact h0
  · exact h1
  · exact h2
  · exact h3
  · exact h4
  · exact h5
theorem pc_lt : ∀ M, M < 64 → ∀ N, N < 64 → subB M N = true → M ≠ N → pc M < pc N := by decide +kernel
theorem pc_all : ∀ M, M < 64 → 6 ≤ pc M → M = 63 := by decide +kernel
theorem b63 : ∀ p, p < 6 → (63 : Nat).testBit p = true := by decide +kernel
/-- in a state whose splits all meet, no piece is far from another -/
theorem tight_near {A : Nat → Int64} {P : Nat} (hP : P < 64) {σ : Nat → Nat → Int} (hT : ∀ G, G < 64 → SubM G P → G ≠ 0 → (∃ q, q < 6 ∧ P.testBit q = true ∧ G.testBit q = false) → ¬ Ap A P G σ) {p q a : Nat} (hp : p < 6) (hq : q < 6) (ha : a < 3) (h1 : P.testBit p = true) (h2 : P.testBit q = true) : σ p a ≤ σ q a + 15 := by
  have key : ∀ i : Nat, (∀ r, r < 6 → P.testBit r = true → σ r a ≤ σ q a + 3 * i) ∨ i + 1 ≤ pc (mkM (fun r => P.testBit r && decide (σ r a ≤ σ q a + 3 * i))) := by
    intro i
    induction i with
    | zero =>
      right
      obtain ⟨m1, m2⟩ := mkM_ok (fun r => P.testBit r && decide (σ r a ≤ σ q a + 3 * ((0 : Nat) : Int)))
      have hb := m2 q hq
      rw [h2, decide_eq_true (show σ q a ≤ σ q a + 3 * ((0 : Nat) : Int) by omega)] at hb
      apply Classical.byContradiction
      intro z
      rw [pc_0 _ m1 (by omega)] at hb
      rw [Nat.zero_testBit] at hb
      cases hb
    | succ i ih =>
      rcases ih with ih | ih
      · left
        intro r hr hb
        have := ih r hr hb
        omega
      · obtain ⟨m1, m2⟩ := mkM_ok (fun r => P.testBit r && decide (σ r a ≤ σ q a + 3 * (i : Int)))
        obtain ⟨n1, n2⟩ := mkM_ok (fun r => P.testBit r && decide (σ r a ≤ σ q a + 3 * ((i + 1 : Nat) : Int)))
        by_cases hall : ∀ r, r < 6 → P.testBit r = true → σ r a ≤ σ q a + 3 * ((i + 1 : Nat) : Int)
        · exact Or.inl hall
        · right
          have hsub : subB (mkM (fun r => P.testBit r && decide (σ r a ≤ σ q a + 3 * (i : Int)))) (mkM (fun r => P.testBit r && decide (σ r a ≤ σ q a + 3 * ((i + 1 : Nat) : Int)))) = true := by
            rw [subB_t]
            intro r hr z
            rw [m2 r hr, Bool.and_eq_true, decide_eq_true_eq] at z
            rw [n2 r hr, Bool.and_eq_true, decide_eq_true_eq]
            exact ⟨z.1, by omega⟩
          have hne : mkM (fun r => P.testBit r && decide (σ r a ≤ σ q a + 3 * (i : Int))) ≠ mkM (fun r => P.testBit r && decide (σ r a ≤ σ q a + 3 * ((i + 1 : Nat) : Int))) := by
            intro e
            obtain ⟨r, hr⟩ := Classical.not_forall.1 hall
            obtain ⟨hr6, hr⟩ := Classical.not_imp.1 hr
            obtain ⟨hrP, hr⟩ := Classical.not_imp.1 hr
            refine hT _ m1 (fun t ht z => ?_) ?_ ⟨r, hr6, hrP, ?_⟩ ⟨a, ha, Or.inr ?_⟩
            · rw [m2 t ht, Bool.and_eq_true] at z
              exact z.1
            · intro z
              rw [z] at ih
              have : pc 0 = 0 := by decide
              omega
            · rw [m2 r hr6, hrP, decide_eq_false (by omega)]
              rfl
            · intro u v hu hv u1 u2 v1 v2
              rw [m2 u hu, Bool.and_eq_true, decide_eq_true_eq] at u2
              rw [e, n2 v hv, v1, Bool.true_and, decide_eq_false_iff_not] at v2
              have := hi_lt (A u) a
              omega
          have := pc_lt _ m1 _ n1 hsub hne
          omega
  rcases key 5 with h | h
  · have := h p hp h1
    omega
  · obtain ⟨m1, m2⟩ := mkM_ok (fun r => P.testBit r && decide (σ r a ≤ σ q a + 3 * ((5 : Nat) : Int)))
    have e := pc_all _ m1 (by omega)
    have := m2 p hp
    rw [e, b63 p hp] at this
    have := this.symm
    rw [Bool.and_eq_true, decide_eq_true_eq] at this
    omega
/-- all splits of a part, once those without its highest piece are told -/
theorem tight_all {A : Nat → Int64} {P : Nat} (hP : P < 64) (hP0 : P ≠ 0) {σ : Nat → Nat → Int} (hT : Tight A P σ) : ∀ G, G < 64 → SubM G P → G ≠ 0 → (∃ q, q < 6 ∧ P.testBit q = true ∧ G.testBit q = false) → ¬ Ap A P G σ := by
  intro G hG hs h0 ⟨q, hq, q1, q2⟩ hA
  cases hb : G.testBit (topP P)
  · exact hT G ⟨hG, hs, h0, hb⟩ hA
  · obtain ⟨c1, c2, c3, c4⟩ := cmpl_cmp P hP G hG (subB_t.2 hs) h0 hb
    refine hT (cmpl P G) ⟨cmpl_lt hP hG, fun p hp z => ((cmpl_b hP hG hp).1 z).1, ?_, c4⟩ (ap_co hP hG hA)
    intro z
    have := (cmpl_b hP hG hq).2 ⟨q1, q2⟩
    rw [z, Nat.zero_testBit] at this
    cases this
/-- pieces outside a part, and its highest, lie still -/
def Pin (P : Nat) (σ : Nat → Nat → Int) : Prop := ∀ p, p < 6 → (P.testBit p = false ∨ p = topP P) → ∀ a, a < 3 → σ p a = 0
theorem Pin.mv {P G : Nat} {σ : Nat → Nat → Int} (h : Pin P σ) (hG : GOK P G) (ax : Nat) (x : Int) : Pin P (mvG σ G ax x) := by
  intro p hp hz a ha
  unfold mvG
  rw [if_neg]
  · exact h p hp hz a ha
  · rintro ⟨z, _⟩
    rcases hz with hz | rfl
    · rw [hG.2.1 p hp z] at hz
      cases hz
    · rw [hG.2.2.2] at z
      cases z
theorem near_bd {P : Nat} (hP : P < 64) (hP0 : P ≠ 0) {σ : Nat → Nat → Int} (h : Pin P σ) {K : Int} (hK : 0 ≤ K) (hn : ∀ p q a, p < 6 → q < 6 → a < 3 → P.testBit p = true → P.testBit q = true → σ p a ≤ σ q a + K) : Bd K σ := by
  obtain ⟨t1, t2⟩ := top_ok P hP hP0
  intro p hp a ha
  cases hb : P.testBit p
  · have := h p hp (Or.inl hb) a ha
    omega
  · have h1 := hn p (topP P) a hp t1 ha hb t2
    have h2 := hn (topP P) p a t1 hp ha t2 hb
    have := h (topP P) t1 (Or.inr rfl) a ha
    omega
/-- a state that came of a tight one -/
theorem child_near {A : Nat → Int64} {P G ax : Nat} (hP : P < 64) (hP0 : P ≠ 0) {σ : Nat → Nat → Int} (hT : Tight A P σ) (hG : GOK P G) {x : Int} (hA : ¬ Ap A P G (mvG σ G ax x)) {p q a : Nat} (hp : p < 6) (hq : q < 6) (ha : a < 3) (h1 : P.testBit p = true) (h2 : P.testBit q = true) : mvG σ G ax x p a ≤ mvG σ G ax x q a + 40 := by
  have near : ∀ u v, u < 6 → v < 6 → P.testBit u = true → P.testBit v = true → σ u a ≤ σ v a + 15 := fun u v hu hv u1 v1 => tight_near hP (tight_all hP hP0 hT) hu hv ha u1 v1
  have mg : ∀ u, G.testBit u = true → mvG σ G ax x u a = σ u a + (if a = ax then x else 0) := by
    intro u hu
    unfold mvG
    by_cases z : a = ax
    · rw [if_pos ⟨hu, z⟩, if_pos z]
    · rw [if_neg (fun y => z y.2), if_neg z, Int.add_zero]
  have mr : ∀ u, G.testBit u = false → mvG σ G ax x u a = σ u a := by
    intro u hu
    unfold mvG
    rw [if_neg (fun y => by rw [hu] at y; cases y.1)]
  have no : ¬ ((∀ p q, p < 6 → q < 6 → P.testBit p = true → G.testBit p = true → P.testBit q = true → G.testBit q = false → (hi (A q) a : Int) + mvG σ G ax x q a < (lo (A p) a : Int) + mvG σ G ax x p a)) ∧ ¬ (∀ p q, p < 6 → q < 6 → P.testBit p = true → G.testBit p = true → P.testBit q = true → G.testBit q = false → (hi (A p) a : Int) + mvG σ G ax x p a < (lo (A q) a : Int) + mvG σ G ax x q a) := ⟨fun z => hA ⟨a, ha, Or.inl z⟩, fun z => hA ⟨a, ha, Or.inr z⟩⟩
  have ex1 : ∃ u v, u < 6 ∧ v < 6 ∧ P.testBit u = true ∧ G.testBit u = true ∧ P.testBit v = true ∧ G.testBit v = false ∧ (lo (A u) a : Int) + mvG σ G ax x u a ≤ (hi (A v) a : Int) + mvG σ G ax x v a := by
    apply Classical.byContradiction
    intro z
    refine no.1 (fun u v hu hv u1 u2 v1 v2 => ?_)
    apply Classical.byContradiction
    intro y
    exact z ⟨u, v, hu, hv, u1, u2, v1, v2, by omega⟩
  have ex2 : ∃ u v, u < 6 ∧ v < 6 ∧ P.testBit u = true ∧ G.testBit u = true ∧ P.testBit v = true ∧ G.testBit v = false ∧ (lo (A v) a : Int) + mvG σ G ax x v a ≤ (hi (A u) a : Int) + mvG σ G ax x u a := by
    apply Classical.byContradiction
    intro z
    refine no.2 (fun u v hu hv u1 u2 v1 v2 => ?_)
    apply Classical.byContradiction
    intro y
    exact z ⟨u, v, hu, hv, u1, u2, v1, v2, by omega⟩
  obtain ⟨u, v, hu, hv, u1, u2, v1, v2, e1⟩ := ex1
  obtain ⟨u', v', hu', hv', u1', u2', v1', v2', e2⟩ := ex2
  rw [mg u u2, mr v v2] at e1
  rw [mg u' u2', mr v' v2'] at e2
  have l1 := hi_lt (A v) a
  have l2 := hi_lt (A u') a
  generalize (if a = ax then x else 0) = y at *
  cases hgp : G.testBit p <;> cases hgq : G.testBit q
  · rw [mr p hgp, mr q hgq]
    have := near p q hp hq h1 h2
    omega
  · rw [mr p hgp, mg q hgq]
    have := near p v' hp hv' h1 v1'
    have := near u' q hu' hq u1' h2
    omega
  · rw [mg p hgp, mr q hgq]
    have := near p u hp hu h1 u1
    have := near v q hv hq v1 h2
    omega
  · rw [mg p hgp, mg q hgq]
    have := near p q hp hq h1 h2
    omega
/-- far enough, all is apart -/
theorem far_ap {A : Nat → Int64} {P G d : Nat} (hd : d < 6) {σ : Nat → Nat → Int} (hb : Bd 40 σ) {k : Nat} (hk : 100 ≤ k) : Ap A P G (mvG σ G (d / 2) (dst d k)) := by
  refine ⟨d / 2, by omega, ?_⟩
  have mg : ∀ u, G.testBit u = true → mvG σ G (d / 2) (dst d k) u (d / 2) = σ u (d / 2) + dst d k := fun u hu => if_pos ⟨hu, rfl⟩
  have mr : ∀ u, G.testBit u = false → mvG σ G (d / 2) (dst d k) u (d / 2) = σ u (d / 2) := fun u hu => if_neg (fun y => by rw [hu] at y; cases y.1)
  rcases sgn_c d with h | h
  · left
    intro p q hp hq h1 h2 h3 h4
    rw [mg p h2, mr q h4]
    have := hb p hp (d / 2) (by omega)
    have := hb q hq (d / 2) (by omega)
    have := hi_lt (A q) (d / 2)
    unfold dst
    rw [h]
    omega
  · right
    intro p q hp hq h1 h2 h3 h4
    rw [mg p h2, mr q h4]
    have := hb p hp (d / 2) (by omega)
    have := hb q hq (d / 2) (by omega)
    have := hi_lt (A p) (d / 2)
    unfold dst
    rw [h]
    omega
