/-! has, count; what hangs together -/
theorem has_ok (x : Int64) {c : Nat} (hc : c < 64) : f_X7_has x (nI c) = some (bI (B x c)) := by
  have e : ((((x.toUInt64 >>> ((nI c).toInt64.toUInt64 &&& Int64.toUInt64 63)).toInt64) &&& (1 : Int64)) = (1 : Int64)) = (B x c = true) := by
    have h1 : B (((x.toUInt64 >>> ((nI c).toInt64.toUInt64 &&& Int64.toUInt64 63)).toInt64) &&& (1 : Int64)) 0 = B x c := by
      rw [B_and, B_shr x hc, Nat.zero_add, show B 1 0 = true by decide +kernel, Bool.and_true]
    have h2 : ∀ j, 0 < j → j < 64 → B 1 j = false := by
      intro j h0 hj
      have := B_one (k := 0) (by decide) j
      rw [show (1 : Int64) <<< ((nI 0).toInt64 &&& 63) = 1 by decide +kernel] at this
      rw [this]
      exact decide_eq_false (by omega)
    apply propext
    constructor
    · intro h
      rw [h] at h1
      rw [← h1]
      decide +kernel
    · intro h
      apply B_ext
      intro j hj
      by_cases q : j = 0
      · subst q
        rw [h1, h]
        decide +kernel
      · rw [B_and, h2 j (by omega) hj, Bool.and_false]
  unfold f_X7_has
  simp only [e]
  rw [if_pos bOk_if]
  rfl
theorem cntN_mono {a b : Nat} : ∀ m, (∀ c, c < m → a.testBit c = true → b.testBit c = true) → cntN a m ≤ cntN b m := by
  intro m
  induction m with
  | zero => intro _; exact Nat.le_refl _
  | succ m ih =>
    intro h
    have h1 := ih (fun c hc => h c (by omega))
    have h2 := h m (by omega)
    unfold cntN
    cases ha : a.testBit m
    · simp; omega
    · rw [h2 ha]; simp; omega
theorem cntN_lt {a b : Nat} : ∀ m, (∀ c, c < m → a.testBit c = true → b.testBit c = true) → (∃ c, c < m ∧ a.testBit c = false ∧ b.testBit c = true) → cntN a m < cntN b m := by
  intro m
  induction m with
  | zero => rintro _ ⟨c, h, _⟩; omega
  | succ m ih =>
    intro h ⟨c, hc, h1, h2⟩
    unfold cntN
    by_cases q : c = m
    · subst q
      have := cntN_mono c (fun j hj => h j (by omega))
      rw [h1, h2]
      simp
      omega
    · have := ih (fun j hj => h j (by omega)) ⟨c, by omega, h1, h2⟩
      have h3 := h m (by omega)
      cases ha : a.testBit m
      · simp; omega
      · rw [h3 ha]; simp; omega
/-- a set within another -/
def Sub (x y : Int64) : Prop := ∀ c, B x c = true → B y c = true
theorem cnt_mono {x y : Int64} (h : Sub x y) : cnt x ≤ cnt y := cntN_mono 64 (fun c _ => h c)
theorem cnt_lt {x y : Int64} (h : Sub x y) {c : Nat} (h1 : B x c = false) (h2 : B y c = true) : cnt x < cnt y := cntN_lt 64 (fun c _ => h c) ⟨c, B_lt h2, h1, h2⟩
theorem cnt_le (x : Int64) : cnt x ≤ 64 := cntN_le _ _
theorem cnt_pos {x : Int64} (h : x ≠ 0) : 1 ≤ cnt x := by
  obtain ⟨c, _, hc⟩ := B_ne.1 h
  have := cnt_lt (x := 0) (y := x) (fun c h => by rw [B_0] at h; cases h) (B_0 c) hc
  omega
theorem Sub.eq {x y : Int64} (h : Sub x y) (h2 : Sub y x) : x = y := B_ext (fun c _ => by
  cases h3 : B x c
  · cases h4 : B y c
    · rfl
    · rw [h2 c h4] at h3; cases h3
  · rw [h c h3])
theorem count_ok {fu : Nat} (hf : 65 ≤ fu) (x : Int64) : f_X7_count fu x = some (nI (cnt x)) := by
  have key : ∀ k n, k ≤ 64 → f_X7_count_4 x (k + 1 + n) (nI (cntN (uN x) (64 - k))) (nI (64 - k)) = some (nI (cnt x)) := by
    intro k
    induction k with
    | zero =>
      intro n _
      rw [show 0 + 1 + n = n + 1 by omega, f_X7_count_4, if_pos (show (64 : Int32) ≤ nI (64 - 0) by decide +kernel)]
      rfl
    | succ k ih =>
      intro n hk
      rw [show k + 1 + 1 + n = (k + 1 + n) + 1 by omega, f_X7_count_4, if_neg (by rw [show (64 : Int32) = nI 64 from rfl, le_n (by decide) (by omega)]; omega), has_ok x (by omega)]
      have h := ih n (by omega)
      rw [show 64 - k = 64 - (k + 1) + 1 by omega] at h
      rw [show nI (64 - (k + 1)) + 1 = nI (64 - (k + 1) + 1) from nI_1 _]
      rw [← h]
      show f_X7_count_4 x _ (if bI (B x (64 - (k + 1))) = 0 then _ else _) _ = f_X7_count_4 x _ (nI (cntN _ (64 - (k + 1)) + _)) _
      congr 1
      show (if bI ((uN x).testBit (64 - (k + 1))) = 0 then _ else _) = _
      cases (uN x).testBit (64 - (k + 1))
      · rfl
      · exact nI_1 _
  have := key 64 (fu - 65) (by omega)
  rw [show 64 + 1 + (fu - 65) = fu by omega] at this
  unfold f_X7_count
  rw [show f_X7_count_4 x fu (0 : Int32) (0 : Int32) = _ from this]
  rfl
theorem touch_ok : ∀ a, a < 64 → ∀ b, b < 64 → f_X7_touch (nI a) (nI b) = some (bI (adj b a)) := by decide +kernel
/-- closed: whatever of S touches D is in D -/
def Cl (S D : Int64) : Prop := ∀ c d, B S c = true → B D d = true → adj d c = true → B D c = true
def Gro (S F : Int64) : Prop := Sub F S ∧ Sub (S &&& (-S)) F ∧ ∀ D, Sub (S &&& (-S)) D → Cl S D → Sub F D
theorem Gro.uniq {S F G : Int64} (hF : Gro S F) (cF : Cl S F) (hG : Gro S G) (cG : Cl S G) : F = G := Sub.eq (hF.2.2 G hG.2.1 cG) (hG.2.2 F hF.2.1 cF)
theorem Gro.start {S : Int64} : Gro S (S &&& (-S)) := ⟨fun c h => by rw [B_and, Bool.and_eq_true] at h; exact h.1, fun _ h => h, fun _ h _ => h⟩
def gw (S : Int64) : Nat → Int64
  | 0 => S &&& (-S)
  | n + 1 => gw S n ||| (nb (gw S n) &&& S)
/-- what hangs with the lowest cube -/
def grow (S : Int64) : Int64 := gw S 10
theorem gw_step (S : Int64) (n c : Nat) : B (gw S (n + 1)) c = true ↔ B (gw S n) c = true ∨ (B S c = true ∧ ∃ d, B (gw S n) d = true ∧ adj d c = true) := by
  show B (gw S n ||| (nb (gw S n) &&& S)) c = true ↔ _
  rw [B_or, B_and, Bool.or_eq_true, Bool.and_eq_true]
  constructor
  · rintro (h | ⟨h1, h2⟩)
    · exact Or.inl h
    · exact Or.inr ⟨h2, (nb_B _ (B_lt h2)).1 h1⟩
  · rintro (h | ⟨h1, h2⟩)
    · exact Or.inl h
    · exact Or.inr ⟨(nb_B _ (B_lt h1)).2 h2, h1⟩
theorem gw_gro (S : Int64) : ∀ n, Gro S (gw S n) := by
  intro n
  induction n with
  | zero => exact Gro.start
  | succ n ih =>
    refine ⟨fun c h => ?_, fun c h => (gw_step S n c).2 (Or.inl (ih.2.1 c h)), fun D h1 h2 c h => ?_⟩
    · rcases (gw_step S n c).1 h with q | q
      · exact ih.1 c q
      · exact q.1
    · rcases (gw_step S n c).1 h with q | ⟨q, d, q1, q2⟩
      · exact ih.2.2 D h1 h2 c q
      · exact h2 c d q (ih.2.2 D h1 h2 d q1) q2
theorem gw_cnt {S : Int64} (h0 : S ≠ 0) : ∀ n, n + 1 ≤ cnt (gw S n) ∨ Cl S (gw S n) := by
  intro n
  induction n with
  | zero =>
    left
    obtain ⟨k, h1, h2, h3⟩ := B_low h0
    have : B (S &&& (-S)) k = true := by rw [B_iso h1 h2 h3, B_one h1]; simp
    exact cnt_pos (B_ne.2 ⟨k, h1, this⟩)
  | succ n ih =>
    by_cases hc : Cl S (gw S n)
    · right
      have e : gw S (n + 1) = gw S n := Sub.eq (fun c h => by
        rcases (gw_step S n c).1 h with q | ⟨q, d, q1, q2⟩
        · exact q
        · exact hc c d q q1 q2) (fun c h => (gw_step S n c).2 (Or.inl h))
      rw [e]
      exact hc
    · rcases ih with ih | ih
      · left
        have : ∃ c d, B S c = true ∧ B (gw S n) d = true ∧ adj d c = true ∧ B (gw S n) c = false := by
          apply Classical.byContradiction
          intro q
          apply hc
          intro c d h1 h2 h3
          cases h4 : B (gw S n) c
          · exact absurd ⟨c, d, h1, h2, h3, h4⟩ q
          · rfl
        obtain ⟨c, d, h1, h2, h3, h4⟩ := this
        have := cnt_lt (x := gw S n) (y := gw S (n + 1)) (fun c h => (gw_step S n c).2 (Or.inl h)) h4 ((gw_step S n c).2 (Or.inr ⟨h1, d, h2, h3⟩))
        omega
      · exact absurd ih hc
theorem grow_cl {S : Int64} (h0 : S ≠ 0) (h : cnt S ≤ 10) : Cl S (grow S) := by
  rcases gw_cnt h0 10 with q | q
  · have := cnt_mono (gw_gro S 10).1
    omega
  · exact q
/-- a piece is made -/
def made (S : Int64) : Bool := decide (S ≠ 0 ∧ grow S = S)
theorem hangs_ok {fu : Nat} (hf : 20 ≤ fu) (S : Int64) : f_X0_hangsTogether fu S = some (bI (made S)) := by
  have sp : ∀ m y k, 4 ≤ m → k < 10 → f_X0_hangsTogether_8 S (m + 1) y (nI k) = f_X0_hangsTogether_8 S m (y ||| (nb y &&& S)) (nI (k + 1)) := by
    intro m y k hm hk
    rw [f_X0_hangsTogether_8, neighbours_ok hm, if_neg (by rw [show (10 : Int32) = nI 10 from rfl, le_n (by decide) (by omega)]; omega), show nI k + 1 = nI (k + 1) from nI_1 k]
    rfl
  have key : ∀ k m, k ≤ 10 → f_X0_hangsTogether_8 S (m + 5 + k) (gw S (10 - k)) (nI (10 - k)) = some (grow S) := by
    intro k
    induction k with
    | zero =>
      intro m _
      rw [f_X0_hangsTogether_8, if_pos (by decide +kernel)]
      rfl
    | succ k ih =>
      intro m hk
      rw [show m + 5 + (k + 1) = (m + 5 + k) + 1 by omega, sp _ _ _ (by omega) (by omega)]
      have := ih m (by omega)
      rw [show 10 - k = 10 - (k + 1) + 1 by omega] at this
      exact this
  have := key 10 (fu - 15) (by omega)
  rw [show fu - 15 + 5 + 10 = fu by omega] at this
  unfold f_X0_hangsTogether
  rw [show f_X0_hangsTogether_8 S fu (S &&& -S) (0 : Int32) = _ from this]
  have e : (if S = (0 : Int64) then (0 : Int32) else (if grow S = S then (1 : Int32) else (0 : Int32))) = bI (made S) := by
    unfold made
    by_cases h : S = 0
    · simp [h, bI]
    · by_cases h2 : grow S = S <;> simp [h, h2, bI]
  show (if bOk (if S = (0 : Int64) then (0 : Int32) else (if grow S = S then (1 : Int32) else (0 : Int32))) = true then _ else _) = _
  rw [e, if_pos (bI_ok _)]
/-- is a cell of F beside c, from cell i on -/
def besideF (F : Int64) (c i : Nat) : Prop := ∃ d, i ≤ d ∧ B F d = true ∧ adj d c = true
theorem made58_ok {F : Int64} {c : Nat} (hc : c < 64) (hF : B F c = false) : ∀ k fu i (b : Bool), k < fu → k + i = 64 → Ok (f_X7_isMade_58 F (nI c) fu (bI b) (nI i)) (fun q => ∃ r : Bool, q = bI r ∧ (r = true ↔ (b = true ∨ besideF F c i))) := by
  intro k
  induction k with
  | zero =>
    intro fu i b hf hi
    obtain ⟨n, rfl⟩ : ∃ n, fu = n + 1 := ⟨fu - 1, by omega⟩
    have : i = 64 := by omega
    subst this
    rw [f_X7_isMade_58]
    refine Ok.pos (by decide +kernel) (Ok.some ⟨b, rfl, ?_⟩)
    constructor
    · exact Or.inl
    · rintro (h | ⟨d, h1, h2, _⟩)
      · exact h
      · have := B_lt h2; omega
  | succ k ih =>
    intro fu i b hf hi
    obtain ⟨n, rfl⟩ : ∃ n, fu = n + 1 := ⟨fu - 1, by omega⟩
    have hi64 : i < 64 := by omega
    have nx : ∀ b', Ok (f_X7_isMade_58 F (nI c) n (bI b') (nI i + 1)) (fun q => ∃ r : Bool, q = bI r ∧ (r = true ↔ (b' = true ∨ besideF F c (i + 1)))) := fun b' => by
      rw [show nI i + 1 = nI (i + 1) from nI_1 i]
      exact ih n (i + 1) b' (by omega) (by omega)
    have bs : besideF F c i ↔ (B F i = true ∧ adj i c = true) ∨ besideF F c (i + 1) := by
      constructor
      · rintro ⟨d, h1, h2⟩
        by_cases q : d = i
        · subst q; exact Or.inl h2
        · exact Or.inr ⟨d, by omega, h2⟩
      · rintro (h | ⟨d, h1, h2⟩)
        · exact ⟨i, Nat.le_refl _, h⟩
        · exact ⟨d, by omega, h2⟩
    rw [f_X7_isMade_58]
    refine Ok.neg (by rw [show (64 : Int32) = nI 64 from rfl, le_n (by decide) (by omega)]; omega) ?_
    cases b with
    | true =>
      refine Ok.neg (by decide +kernel) ((nx true).mono ?_)
      rintro q ⟨r, h1, h2⟩
      exact ⟨r, h1, h2.trans ⟨fun _ => Or.inl rfl, fun _ => Or.inl rfl⟩⟩
    | false =>
      refine Ok.pos (by decide +kernel) (Ok.bindE (has_ok F hi64) ?_)
      refine Ok.ite (fun h => ?_) (fun h => ?_)
      · rw [bI_0] at h
        refine (nx false).mono ?_
        rintro q ⟨r, h1, h2⟩
        refine ⟨r, h1, h2.trans ?_⟩
        rw [bs, h]
        simp
      · rw [bI_n0] at h
        refine Ok.bindE (touch_ok c hc i hi64) (Ok.ite (fun h' => ?_) (fun h' => ?_))
        · rw [bI_0] at h'
          refine (nx false).mono ?_
          rintro q ⟨r, h1, h2⟩
          refine ⟨r, h1, h2.trans ?_⟩
          rw [bs, h, h']
          simp
        · rw [bI_n0] at h'
          refine Ok.bindE (has_ok F hc) ?_
          rw [hF, if_pos (by decide +kernel)]
          refine (nx true).mono ?_
          rintro q ⟨r, h1, h2⟩
          refine ⟨r, h1, h2.trans ?_⟩
          rw [bs, h, h']
          simp
theorem B_set (F : Int64) {c j : Nat} (hc : c < 64) : B (F ||| ((1 : Int64) <<< ((nI c).toInt64 &&& 63))) j = (B F j || decide (j = c)) := by
  rw [B_or, B_one hc]
theorem made27_ok {S F : Int64} : ∀ k fu i, 65 + k < fu → k + i = 64 → (∀ c d, c < i → B S c = true → B F d = true → adj d c = true → B F c = true) → Ok (f_X7_isMade_27 S fu F (bI false) (nI i)) (fun q => (q = (F, bI false) ∧ Cl S F) ∨ ∃ c d, B S c = true ∧ B F c = false ∧ B F d = true ∧ adj d c = true ∧ q = (F ||| ((1 : Int64) <<< ((nI c).toInt64 &&& 63)), bI true)) := by
  intro k
  induction k with
  | zero =>
    intro fu i hf hi hcl
    obtain ⟨n, rfl⟩ : ∃ n, fu = n + 1 := ⟨fu - 1, by omega⟩
    have : i = 64 := by omega
    subst this
    rw [f_X7_isMade_27]
    exact Ok.pos (by decide +kernel) (Ok.some (Or.inl ⟨rfl, fun c d h1 h2 h3 => hcl c d (B_lt h1) h1 h2 h3⟩))
  | succ k ih =>
    intro fu i hf hi hcl
    obtain ⟨n, rfl⟩ : ∃ n, fu = n + 1 := ⟨fu - 1, by omega⟩
    have hi64 : i < 64 := by omega
    have nx := fun h => ih n (i + 1) (by omega) (by omega) h
    rw [← nI_1] at nx
    rw [f_X7_isMade_27]
    refine Ok.neg (by rw [show (64 : Int32) = nI 64 from rfl, le_n (by decide) (by omega)]; omega) (Ok.bindE (has_ok S hi64) (Ok.ite (fun h => ?_) (fun h => ?_)))
    · rw [bI_0] at h
      refine nx (fun c d hc h1 h2 h3 => ?_)
      by_cases q : c = i
      · subst q; rw [h] at h1; cases h1
      · exact hcl c d (by omega) h1 h2 h3
    · rw [bI_n0] at h
      refine Ok.bindE (has_ok F hi64) (Ok.ite (fun h' => ?_) (fun h' => ?_))
      · rw [bI_0] at h'
        refine Ok.bind (made58_ok hi64 h' 64 n 0 false (by omega) (by omega)) ?_
        rintro q ⟨r, rfl, hr⟩
        cases r with
        | false =>
          refine Ok.pos (by decide +kernel) (Ok.pos (by decide +kernel) (nx (fun c d hc h1 h2 h3 => ?_)))
          by_cases q : c = i
          · subst q
            have : false = true := hr.2 (Or.inr ⟨d, by omega, h2, h3⟩)
            cases this
          · exact hcl c d (by omega) h1 h2 h3
        | true =>
          refine Ok.neg (by decide +kernel) (Ok.neg (by decide +kernel) (Ok.some (Or.inr ?_)))
          rcases hr.1 rfl with q | ⟨d, _, h2, h3⟩
          · cases q
          · exact ⟨i, d, h, h', h2, h3, rfl⟩
      · rw [bI_n0] at h'
        refine nx (fun c d hc h1 h2 h3 => ?_)
        by_cases q : c = i
        · subst q; exact h'
        · exact hcl c d (by omega) h1 h2 h3
theorem made16_ok {S : Int64} : ∀ k fu (F : Int64) (b : Bool), 200 + k < fu → Gro S F → (b = true ∧ 66 ≤ cnt F + k ∨ b = false ∧ Cl S F) → Ok (f_X7_isMade_16 S fu F (bI b)) (fun q => Gro S q ∧ Cl S q) := by
  intro k
  induction k with
  | zero =>
    intro fu F b hf hG hb
    obtain ⟨n, rfl⟩ : ∃ n, fu = n + 1 := ⟨fu - 1, by omega⟩
    have := cnt_le F
    rcases hb with ⟨_, h⟩ | ⟨rfl, h⟩
    · omega
    · rw [f_X7_isMade_16]
      exact Ok.pos (by decide +kernel) (Ok.some ⟨hG, h⟩)
  | succ k ih =>
    intro fu F b hf hG hb
    obtain ⟨n, rfl⟩ : ∃ n, fu = n + 1 := ⟨fu - 1, by omega⟩
    rw [f_X7_isMade_16]
    rcases hb with ⟨rfl, h⟩ | ⟨rfl, h⟩
    · refine Ok.neg (by decide +kernel) (Ok.bind (made27_ok 64 n 0 (by omega) (by omega) (fun c d hc => absurd hc (by omega))) ?_)
      rintro q (⟨rfl, hc⟩ | ⟨c, d, h1, h2, h3, h4, rfl⟩)
      · exact ih n F false (by omega) hG (Or.inr ⟨rfl, hc⟩)
      · refine ih n _ true (by omega) ?_ (Or.inl ⟨rfl, ?_⟩)
        · refine ⟨fun j hj => ?_, fun j hj => ?_, fun D hD hC j hj => ?_⟩
          · rw [B_set F (B_lt h1), Bool.or_eq_true, decide_eq_true_eq] at hj
            rcases hj with q | rfl
            · exact hG.1 j q
            · exact h1
          · rw [B_set F (B_lt h1), hG.2.1 j hj]; rfl
          · rw [B_set F (B_lt h1), Bool.or_eq_true, decide_eq_true_eq] at hj
            rcases hj with q | rfl
            · exact hG.2.2 D hD hC j q
            · exact hC _ d h1 (hG.2.2 D hD hC d h3) h4
        · have := cnt_lt (x := F) (y := F ||| ((1 : Int64) <<< ((nI c).toInt64 &&& 63))) (fun j hj => by rw [B_set F (B_lt h1), hj]; rfl) h2 (by rw [B_set F (B_lt h1)]; simp)
          show 66 ≤ cnt (F ||| ((1 : Int64) <<< ((nI c).toInt64 &&& 63))) + k
          omega
    · exact Ok.pos (by decide +kernel) (Ok.some ⟨hG, h⟩)
theorem isMade_ok {fu : Nat} (hf : 300 ≤ fu) {S : Int64} (h : cnt S ≤ 10) : f_X7_isMade fu S = some (bI (made S)) := by
  unfold f_X7_isMade
  by_cases h0 : S = 0
  · rw [if_pos h0]
    unfold made
    simp [h0, bI]
  · rw [if_neg h0]
    obtain ⟨q, e, hG, hC⟩ := made16_ok (S := S) 66 fu (S &&& (-S)) true (by omega) Gro.start (Or.inl ⟨rfl, by omega⟩)
    rw [show (1 : Int32) = bI true from rfl, e]
    have : q = grow S := hG.uniq hC (gw_gro S 10) (grow_cl h0 h)
    subst this
    show (if bOk (if grow S = S then (1 : Int32) else 0) = true then some (if grow S = S then (1 : Int32) else 0) else none) = _
    rw [if_pos bOk_if]
    unfold made
    by_cases h2 : grow S = S <;> simp [h0, h2, bI]
