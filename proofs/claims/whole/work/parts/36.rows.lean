/-! rows that rise -/
theorem below_ok (a b : Int64) : f_X0_isBelow a b = some (bI (decide (uN a < uN b))) := by
  unfold f_X0_isBelow
  simp only [uN_le]
  rw [if_pos bOk_if']
  by_cases h : uN b ≤ uN a
  · rw [if_pos h, decide_eq_false (by omega)]; rfl
  · rw [if_neg h, decide_eq_true (by omega)]; rfl
theorem less_ok (a b : Int64) : f_X7_isLess a b = some (bI (decide (uN a < uN b))) := below_ok a b
/-- a row from b on, n long, rising, of the values P -/
def Row (f : Nat → Int64) (b n : Nat) (P : Int64 → Prop) : Prop := (∀ i j, i < j → j < n → uN (f (b + i)) < uN (f (b + j))) ∧ (∀ v, P v ↔ ∃ i, i < n ∧ f (b + i) = v)
theorem Row.le_at {f g : Nat → Int64} {b b' n n' : Nat} {P : Int64 → Prop} (hf : Row f b n P) (hg : Row g b' n' P) : ∀ i, i < n → i < n' ∧ f (b + i) = g (b' + i) := by
  intro i
  induction i using Nat.strongRecOn with
  | ind i ih =>
    intro hi
    obtain ⟨k, hk, ek⟩ := (hg.2 _).1 ((hf.2 _).2 ⟨i, hi, rfl⟩)
    have hik : i ≤ k := by
      apply Classical.byContradiction
      intro q
      have h1 := (ih k (by omega) (by omega)).2
      have h2 := hf.1 k i (by omega) hi
      rw [h1, ek] at h2
      omega
    have hin : i < n' := by omega
    refine ⟨hin, ?_⟩
    obtain ⟨m, hm, em⟩ := (hf.2 _).1 ((hg.2 _).2 ⟨i, hin, rfl⟩)
    have him : i ≤ m := by
      apply Classical.byContradiction
      intro q
      have h1 := (ih m (by omega) (by omega)).2
      have h2 := hg.1 m i (by omega) hin
      rw [← h1, em] at h2
      omega
    by_cases q : k = i
    · subst q; exact ek.symm
    · have h1 := hg.1 i k (by omega) hk
      rw [ek, ← em] at h1
      by_cases q2 : m = i
      · subst q2; omega
      · have := hf.1 i m (by omega) hm
        omega
theorem Row.same {f g : Nat → Int64} {b b' n n' : Nat} {P : Int64 → Prop} (hf : Row f b n P) (hg : Row g b' n' P) : n = n' ∧ ∀ i, i < n → f (b + i) = g (b' + i) := by
  have h1 := hf.le_at hg
  have h2 := hg.le_at hf
  refine ⟨?_, fun i hi => (h1 i hi).2⟩
  have q1 : n ≤ n' := by
    cases n with
    | zero => omega
    | succ m => have := (h1 m (by omega)).1; omega
  have q2 : n' ≤ n := by
    cases n' with
    | zero => omega
    | succ m => have := (h2 m (by omega)).1; omega
  omega
theorem Row.congr {f g : Nat → Int64} {b b' n : Nat} {P Q : Int64 → Prop} (hf : Row f b n P) (hg : ∀ i, i < n → g (b' + i) = f (b + i)) (hP : ∀ v, P v ↔ Q v) : Row g b' n Q := by
  refine ⟨fun i j h1 h2 => ?_, fun v => (hP v).symm.trans ((hf.2 v).trans ?_)⟩
  · rw [hg i (by omega), hg j h2]; exact hf.1 i j h1 h2
  · constructor
    · rintro ⟨i, h1, h2⟩; exact ⟨i, h1, by rw [hg i h1, h2]⟩
    · rintro ⟨i, h1, h2⟩; exact ⟨i, h1, by rw [← hg i h1, h2]⟩
theorem Row.nil {f : Nat → Int64} {b : Nat} {P : Int64 → Prop} (h : ∀ v, ¬ P v) : Row f b 0 P := ⟨fun i j h1 h2 => absurd h2 (by omega), fun v => ⟨fun q => absurd q (h v), fun ⟨i, q, _⟩ => absurd q (by omega)⟩⟩
/-- v put into a row in its order, once -/
def Ins (f : Nat → Int64) (b n : Nat) (v : Int64) (f' : Nat → Int64) (n' : Nat) : Prop := ∃ a, a ≤ n ∧ (∀ i, i < a → uN (f (b + i)) < uN v) ∧ ((a < n ∧ f (b + a) = v ∧ f' = f ∧ n' = n) ∨ ((a = n ∨ uN v < uN (f (b + a))) ∧ n' = n + 1 ∧ ∀ j, f' j = if j < b + a then f j else if j = b + a then v else if j ≤ b + n then f (j - 1) else f j))
theorem Ins.row {f f' : Nat → Int64} {b n n' : Nat} {v : Int64} {P : Int64 → Prop} (h : Ins f b n v f' n') (hr : Row f b n P) : Row f' b n' (fun w => P w ∨ w = v) := by
  obtain ⟨a, ha, hl, h⟩ := h
  rcases h with ⟨h1, h2, rfl, rfl⟩ | ⟨h1, rfl, h2⟩
  · refine ⟨hr.1, fun w => ⟨?_, fun q => Or.inl ((hr.2 w).2 q)⟩⟩
    rintro (q | rfl)
    · exact (hr.2 w).1 q
    · exact ⟨a, h1, h2⟩
  · have e : ∀ i, f' (b + i) = if i < a then f (b + i) else if i = a then v else if i ≤ n then f (b + (i - 1)) else f (b + i) := by
      intro i
      rw [h2]
      by_cases q1 : i < a
      · rw [if_pos (show b + i < b + a by omega), if_pos q1]
      · rw [if_neg (show ¬ b + i < b + a by omega), if_neg q1]
        by_cases q2 : i = a
        · rw [if_pos (show b + i = b + a by omega), if_pos q2]
        · rw [if_neg (show ¬ b + i = b + a by omega), if_neg q2]
          by_cases q3 : i ≤ n
          · rw [if_pos (show b + i ≤ b + n by omega), if_pos q3, show b + i - 1 = b + (i - 1) by omega]
          · rw [if_neg (show ¬ b + i ≤ b + n by omega), if_neg q3]
    have up : ∀ i, a ≤ i → i < n → uN v < uN (f (b + i)) := by
      intro i h3 h4
      rcases h1 with h1 | h1
      · omega
      · by_cases q : i = a
        · subst q; exact h1
        · have := hr.1 a i (by omega) h4
          omega
    constructor
    · intro i j hij hj
      rw [e i, e j]
      by_cases c1 : j < a
      · rw [if_pos c1, if_pos (show i < a by omega)]
        exact hr.1 i j hij (by omega)
      · rw [if_neg c1]
        by_cases c2 : j = a
        · rw [if_pos c2, if_pos (show i < a by omega)]
          exact hl i (by omega)
        · rw [if_neg c2, if_pos (show j ≤ n by omega)]
          by_cases c3 : i < a
          · rw [if_pos c3]
            have h3 := hl i c3
            have h4 := up (j - 1) (by omega) (by omega)
            omega
          · rw [if_neg c3]
            by_cases c4 : i = a
            · rw [if_pos c4]
              exact up (j - 1) (by omega) (by omega)
            · rw [if_neg c4, if_pos (show i ≤ n by omega)]
              exact hr.1 (i - 1) (j - 1) (by omega) (by omega)
    · intro w
      constructor
      · rintro (q | rfl)
        · obtain ⟨i, hi, q⟩ := (hr.2 w).1 q
          by_cases c : i < a
          · exact ⟨i, by omega, by rw [e, if_pos c, q]⟩
          · exact ⟨i + 1, by omega, by rw [e, if_neg (by omega), if_neg (by omega), if_pos (by omega)]; exact q⟩
        · exact ⟨a, by omega, by rw [e, if_neg (by omega), if_pos rfl]⟩
      · rintro ⟨i, hi, q⟩
        rw [e] at q
        by_cases c1 : i < a
        · rw [if_pos c1] at q
          exact Or.inl ((hr.2 w).2 ⟨i, by omega, q⟩)
        · rw [if_neg c1] at q
          by_cases c2 : i = a
          · rw [if_pos c2] at q
            exact Or.inr q.symm
          · rw [if_neg c2, if_pos (show i ≤ n by omega)] at q
            exact Or.inl ((hr.2 w).2 ⟨i - 1, by omega, q⟩)
theorem Ins.out {f f' : Nat → Int64} {b n n' : Nat} {v : Int64} (h : Ins f b n v f' n') {j : Nat} (hj : j < b ∨ b + n < j) : f' j = f j := by
  obtain ⟨a, ha, hl, h⟩ := h
  rcases h with ⟨h1, h2, rfl, rfl⟩ | ⟨h1, rfl, h2⟩
  · rfl
  · rw [h2]
    rcases hj with hj | hj
    · rw [if_pos (by omega)]
    · rw [if_neg (by omega), if_neg (by omega), if_neg (by omega)]
theorem Ins.le {f f' : Nat → Int64} {b n n' : Nat} {v : Int64} (h : Ins f b n v f' n') : n' ≤ n + 1 := by
  obtain ⟨a, ha, hl, h⟩ := h
  rcases h with ⟨h1, h2, rfl, rfl⟩ | ⟨h1, rfl, h2⟩ <;> omega
theorem ins3_ok {z b n : Nat} {v : Int64} {f : Nat → Int64} (hz : z < 2147483648) (hb : b + n ≤ z) : ∀ k fu i, k < fu → k + i = n → (∀ j, j < i → uN (f (b + j)) < uN v) → Ok (f_X7_insert_3 z (nI b) (nI n) v f fu (nI (b + i))) (fun q => ∃ a, q = nI (b + a) ∧ a ≤ n ∧ (∀ j, j < a → uN (f (b + j)) < uN v) ∧ (a = n ∨ uN v ≤ uN (f (b + a)))) := by
  intro k
  induction k with
  | zero =>
    intro fu i hf hi hl
    obtain ⟨m, rfl⟩ : ∃ m, fu = m + 1 := ⟨fu - 1, by omega⟩
    rw [f_X7_insert_3, nI_add]
    exact Ok.pos (nI_le (by omega) (by omega)) (Ok.some ⟨i, rfl, by omega, hl, Or.inl (by omega)⟩)
  | succ k ih =>
    intro fu i hf hi hl
    obtain ⟨m, rfl⟩ : ∃ m, fu = m + 1 := ⟨fu - 1, by omega⟩
    rw [f_X7_insert_3, nI_add, cl_n (by omega)]
    refine Ok.neg (by rw [le_n (by omega) (by omega)]; omega) (Ok.pos (inB_n (by omega) hz) (Ok.bindE (less_ok _ _) (Ok.ite (fun h => ?_) (fun h => ?_))))
    · rw [bI_0, decide_eq_false_iff_not] at h
      exact Ok.some ⟨i, rfl, by omega, hl, Or.inr (by omega)⟩
    · rw [bI_n0, decide_eq_true_eq] at h
      rw [show nI (b + i) + 1 = nI (b + (i + 1)) from nI_1 _]
      refine ih m (i + 1) (by omega) (by omega) (fun j hj => ?_)
      by_cases q : j = i
      · subst q; exact h
      · exact hl j (by omega)
theorem ins52_ok {z a n : Nat} {f : Nat → Int64} (hz : z < 2147483648) (hn : n < z) (ha : a ≤ n) : ∀ k fu i g, k < fu → k + a = i → i ≤ n → (∀ j, g j = if j ≤ i then f j else if j ≤ n then f (j - 1) else f j) → Ok (f_X7_insert_52 z (nI a) fu (nI i) g) (fun q => ∀ j, q j = if j ≤ a then f j else if j ≤ n then f (j - 1) else f j) := by
  intro k
  induction k with
  | zero =>
    intro fu i g hf hi hin hg
    obtain ⟨m, rfl⟩ : ∃ m, fu = m + 1 := ⟨fu - 1, by omega⟩
    have : a = i := by omega
    subst this
    rw [f_X7_insert_52]
    exact Ok.pos (nI_le (by omega) (by omega)) (Ok.some hg)
  | succ k ih =>
    intro fu i g hf hi hin hg
    obtain ⟨m, rfl⟩ : ∃ m, fu = m + 1 := ⟨fu - 1, by omega⟩
    rw [f_X7_insert_52, m1_n (n := i) (by omega), show nI i - 1 = nI (i - 1) from sb_n (b := 1) (by omega), cl_n (n := i) (by omega), cl_n (n := i - 1) (by omega)]
    refine Ok.neg (by rw [le_n (by omega) (by omega)]; omega) (Ok.pos (inB_n (by omega) hz) (Ok.pos (inB_n (by omega) hz) (ih m (i - 1) _ (by omega) (by omega) (by omega) (fun j => ?_))))
    by_cases q : j = i
    · subst q
      rw [vu_s, if_neg (by omega), if_pos hin, hg, if_pos (by omega)]
    · rw [vu_n q, hg]
      by_cases q2 : j ≤ i
      · rw [if_pos q2, if_pos (by omega)]
      · rw [if_neg q2, if_neg (show ¬ j ≤ i - 1 by omega)]
theorem insert_ok {fu z b n : Nat} {v : Int64} {f : Nat → Int64} (hz : z < 2147483648) (hb : b + n < z) (hf : n + 1 < fu) : Ok (f_X7_insert fu z f (nI b) (nI n) v) (fun q => ∃ n', q.1 = nI n' ∧ Ins f b n v q.2 n') := by
  unfold f_X7_insert
  refine Ok.bind (ins3_ok hz (by omega) n fu 0 (by omega) (by omega) (fun j hj => absurd hj (by omega))) ?_
  rintro q ⟨a, rfl, ha, hl, hu⟩
  have tail : (a = n ∨ uN v < uN (f (b + a))) → Ok ((f_X7_insert_52 z (nI (b + a)) fu (nI b + nI n) f).bind fun q24 => (if inB (nI (b + a)) z = true then some (nI n + (1 : Int32), va_up q24 (nI (b + a)).toNatClampNeg v) else none)) (fun q => ∃ n', q.1 = nI n' ∧ Ins f b n v q.2 n') := by
    intro hv
    rw [nI_add, cl_n (by omega)]
    refine Ok.bind (ins52_ok (a := b + a) (n := b + n) (f := f) hz hb (by omega) (n - a) fu (b + n) f (by omega) (by omega) (by omega) (fun j => by split <;> rfl)) ?_
    intro q hq
    refine Ok.pos (inB_n (by omega) hz) (Ok.some ⟨n + 1, nI_1 n, a, ha, hl, Or.inr ⟨hv, rfl, fun j => ?_⟩⟩)
    show va_up q (b + a) v j = _
    by_cases q1 : j = b + a
    · subst q1
      rw [vu_s, if_neg (by omega), if_pos rfl]
    · rw [vu_n q1, hq]
      by_cases q2 : j < b + a
      · rw [if_pos (by omega), if_pos q2]
      · rw [if_neg (by omega), if_neg q2, if_neg q1]
  refine Ok.ite (fun h => ?_) (fun h => ?_)
  · rw [nI_add, le_n (by omega) (by omega)] at h
    exact tail (Or.inl (by omega))
  · rw [nI_add, le_n (by omega) (by omega)] at h
    refine Ok.pos (inB_n (by omega) hz) (Ok.ite (fun h2 => ?_) (fun h2 => ?_))
    · rw [cl_n (by omega)] at h2
      exact Ok.some ⟨n, rfl, a, ha, hl, Or.inl ⟨by omega, h2, rfl, rfl⟩⟩
    · rw [cl_n (by omega)] at h2
      refine tail (Or.inr ?_)
      rcases hu with hu | hu
      · omega
      · have : uN v ≠ uN (f (b + a)) := fun q => h2 (uN_inj q.symm)
        omega
theorem add2_eq {v : Int64} {ss : Nat → Int64} {n : Nat} : ∀ fu l, f_X1_addShape_2 v ss (nI n) fu l = f_X7_insert_3 48 (nI 0) (nI n) v ss fu l := by
  intro fu
  induction fu with
  | zero => intro l; rfl
  | succ fu ih =>
    intro l
    rw [f_X1_addShape_2, f_X7_insert_3, nI_add, Nat.zero_add]
    simp only [ih]
    rfl
theorem add64_eq {a : Int32} : ∀ fu l ss, f_X1_addShape_64 a fu l ss = f_X7_insert_52 48 a fu l ss := by
  intro fu
  induction fu with
  | zero => intro l ss; rfl
  | succ fu ih =>
    intro l ss
    rw [f_X1_addShape_64, f_X7_insert_52]
    simp only [ih]
theorem addShape_ok {fu n : Nat} {v : Int64} {f : Nat → Int64} (hn : n < 48) (hf : n + 1 < fu) : Ok (f_X1_addShape fu f (nI n) v) (fun q => ∃ n', q.2 = nI n' ∧ Ins f 0 n v q.1 n') := by
  have key := insert_ok (fu := fu) (z := 48) (b := 0) (n := n) (v := v) (f := f) (by decide) (by omega) hf
  obtain ⟨r, e, n', h1, h2⟩ := key
  refine ⟨(r.2, r.1), ?_, n', h1, h2⟩
  unfold f_X7_insert at e
  unfold f_X1_addShape
  obtain ⟨q, e1, e2⟩ := bd e
  rw [add2_eq, show (0 : Int32) = nI 0 from rfl, e1]
  rw [nI_add, Nat.zero_add] at e2
  show (if nI n ≤ q then (if nI n < (48 : Int32) then ((f_X1_addShape_64 q fu (nI n) f).bind fun q25 => (if inB q 48 = true then some (va_up q25 q.toNatClampNeg v, nI n + (1 : Int32)) else none)) else some (f, nI n)) else (if inB q 48 = true then (if (f q.toNatClampNeg) = v then some (f, nI n) else (if nI n < (48 : Int32) then ((f_X1_addShape_64 q fu (nI n) f).bind fun q30 => (if inB q 48 = true then some (va_up q30 q.toNatClampNeg v, nI n + (1 : Int32)) else none)) else some (f, nI n))) else none)) = _
  rw [if_pos (show nI n < (48 : Int32) from nI_lt (b := 48) hn (by decide)), add64_eq]
  have tail : ((f_X7_insert_52 48 q fu (nI n) f).bind fun q24 => (if inB q 48 = true then some (nI n + (1 : Int32), va_up q24 q.toNatClampNeg v) else none)) = some r → ((f_X7_insert_52 48 q fu (nI n) f).bind fun q25 => (if inB q 48 = true then some (va_up q25 q.toNatClampNeg v, nI n + (1 : Int32)) else none)) = some (r.2, r.1) := by
    intro h
    obtain ⟨w, w1, w2⟩ := bd h
    obtain ⟨w3, w4⟩ := gd w2
    rw [w1]
    show (if inB q 48 = true then _ else _) = _
    rw [if_pos w3, ← Option.some.inj w4]
  by_cases h : nI n ≤ q
  · rw [if_pos h] at e2 ⊢
    exact tail e2
  · rw [if_neg h] at e2 ⊢
    obtain ⟨w3, w4⟩ := gd e2
    rw [if_pos w3]
    by_cases h3 : f q.toNatClampNeg = v
    · rw [if_pos h3] at w4 ⊢
      rw [← Option.some.inj w4]
    · rw [if_neg h3] at w4 ⊢
      exact tail w4
