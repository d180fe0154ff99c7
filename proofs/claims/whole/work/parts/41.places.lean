/-! the class's places -/
theorem p53_ok {s W : Int64} (h0 : s ≠ 0) {y z : Nat} (hy : hi s 1 + y ≤ 3) (hz : hi s 2 + z ≤ 3) : ∀ k fu x n oo, k < fu → k + x = 4 - hi s 0 → n ≤ nf s (x + 4 * y + 16 * z) → Row oo 0 n (OneP s W (x + 4 * y + 16 * z)) → Ok (f_X1_placeOneShape_53 s W (nI (3 - hi s 0)) (nI z) (nI y) fu (nI n) (nI x) oo) (fun q => ∃ n', q.1 = nI n' ∧ n' ≤ nf s (4 + 4 * y + 16 * z) ∧ Row q.2 0 n' (OneP s W (4 + 4 * y + 16 * z))) := by
  intro k
  have hh := hi_lt s 0
  induction k with
  | zero =>
    intro fu x n oo hf hx hn hr
    obtain ⟨w, rfl⟩ : ∃ w, fu = w + 1 := ⟨fu - 1, by omega⟩
    rw [f_X1_placeOneShape_53]
    refine Ok.pos (nI_lt (by omega) (by omega)) (Ok.some ⟨n, rfl, Nat.le_trans hn (nf_le' s (by omega)), hr.congr (fun _ _ => rfl) (OneP.skip (by omega) (fun m h1 h2 => Or.inl ?_))⟩)
    rw [← Bool.not_eq_true, fits_t, cv_0]
    omega
  | succ k ih =>
    intro fu x n oo hf hx hn hr
    obtain ⟨w, rfl⟩ : ∃ w, fu = w + 1 := ⟨fu - 1, by omega⟩
    have hi64 : x + 4 * y + 16 * z < 64 := by omega
    have hfit : fits s (x + 4 * y + 16 * z) = true := by
      have := co_of (x := x) (y := y) (z := z) (by omega) (by omega) (by omega)
      rw [fits_t, this.1, this.2.1, this.2.2]
      omega
    have hn64 := nf_le s (x + 4 * y + 16 * z)
    rw [f_X1_placeOneShape_53, show (4 : Int32) = nI 4 from rfl, show (16 : Int32) = nI 16 from rfl, pk_mul, pk_mul, nI_add, nI_add, show nI x + 1 = nI (x + 1) from nI_1 x, cl_n (by omega)]
    refine Ok.neg (nI_nlt (by omega) (by omega)) (Ok.ite (fun h => ?_) (fun h => ?_))
    · have hs : Sub (shl s (x + 4 * y + 16 * z)) W := sub_z.1 h
      rw [show nI n + 1 = nI (n + 1) from nI_1 n]
      refine Ok.pos (inB_n (by omega) (by decide)) (ih w (x + 1) (n + 1) _ (by omega) (by omega) ?_ ?_)
      · rw [show x + 1 + 4 * y + 16 * z = (x + 4 * y + 16 * z) + 1 by omega]
        show n + 1 ≤ nf s (x + 4 * y + 16 * z) + (if fits s (x + 4 * y + 16 * z) then 1 else 0)
        rw [hfit]
        simp
        exact hn
      · have := OneP.app h0 hi64 hfit hs hr
        rw [show x + 1 + 4 * y + 16 * z = (x + 4 * y + 16 * z) + 1 by omega]
        exact this
    · have hs : ¬ Sub (shl s (x + 4 * y + 16 * z)) W := fun q => h (sub_z.2 q)
      refine ih w (x + 1) n oo (by omega) (by omega) (Nat.le_trans hn (nf_le' s (by omega))) (hr.congr (fun _ _ => rfl) (OneP.skip (by omega) (fun m h1 h2 => Or.inr ?_)))
      rw [show m = x + 4 * y + 16 * z by omega]
      exact hs
theorem p43_ok {s W : Int64} (h0 : s ≠ 0) {z : Nat} (hz : hi s 2 + z ≤ 3) : ∀ k fu y n oo, 5 + k < fu → k + y = 4 - hi s 1 → n ≤ nf s (4 * y + 16 * z) → Row oo 0 n (OneP s W (4 * y + 16 * z)) → Ok (f_X1_placeOneShape_43 s W (nI (3 - hi s 0)) (nI (3 - hi s 1)) (nI z) fu (nI n) (nI y) oo) (fun q => ∃ n', q.1 = nI n' ∧ n' ≤ nf s (16 + 16 * z) ∧ Row q.2 0 n' (OneP s W (16 + 16 * z))) := by
  intro k
  have hh := hi_lt s 1
  induction k with
  | zero =>
    intro fu y n oo hf hy hn hr
    obtain ⟨w, rfl⟩ : ∃ w, fu = w + 1 := ⟨fu - 1, by omega⟩
    rw [f_X1_placeOneShape_43]
    refine Ok.pos (nI_lt (by omega) (by omega)) (Ok.some ⟨n, rfl, Nat.le_trans hn (nf_le' s (by omega)), hr.congr (fun _ _ => rfl) (OneP.skip (by omega) (fun m h1 h2 => Or.inl ?_))⟩)
    rw [← Bool.not_eq_true, fits_t, cv_1]
    omega
  | succ k ih =>
    intro fu y n oo hf hy hn hr
    obtain ⟨w, rfl⟩ : ∃ w, fu = w + 1 := ⟨fu - 1, by omega⟩
    rw [f_X1_placeOneShape_43]
    refine Ok.neg (nI_nlt (by omega) (by omega)) (Ok.bind (p53_ok h0 (by omega) hz (4 - hi s 0) w 0 n oo (by omega) (by omega) (by rw [Nat.zero_add]; exact hn) (by rw [Nat.zero_add]; exact hr)) ?_)
    rintro ⟨q1, q2⟩ ⟨n', e, h1, h2⟩
    rw [show nI y + 1 = nI (y + 1) from nI_1 y, show (q1, q2).1 = nI n' from e]
    exact ih w (y + 1) n' q2 (by omega) (by omega) (by rw [show 4 * (y + 1) = 4 + 4 * y by omega]; exact h1) (by rw [show 4 * (y + 1) = 4 + 4 * y by omega]; exact h2)
theorem p33_ok {s W : Int64} (h0 : s ≠ 0) : ∀ k fu z n oo, 10 + k < fu → k + z = 4 - hi s 2 → n ≤ nf s (16 * z) → Row oo 0 n (OneP s W (16 * z)) → Ok (f_X1_placeOneShape_33 s W (nI (3 - hi s 0)) (nI (3 - hi s 1)) (nI (3 - hi s 2)) fu (nI n) (nI z) oo) (fun q => ∃ n', q.1 = nI n' ∧ n' ≤ nf s 64 ∧ Row q.2 0 n' (OneP s W 64)) := by
  intro k
  have hh := hi_lt s 2
  have hh1 := hi_lt s 1
  induction k with
  | zero =>
    intro fu z n oo hf hz hn hr
    obtain ⟨w, rfl⟩ : ∃ w, fu = w + 1 := ⟨fu - 1, by omega⟩
    rw [f_X1_placeOneShape_33]
    refine Ok.pos (nI_lt (by omega) (by omega)) (Ok.some ⟨n, rfl, Nat.le_trans hn (nf_le' s (by omega)), hr.congr (fun _ _ => rfl) (OneP.skip (by omega) (fun m h1 h2 => Or.inl ?_))⟩)
    rw [← Bool.not_eq_true, fits_t, cv_2 h2]
    omega
  | succ k ih =>
    intro fu z n oo hf hz hn hr
    obtain ⟨w, rfl⟩ : ∃ w, fu = w + 1 := ⟨fu - 1, by omega⟩
    rw [f_X1_placeOneShape_33]
    refine Ok.neg (nI_nlt (by omega) (by omega)) (Ok.bind (p43_ok h0 (by omega) (4 - hi s 1) w 0 n oo (by omega) (by omega) (by rw [Nat.mul_zero, Nat.zero_add]; exact hn) (by rw [Nat.mul_zero, Nat.zero_add]; exact hr)) ?_)
    rintro ⟨q1, q2⟩ ⟨n', e, h1, h2⟩
    rw [show nI z + 1 = nI (z + 1) from nI_1 z, show (q1, q2).1 = nI n' from e]
    exact ih w (z + 1) n' q2 (by omega) (by omega) (by rw [show 16 * (z + 1) = 16 + 16 * z by omega]; exact h1) (by rw [show 16 * (z + 1) = 16 + 16 * z by omega]; exact h2)
theorem placeOne_ok {fu : Nat} (hf : 20 ≤ fu) {s W : Int64} (h0 : s ≠ 0) (oo : Nat → Int64) : Ok (f_X1_placeOneShape fu oo s W) (fun q => ∃ n, q.1 = nI n ∧ n ≤ mvs s ∧ Row q.2 0 n (OneP s W 64)) := by
  unfold f_X1_placeOneShape
  have g0 := hi_lt s 0
  have g1 := hi_lt s 1
  have g2 := hi_lt s 2
  refine Ok.bindE (greatest_ok (a := 0) (by omega) s (by decide)) (Ok.bindE (greatest_ok (a := 1) (by omega) s (by decide)) (Ok.bindE (greatest_ok (a := 2) (by omega) s (by decide)) ?_))
  rw [show (3 : Int32) = nI 3 from rfl, sb_n (by omega), sb_n (by omega), sb_n (by omega)]
  refine Ok.bind (p33_ok h0 (4 - hi s 2) fu 0 0 oo (by omega) (by omega) (by omega) (Row.nil (fun v ⟨m, hm, _⟩ => absurd hm (by omega)))) ?_
  rintro ⟨q1, q2⟩ ⟨n, e, h1, h2⟩
  exact Ok.some ⟨n, e, by rw [nf_64] at h1; exact h1, h2⟩
/-- one less, as the class counts down -/
def pI (o : Nat) : Int32 := nI o - 1
theorem pI_s (o : Nat) : pI (o + 1) = nI o := nI_pred o
theorem pI_0 : pI 0 < 0 := by decide +kernel
theorem pI_n {o : Nat} (h : 0 < o) (h2 : o < 2147483648) : ¬ pI o < 0 ∧ pI o = nI (o - 1) ∧ pI o + (-1) = pI (o - 1) := by
  obtain ⟨m, rfl⟩ : ∃ m, o = m + 1 := ⟨o - 1, by omega⟩
  rw [pI_s]
  refine ⟨nI_pos (by omega), rfl, ?_⟩
  show nI m + -1 = nI m - 1
  exact (Int32.sub_eq_add_neg (nI m) 1).symm
def Mrg (f oo : Nat → Int64) (n c o a : Nat) (g : Nat → Int64) : Prop := (∀ j, j < o → g j = f j) ∧ (∀ i j, o + a ≤ i → i < j → j < n + c → uN (g i) < uN (g j)) ∧ (∀ i, o + a ≤ i → i < n + c → (∀ j, j < o → uN (f j) < uN (g i)) ∧ (∀ j, j < a → uN (oo j) < uN (g i))) ∧ (∀ v, (∃ i, o + a ≤ i ∧ i < n + c ∧ g i = v) ↔ (∃ j, o ≤ j ∧ j < n ∧ f j = v) ∨ (∃ j, a ≤ j ∧ j < c ∧ oo j = v))
theorem Mrg.old {f oo g : Nat → Int64} {n c o a : Nat} (h : Mrg f oo n c (o + 1) a g) (ho : o < n) (ha : a ≤ c) (ha0 : 0 < a) (hr : ∀ i j, i < j → j < n → uN (f i) < uN (f j)) (hq : ∀ j, j < a → uN (oo j) < uN (f o)) : Mrg f oo n c o a (va_up g (o + a) (f o)) := by
  obtain ⟨h1, h2, h3, h4⟩ := h
  refine ⟨fun j hj => ?_, fun i j hi hij hj => ?_, fun i hi hj => ?_, fun v => ?_⟩
  · rw [vu_n (by omega)]; exact h1 j (by omega)
  · by_cases e : i = o + a
    · subst e
      rw [vu_s, vu_n (by omega)]
      exact (h3 j (by omega) hj).1 o (by omega)
    · rw [vu_n e, vu_n (by omega)]
      exact h2 i j (by omega) hij hj
  · by_cases e : i = o + a
    · subst e
      rw [vu_s]
      exact ⟨fun j hj => hr j o hj ho, hq⟩
    · rw [vu_n e]
      have := h3 i (by omega) hj
      exact ⟨fun j hj => this.1 j (by omega), this.2⟩
  · constructor
    · rintro ⟨i, hi, hj, q⟩
      by_cases e : i = o + a
      · subst e
        rw [vu_s] at q
        exact Or.inl ⟨o, Nat.le_refl _, ho, q⟩
      · rw [vu_n e] at q
        rcases (h4 v).1 ⟨i, by omega, hj, q⟩ with ⟨j, z1, z2, z3⟩ | z
        · exact Or.inl ⟨j, by omega, z2, z3⟩
        · exact Or.inr z
    · rintro (⟨j, z1, z2, z3⟩ | z)
      · by_cases e : j = o
        · subst e
          exact ⟨j + a, Nat.le_refl _, by omega, by rw [vu_s, z3]⟩
        · obtain ⟨i, hi, hj, q⟩ := (h4 v).2 (Or.inl ⟨j, by omega, z2, z3⟩)
          exact ⟨i, by omega, hj, by rw [vu_n (by omega), q]⟩
      · obtain ⟨i, hi, hj, q⟩ := (h4 v).2 (Or.inr z)
        exact ⟨i, by omega, hj, by rw [vu_n (by omega), q]⟩
theorem Mrg.add {f oo g : Nat → Int64} {n c o a : Nat} (h : Mrg f oo n c o (a + 1) g) (ho : o ≤ n) (ha : a < c) (hr : ∀ i j, i < j → j < c → uN (oo i) < uN (oo j)) (hq : ∀ j, j < o → uN (f j) < uN (oo a)) : Mrg f oo n c o a (va_up g (o + a) (oo a)) := by
  obtain ⟨h1, h2, h3, h4⟩ := h
  refine ⟨fun j hj => ?_, fun i j hi hij hj => ?_, fun i hi hj => ?_, fun v => ?_⟩
  · rw [vu_n (by omega)]; exact h1 j (by omega)
  · by_cases e : i = o + a
    · subst e
      rw [vu_s, vu_n (by omega)]
      exact (h3 j (by omega) hj).2 a (by omega)
    · rw [vu_n e, vu_n (by omega)]
      exact h2 i j (by omega) hij hj
  · by_cases e : i = o + a
    · subst e
      rw [vu_s]
      exact ⟨hq, fun j hj => hr j a hj ha⟩
    · rw [vu_n e]
      have := h3 i (by omega) hj
      exact ⟨this.1, fun j hj => this.2 j (by omega)⟩
  · constructor
    · rintro ⟨i, hi, hj, q⟩
      by_cases e : i = o + a
      · subst e
        rw [vu_s] at q
        exact Or.inr ⟨a, Nat.le_refl _, ha, q⟩
      · rw [vu_n e] at q
        rcases (h4 v).1 ⟨i, by omega, hj, q⟩ with z | ⟨j, z1, z2, z3⟩
        · exact Or.inl z
        · exact Or.inr ⟨j, by omega, z2, z3⟩
    · rintro (z | ⟨j, z1, z2, z3⟩)
      · obtain ⟨i, hi, hj, q⟩ := (h4 v).2 (Or.inl z)
        exact ⟨i, by omega, hj, by rw [vu_n (by omega), q]⟩
      · by_cases e : j = a
        · subst e
          exact ⟨o + j, Nat.le_refl _, by omega, by rw [vu_s, z3]⟩
        · obtain ⟨i, hi, hj, q⟩ := (h4 v).2 (Or.inr ⟨j, by omega, z2, z3⟩)
          exact ⟨i, by omega, hj, by rw [vu_n (by omega), q]⟩
theorem Mrg.fin {f oo g : Nat → Int64} {n c o : Nat} {P Q : Int64 → Prop} (h : Mrg f oo n c o 0 g) (ho : o ≤ n) (hf : Row f 0 n P) (ho' : Row oo 0 c Q) : Row g 0 (n + c) (fun v => P v ∨ Q v) := by
  obtain ⟨h1, h2, h3, h4⟩ := h
  have hf1 : ∀ i j, i < j → j < n → uN (f i) < uN (f j) := fun i j hij hj => by
    have := hf.1 i j hij hj
    rw [Nat.zero_add, Nat.zero_add] at this
    exact this
  refine ⟨fun i j hij hj => ?_, fun v => ?_⟩
  · rw [Nat.zero_add, Nat.zero_add]
    by_cases q : j < o
    · rw [h1 j q, h1 i (by omega)]
      exact hf1 i j hij (by omega)
    · by_cases q2 : i < o
      · rw [h1 i q2]
        exact (h3 j (by omega) hj).1 i q2
      · exact h2 i j (by omega) hij hj
  · have e1 := hf.2 v
    have e2 := ho'.2 v
    simp only [Nat.zero_add] at e1 e2 ⊢
    rw [e1, e2]
    constructor
    · rintro (⟨i, hi, q⟩ | ⟨i, hi, q⟩)
      · by_cases z : i < o
        · exact ⟨i, by omega, by rw [h1 i z, q]⟩
        · obtain ⟨j, _, hj, q⟩ := (h4 v).2 (Or.inl ⟨i, by omega, hi, q⟩)
          exact ⟨j, hj, q⟩
      · obtain ⟨j, _, hj, q⟩ := (h4 v).2 (Or.inr ⟨i, by omega, hi, q⟩)
        exact ⟨j, hj, q⟩
    · rintro ⟨i, hi, q⟩
      by_cases z : i < o
      · rw [h1 i z] at q
        exact Or.inl ⟨i, by omega, q⟩
      · rcases (h4 v).1 ⟨i, by omega, hi, q⟩ with ⟨j, _, w2, w3⟩ | ⟨j, _, w2, w3⟩
        · exact Or.inl ⟨j, w2, w3⟩
        · exact Or.inr ⟨j, w2, w3⟩
theorem merge_ok {f oo : Nat → Int64} {n c : Nat} {P Q : Int64 → Prop} (hf : Row f 0 n P) (hoo : Row oo 0 c Q) (hd : ∀ v, P v → ¬ Q v) (hN : n + c ≤ 896) (hc : c ≤ 64) : ∀ k fu o a g, k < fu → k = o + a → o ≤ n → a ≤ c → Mrg f oo n c o a g → Ok (f_X1_mergeIn_42 oo fu (pI o) (pI a) (pI (o + a)) g) (fun q => Row q 0 (n + c) (fun v => P v ∨ Q v)) := by
  have hf1 : ∀ i j, i < j → j < n → uN (f i) < uN (f j) := fun i j hij hj => by
    have := hf.1 i j hij hj
    rw [Nat.zero_add, Nat.zero_add] at this
    exact this
  have ho1 : ∀ i j, i < j → j < c → uN (oo i) < uN (oo j) := fun i j hij hj => by
    have := hoo.1 i j hij hj
    rw [Nat.zero_add, Nat.zero_add] at this
    exact this
  intro k
  induction k with
  | zero =>
    intro fu o a g hfu hk ho ha h
    obtain ⟨w, rfl⟩ : ∃ w, fu = w + 1 := ⟨fu - 1, by omega⟩
    have e1 : o = 0 := by omega
    have e2 : a = 0 := by omega
    subst e1 e2
    rw [f_X1_mergeIn_42]
    exact Ok.pos pI_0 (Ok.some (h.fin ho hf hoo))
  | succ k ih =>
    intro fu o a g hfu hk ho ha h
    obtain ⟨w, rfl⟩ : ∃ w, fu = w + 1 := ⟨fu - 1, by omega⟩
    obtain ⟨t1, t2, t3⟩ := pI_n (o := o + a) (by omega) (by omega)
    rw [f_X1_mergeIn_42]
    refine Ok.neg t1 (Ok.ite (fun q => ?_) (fun q => ?_))
    · have : a = 0 := by
        by_cases z : a = 0
        · exact z
        · exact absurd q (pI_n (o := a) (by omega) (by omega)).1
      subst this
      exact Ok.some (h.fin ho hf hoo)
    · have hap : 0 < a := by
        by_cases z : a = 0
        · subst z; exact absurd pI_0 q
        · omega
      obtain ⟨b, rfl⟩ : ∃ b, a = b + 1 := ⟨a - 1, by omega⟩
      obtain ⟨_, a2, a3⟩ := pI_n (o := b + 1) (by omega) (by omega)
      rw [t3, a3, t2, a2, cl_n (by omega), cl_n (by omega), show o + (b + 1) - 1 = o + b by omega, show b + 1 - 1 = b by omega]
      have takeAdd : (∀ j, j < o → uN (f j) < uN (oo b)) → Ok (if inB (nI b) 64 = true then (if inB (nI (o + b)) 896 = true then f_X1_mergeIn_42 oo w (pI o) (pI b) (pI (o + b)) (va_up g (o + b) (oo b)) else none) else none) (fun q => Row q 0 (n + c) (fun v => P v ∨ Q v)) := fun hq =>
        Ok.pos (inB_n (by omega) (by decide)) (Ok.pos (inB_n (by omega) (by decide)) (ih w o b _ (by omega) (by omega) ho (by omega) (h.add ho (by omega) ho1 hq)))
      refine Ok.ite (fun q2 => ?_) (fun q2 => ?_)
      · have : o = 0 := by
          by_cases z : o = 0
          · exact z
          · exact absurd q2 (pI_n (o := o) (by omega) (by omega)).1
        subst this
        exact takeAdd (fun j hj => absurd hj (by omega))
      · have hop : 0 < o := by
          by_cases z : o = 0
          · subst z; exact absurd pI_0 q2
          · omega
        obtain ⟨d, rfl⟩ : ∃ d, o = d + 1 := ⟨o - 1, by omega⟩
        obtain ⟨_, o2, o3⟩ := pI_n (o := d + 1) (by omega) (by omega)
        refine Ok.pos (inB_n (by omega) (by decide)) (Ok.pos (by rw [o2]; exact inB_n (by omega) (by decide)) (Ok.bindE (below_ok _ _) ?_))
        have eg : g (pI (d + 1)).toNatClampNeg = f d := by
          rw [o2, cl_n (by omega), show d + 1 - 1 = d by omega]
          exact h.1 d (by omega)
        rw [eg]
        refine Ok.ite (fun q3 => ?_) (fun q3 => ?_)
        · rw [bI_0, decide_eq_false_iff_not] at q3
          have hne : uN (f d) ≠ uN (oo b) := by
            intro e
            have e' := uN_inj e
            exact hd (f d) ((hf.2 _).2 ⟨d, by omega, by rw [Nat.zero_add]⟩) ((hoo.2 _).2 ⟨b, by omega, by rw [Nat.zero_add, e']⟩)
          refine takeAdd (fun j hj => ?_)
          by_cases z : j = d
          · subst z; omega
          · have := hf1 j d (by omega) (by omega)
            omega
        · rw [bI_n0, decide_eq_true_eq] at q3
          rw [o3, show d + 1 - 1 = d by omega, o2, show d + 1 - 1 = d by omega]
          refine Ok.pos (inB_n (by omega) (by decide)) (Ok.pos (inB_n (by omega) (by decide)) ?_)
          have hm := h.old (by omega) ha (by omega) hf1 (fun j hj => by
            by_cases z : j = b
            · subst z; exact q3
            · have := ho1 j b (by omega) (by omega)
              omega)
          rw [show d + 1 + b = d + (b + 1) by omega, ← pI_s b]
          exact ih w d (b + 1) _ (by omega) (by omega) (by omega) ha hm
theorem mergeIn_ok {f oo : Nat → Int64} {fu n c : Nat} {P Q : Int64 → Prop} (hfu : 1000 ≤ fu) (hf : Row f 0 n P) (hoo : Row oo 0 c Q) (hd : ∀ v, P v → ¬ Q v) (hN : n + c ≤ 896) (hc : c ≤ 64) : Ok (f_X1_mergeIn fu f oo (nI n) (nI c)) (fun q => q.2 = nI (n + c) ∧ Row q.1 0 (n + c) (fun v => P v ∨ Q v)) := by
  unfold f_X1_mergeIn
  rw [nI_add]
  have start : Mrg f oo n c n c f := by
    refine ⟨fun _ _ => rfl, fun i j h1 h2 h3 => absurd h3 (by omega), fun i h1 h2 => absurd h2 (by omega), fun v => ⟨?_, ?_⟩⟩
    · rintro ⟨i, h1, h2, _⟩; omega
    · rintro (⟨j, h1, h2, _⟩ | ⟨j, h1, h2, _⟩) <;> omega
  have key := merge_ok hf hoo hd hN hc (n + c) fu n c f (by omega) rfl (Nat.le_refl _) (Nat.le_refl _) start
  exact Ok.pos (nI_le (b := 896) hN (by decide)) (Ok.bind key (fun r h => Ok.some ⟨rfl, h⟩))
