/-! the places are at most 896 -/
theorem fold_or (M : Nat) (f : Nat → Nat) (w : Nat) : ∀ (l : List Nat) (r : Nat), (l.foldl (fun r j => if M.testBit j then r ||| 2 ^ f j else r) r).testBit w = (r.testBit w || l.any (fun j => M.testBit j && decide (f j = w))) := by
  intro l
  induction l with
  | nil => intro r; simp
  | cons a l ih =>
    intro r
    rw [List.foldl_cons, ih, List.any_cons]
    cases h : M.testBit a
    · simp
    · simp [Nat.testBit_or, Nat.testBit_two_pow, Bool.or_assoc]
theorem vmk_bit (M t w : Nat) : (vmk M t).testBit w = true ↔ ∃ j, j < 8 ∧ M.testBit j = true ∧ vim t j = w := by
  unfold vmk
  rw [fold_or, Nat.zero_testBit, Bool.false_or, List.any_eq_true]
  constructor
  · rintro ⟨j, h1, h2⟩
    rw [Bool.and_eq_true, decide_eq_true_eq] at h2
    exact ⟨j, List.mem_range.1 h1, h2⟩
  · rintro ⟨j, h1, h2⟩
    exact ⟨j, List.mem_range.2 h1, by rw [Bool.and_eq_true, decide_eq_true_eq]; exact h2⟩
theorem mask_of (p : Nat → Bool) : ∀ n, ∃ M, M < 2 ^ n ∧ ∀ j, j < n → M.testBit j = p j := by
  intro n
  induction n with
  | zero => exact ⟨0, by decide, fun j hj => absurd hj (by omega)⟩
  | succ n ih =>
    obtain ⟨M, h1, h2⟩ := ih
    have hp : 2 ^ (n + 1) = 2 ^ n + 2 ^ n := by rw [Nat.pow_succ]; omega
    cases hq : p n
    · refine ⟨M, by omega, fun j hj => ?_⟩
      by_cases e : j = n
      · subst e; rw [hq]; exact Nat.testBit_lt_two_pow h1
      · exact h2 j (by omega)
    · refine ⟨2 ^ n + M, by omega, fun j hj => ?_⟩
      by_cases e : j = n
      · subst e; rw [hq, Nat.testBit_two_pow_add_eq, Nat.testBit_lt_two_pow h1]; rfl
      · rw [Nat.testBit_two_pow_add_gt (by omega)]; exact h2 j (by omega)
def jv (S : Int64) (c : Nat) : Nat := (co 0 c - lo S 0) + 2 * (co 1 c - lo S 1) + 4 * (co 2 c - lo S 2)
theorem vc_of {x y z : Nat} (hx : x < 2) (hy : y < 2) (hz : z < 2) : vc 0 (x + 2 * y + 4 * z) = x ∧ vc 1 (x + 2 * y + 4 * z) = y ∧ vc 2 (x + 2 * y + 4 * z) = z := by
  unfold vc
  omega
theorem vt_lt (t a j : Nat) : vt t a j < 2 := by
  unfold vt vc
  split <;> omega
def vcell (w : Nat) : Nat := vc 0 w + 4 * vc 1 w + 16 * vc 2 w
theorem small_rel {S : Int64} (h0 : ext S 0 = 1) (h1 : ext S 1 = 1) (h2 : ext S 2 = 1) {t c : Nat} (ht : t < 48) (hc : B S c = true) : rcell S t c = vcell (vim t (jv S c)) ∧ jv S c < 8 := by
  have l0 := lo_le (a := 0) hc
  have l1 := lo_le (a := 1) hc
  have l2 := lo_le (a := 2) hc
  have g0 := hi_ge (a := 0) hc
  have g1 := hi_ge (a := 1) hc
  have g2 := hi_ge (a := 2) hc
  unfold ext at h0 h1 h2
  have hv := vc_of (x := co 0 c - lo S 0) (y := co 1 c - lo S 1) (z := co 2 c - lo S 2) (by omega) (by omega) (by omega)
  have hb : ∀ b, b < 3 → vc b (jv S c) = co b c - lo S b ∧ hi S b - co b c = 1 - (co b c - lo S b) := by
    intro b hb
    unfold jv
    match b, hb with
    | 0, _ => exact ⟨hv.1, by omega⟩
    | 1, _ => exact ⟨hv.2.1, by omega⟩
    | 2, _ => exact ⟨hv.2.2, by omega⟩
  have hr : ∀ a, a < 3 → rel S t a c = vt t a (jv S c) := by
    intro a ha
    have q := hb _ (bOf_lt0 t ht a ha)
    unfold rel vt
    rw [q.1, q.2]
  have hi3 := vc_of (vt_lt t 0 (jv S c)) (vt_lt t 1 (jv S c)) (vt_lt t 2 (jv S c))
  refine ⟨?_, by unfold jv; omega⟩
  unfold rcell vcell vim
  rw [hi3.1, hi3.2.1, hi3.2.2, hr 0 (by decide), hr 1 (by decide), hr 2 (by decide)]
theorem shapes_small {f : Nat → Int64} {b n : Nat} {S : Int64} {m : Bool} (h : ShOK f b S m n) (h0 : ext S 0 = 1) (h1 : ext S 1 = 1) (h2 : ext S 2 = 1) : n ≤ 24 := by
  obtain ⟨M, hM, hb⟩ := mask_of (fun j => (List.range 64).any (fun c => B S c && decide (jv S c = j))) 8
  have hb' : ∀ j, j < 8 → (M.testBit j = true ↔ ∃ c, B S c = true ∧ jv S c = j) := by
    intro j hj
    rw [hb j hj, List.any_eq_true]
    constructor
    · rintro ⟨c, _, q⟩
      rw [Bool.and_eq_true, decide_eq_true_eq] at q
      exact ⟨c, q⟩
    · rintro ⟨c, q⟩
      exact ⟨c, List.mem_range.2 (B_lt q.1), by rw [Bool.and_eq_true, decide_eq_true_eq]; exact q⟩
  have key : ∀ t, t < 48 → ∀ j, B (shp1 S t) j = true ↔ ∃ w, (vmk M t).testBit w = true ∧ vcell w = j := by
    intro t ht j
    rw [shp1_img ht j]
    constructor
    · rintro ⟨c, hc, e⟩
      have q := small_rel h0 h1 h2 ht hc
      exact ⟨vim t (jv S c), (vmk_bit _ _ _).2 ⟨jv S c, q.2, (hb' _ q.2).2 ⟨c, hc, rfl⟩, rfl⟩, by rw [← q.1, e]⟩
    · rintro ⟨w, hw, e⟩
      obtain ⟨i, hi, hMi, rfl⟩ := (vmk_bit _ _ _).1 hw
      obtain ⟨c, hc, rfl⟩ := (hb' i hi).1 hMi
      exact ⟨c, hc, by rw [(small_rel h0 h1 h2 ht hc).1, e]⟩
  have hl := vmk_le M hM
  refine Nat.le_trans (shapes_le h (vmk M) _ (fun t ht => dd_mem (List.mem_map.2 ⟨t, List.mem_range.2 ht, rfl⟩)) (fun t t' ht ht' e => ?_)) hl
  apply Sub.eq
  · intro j hj
    obtain ⟨w, hw⟩ := (key t ht j).1 hj
    rw [e] at hw
    exact (key t' ht' j).2 ⟨w, hw⟩
  · intro j hj
    obtain ⟨w, hw⟩ := (key t' ht' j).1 hj
    rw [← e] at hw
    exact (key t ht j).2 ⟨w, hw⟩
def fl3 (x y z : Nat) : Nat := (if x = 0 then 1 else 0) + (if y = 0 then 2 else 0) + (if z = 0 then 4 else 0)
def cap (x y z : Nat) : Nat := if x = 1 ∧ y = 1 ∧ z = 1 then 24 else (clrs (fl3 x y z)).length
theorem cap_le : ∀ x, x < 4 → ∀ y, y < 4 → ∀ z, z < 4 → cap x y z * mvs3 x y z ≤ 896 := by decide +kernel
theorem ext_lt (S : Int64) (a : Nat) : ext S a < 4 := by
  have := hi_lt S a
  unfold ext
  omega
theorem most {f : Nat → Int64} {b n : Nat} {S : Int64} {m : Bool} (h : ShOK f b S m n) : n * mvE S ≤ 896 := by
  have hc : n ≤ cap (ext S 0) (ext S 1) (ext S 2) := by
    unfold cap
    by_cases q : ext S 0 = 1 ∧ ext S 1 = 1 ∧ ext S 2 = 1
    · rw [if_pos q]; exact shapes_small h q.1 q.2.1 q.2.2
    · rw [if_neg q]; exact shapes_clr h
  exact Nat.le_trans (Nat.mul_le_mul_right _ hc) (cap_le _ (ext_lt S 0) _ (ext_lt S 1) _ (ext_lt S 2))
