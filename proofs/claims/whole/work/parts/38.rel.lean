/-! a shape's cells, as the cells of the piece seen from its own box; how many shapes there are -/
def bOf (t a : Nat) : Nat := ordT (t / 8 * 3 + a)
theorem bOf_lt0 : ∀ t, t < 48 → ∀ a, a < 3 → bOf t a < 3 := by decide +kernel
def rel (S : Int64) (t a c : Nat) : Nat := if t % 8 / 2 ^ a % 2 = 0 then co (bOf t a) c - lo S (bOf t a) else hi S (bOf t a) - co (bOf t a) c
theorem tcell_a {a : Nat} (ha : a < 3) (t c : Nat) : co a (tcell t c) = tco t a c := by
  have := tcell_co t c
  match a, ha with
  | 0, _ => exact this.1
  | 1, _ => exact this.2.1
  | 2, _ => exact this.2.2
theorem lo_trn {S : Int64} (h : S ≠ 0) {t a : Nat} (ht : t < 48) (ha : a < 3) : lo (trn S t) a = if t % 8 / 2 ^ a % 2 = 0 then lo S (bOf t a) else 3 - hi S (bOf t a) := by
  have hT := trn_img ht S
  apply lo_eq
  · intro j hj
    obtain ⟨c, hc, rfl⟩ := (hT j).1 hj
    rw [tcell_a ha]
    show (if _ then _ else _) ≤ (if _ then co (bOf t a) c else 3 - co (bOf t a) c)
    have h1 := lo_le (a := bOf t a) hc
    have h2 := hi_ge (a := bOf t a) hc
    by_cases q : t % 8 / 2 ^ a % 2 = 0
    · rw [if_pos q, if_pos q]; exact h1
    · rw [if_neg q, if_neg q]; exact Nat.sub_le_sub_left h2 3
  · by_cases q : t % 8 / 2 ^ a % 2 = 0
    · obtain ⟨c, _, hc, e⟩ := lo_at (bOf t a) h
      refine ⟨tcell t c, (hT _).2 ⟨c, hc, rfl⟩, ?_⟩
      rw [tcell_a ha, if_pos q, ← e]
      exact if_pos q
    · obtain ⟨c, _, hc, e⟩ := hi_at (bOf t a) h
      refine ⟨tcell t c, (hT _).2 ⟨c, hc, rfl⟩, ?_⟩
      rw [tcell_a ha, if_neg q, ← e]
      exact if_neg q
theorem tco_rel {S : Int64} {t a c : Nat} (ht : t < 48) (ha : a < 3) (hc : B S c = true) : tco t a c = rel S t a c + lo (trn S t) a := by
  have h0 : S ≠ 0 := B_ne.2 ⟨c, B_lt hc, hc⟩
  rw [lo_trn h0 ht ha]
  have h1 := lo_le (a := bOf t a) hc
  have h2 := hi_ge (a := bOf t a) hc
  have h3 := hi_lt S (bOf t a)
  show (if _ then co (bOf t a) c else 3 - co (bOf t a) c) = _
  unfold rel
  have g1 := Nat.sub_add_cancel h1
  have g2 := Nat.sub_add_cancel h2
  have g3 := Nat.sub_add_cancel (show hi S (bOf t a) ≤ 3 by omega)
  have g4 := Nat.sub_add_cancel (show co (bOf t a) c ≤ 3 by omega)
  by_cases q : t % 8 / 2 ^ a % 2 = 0
  · rw [if_pos q, if_pos q, if_pos q, g1]
  · rw [if_neg q, if_neg q, if_neg q]; omega
theorem rel_lt (S : Int64) (t a c : Nat) : rel S t a c < 4 := by
  unfold rel
  have h1 := co_lt (bOf t a) c
  have h3 := hi_lt S (bOf t a)
  split <;> omega
def rcell (S : Int64) (t c : Nat) : Nat := rel S t 0 c + 4 * rel S t 1 c + 16 * rel S t 2 c
theorem rcell_co (S : Int64) (t c : Nat) : co 0 (rcell S t c) = rel S t 0 c ∧ co 1 (rcell S t c) = rel S t 1 c ∧ co 2 (rcell S t c) = rel S t 2 c := co_of (rel_lt S t 0 c) (rel_lt S t 1 c) (rel_lt S t 2 c)
theorem rcell_a {a : Nat} (ha : a < 3) (S : Int64) (t c : Nat) : co a (rcell S t c) = rel S t a c := by
  have := rcell_co S t c
  match a, ha with
  | 0, _ => exact this.1
  | 1, _ => exact this.2.1
  | 2, _ => exact this.2.2
theorem shp1_img {S : Int64} {t : Nat} (ht : t < 48) : Img (rcell S t) S (shp1 S t) := by
  intro j
  have hT := trn_img ht S
  have e : ∀ c, B S c = true → tcell t c = rcell S t c + off (trn S t) := by
    intro c hc
    unfold tcell rcell off
    rw [tco_rel ht (by decide) hc, tco_rel ht (by decide) hc, tco_rel ht (by decide) hc]
    omega
  unfold shp1
  rw [st_B, hT]
  constructor
  · rintro ⟨c, hc, h⟩
    rw [e c hc] at h
    exact ⟨c, hc, by omega⟩
  · rintro ⟨c, hc, h⟩
    exact ⟨c, hc, by rw [e c hc, h]⟩
theorem shp1_ne {S : Int64} {t : Nat} (ht : t < 48) (h : S ≠ 0) : shp1 S t ≠ 0 := st_ne (trn_ne ht h)
/-- how long a set is on an axis, less 1 -/
def ext (S : Int64) (a : Nat) : Nat := hi S a - lo S a
theorem lo_hi {S : Int64} (a : Nat) (h : S ≠ 0) : lo S a ≤ hi S a := by
  obtain ⟨c, _, hc⟩ := B_ne.1 h
  exact Nat.le_trans (lo_le (a := a) hc) (hi_ge hc)
theorem lo_shp {S : Int64} {t a : Nat} (ht : t < 48) (ha : a < 3) (h : S ≠ 0) : lo (shp1 S t) a = 0 := by
  apply lo_eq (fun c _ => Nat.zero_le _)
  by_cases q : t % 8 / 2 ^ a % 2 = 0
  · obtain ⟨c, _, hc, e⟩ := lo_at (bOf t a) h
    refine ⟨rcell S t c, (shp1_img ht _).2 ⟨c, hc, rfl⟩, ?_⟩
    rw [rcell_a ha]
    unfold rel
    rw [if_pos q, e, Nat.sub_self]
  · obtain ⟨c, _, hc, e⟩ := hi_at (bOf t a) h
    refine ⟨rcell S t c, (shp1_img ht _).2 ⟨c, hc, rfl⟩, ?_⟩
    rw [rcell_a ha]
    unfold rel
    rw [if_neg q, e, Nat.sub_self]
theorem hi_shp {S : Int64} {t a : Nat} (ht : t < 48) (ha : a < 3) (h : S ≠ 0) : hi (shp1 S t) a = ext S (bOf t a) := by
  apply hi_eq
  · intro j hj
    obtain ⟨c, hc, rfl⟩ := (shp1_img ht j).1 hj
    rw [rcell_a ha]
    have h1 := lo_le (a := bOf t a) hc
    have h2 := hi_ge (a := bOf t a) hc
    unfold rel ext
    split <;> omega
  · by_cases q : t % 8 / 2 ^ a % 2 = 0
    · obtain ⟨c, _, hc, e⟩ := hi_at (bOf t a) h
      refine ⟨rcell S t c, (shp1_img ht _).2 ⟨c, hc, rfl⟩, ?_⟩
      rw [rcell_a ha]
      unfold rel ext
      rw [if_pos q, e]
    · obtain ⟨c, _, hc, e⟩ := lo_at (bOf t a) h
      refine ⟨rcell S t c, (shp1_img ht _).2 ⟨c, hc, rfl⟩, ?_⟩
      rw [rcell_a ha]
      unfold rel ext
      rw [if_neg q, e]
/-- how many moves a shape has in the box -/
def mvs3 (x y z : Nat) : Nat := (4 - x) * (4 - y) * (4 - z)
def mvs (s : Int64) : Nat := mvs3 (hi s 0) (hi s 1) (hi s 2)
def mvE (S : Int64) : Nat := mvs3 (ext S 0) (ext S 1) (ext S 2)
theorem bOf_perm : ∀ t, t < 48 → (bOf t 0 = 0 ∧ bOf t 1 = 1 ∧ bOf t 2 = 2) ∨ (bOf t 0 = 1 ∧ bOf t 1 = 2 ∧ bOf t 2 = 0) ∨ (bOf t 0 = 2 ∧ bOf t 1 = 0 ∧ bOf t 2 = 1) ∨ (bOf t 0 = 0 ∧ bOf t 1 = 2 ∧ bOf t 2 = 1) ∨ (bOf t 0 = 2 ∧ bOf t 1 = 1 ∧ bOf t 2 = 0) ∨ (bOf t 0 = 1 ∧ bOf t 1 = 0 ∧ bOf t 2 = 2) := by decide +kernel
theorem mvs_shp {S : Int64} {t : Nat} (ht : t < 48) (h : S ≠ 0) : mvs (shp1 S t) = mvE S := by
  unfold mvs mvE mvs3
  rw [hi_shp ht (by decide) h, hi_shp ht (by decide) h, hi_shp ht (by decide) h]
  rcases bOf_perm t ht with ⟨e0, e1, e2⟩ | ⟨e0, e1, e2⟩ | ⟨e0, e1, e2⟩ | ⟨e0, e1, e2⟩ | ⟨e0, e1, e2⟩ | ⟨e0, e1, e2⟩ <;> simp only [e0, e1, e2] <;> simp only [Nat.mul_comm, Nat.mul_left_comm, Nat.mul_assoc]
theorem pigeon : ∀ (n : Nat) (g : Nat → Nat) (L : List Nat), (∀ i, i < n → g i ∈ L) → (∀ i j, i < j → j < n → g i ≠ g j) → n ≤ L.length := by
  intro n
  induction n with
  | zero => intro g L _ _; omega
  | succ n ih =>
    intro g L h1 h2
    have hm := h1 n (by omega)
    have := ih g (L.erase (g n)) (fun i hi => (List.mem_erase_of_ne (h2 i n hi (by omega))).2 (h1 i (by omega))) (fun i j hij hj => h2 i j hij (by omega))
    rw [List.length_erase_of_mem hm] at this
    have hp : 0 < L.length := List.length_pos_of_mem hm
    omega
/-- as many shapes at most as different names for them -/
theorem shapes_le {f : Nat → Int64} {b n : Nat} {S : Int64} {m : Bool} (h : ShOK f b S m n) (nm : Nat → Nat) (L : List Nat) (hL : ∀ t, t < 48 → nm t ∈ L) (hn : ∀ t t', t < 48 → t' < 48 → nm t = nm t' → shp1 S t = shp1 S t') : n ≤ L.length := by
  have hx : ∀ i, i < n → ∃ t, t < 48 ∧ shp1 S t = f (b + i) := by
    intro i hi
    obtain ⟨_, t, ht, _, e⟩ := (h.2.2 _).2 ⟨i, hi, rfl⟩
    exact ⟨t, ht, e⟩
  have hx' : ∀ i, ∃ t, i < n → t < 48 ∧ shp1 S t = f (b + i) := by
    intro i
    by_cases hi : i < n
    · obtain ⟨t, ht⟩ := hx i hi
      exact ⟨t, fun _ => ht⟩
    · exact ⟨0, fun q => absurd q hi⟩
  let g : Nat → Nat := fun i => Classical.choose (hx' i)
  have hg : ∀ i, i < n → g i < 48 ∧ shp1 S (g i) = f (b + i) := fun i hi => Classical.choose_spec (hx' i) hi
  refine pigeon n (fun i => nm (g i)) L (fun i hi => hL _ (hg i hi).1) (fun i j hij hj e => ?_)
  have h1 := hg i (by omega)
  have h2 := hg j hj
  have h3 := hn _ _ h1.1 h2.1 e
  rw [h1.2, h2.2] at h3
  have := h.2.1 i j hij hj
  rw [h3] at this
  omega
/-- a turn with the signs left out that make no difference -/
def keepS (z t a : Nat) : Nat := if z / 2 ^ (bOf t a) % 2 = 1 then 0 else t % 8 / 2 ^ a % 2
def clr (z t : Nat) : Nat := t / 8 * 8 + (keepS z t 0 + 2 * keepS z t 1 + 4 * keepS z t 2)
def dd : List Nat → List Nat
  | [] => []
  | a :: l => if (dd l).contains a then dd l else a :: dd l
theorem dd_mem {x : Nat} : ∀ {l : List Nat}, x ∈ l → x ∈ dd l := by
  intro l
  induction l with
  | nil => intro h; cases h
  | cons a l ih =>
    intro h
    unfold dd
    by_cases q : (dd l).contains a = true
    · rw [if_pos q]
      rcases List.mem_cons.1 h with rfl | h
      · simpa using q
      · exact ih h
    · rw [if_neg q]
      rcases List.mem_cons.1 h with rfl | h
      · exact List.mem_cons_self
      · exact List.mem_cons_of_mem _ (ih h)
theorem shp1_ext {S : Int64} {t t' : Nat} (ht : t < 48) (ht' : t' < 48) (h : ∀ c, B S c = true → rcell S t c = rcell S t' c) : shp1 S t = shp1 S t' := by
  apply Sub.eq
  · intro j hj
    obtain ⟨c, hc, e⟩ := (shp1_img ht j).1 hj
    exact (shp1_img ht' j).2 ⟨c, hc, by rw [← h c hc, e]⟩
  · intro j hj
    obtain ⟨c, hc, e⟩ := (shp1_img ht' j).1 hj
    exact (shp1_img ht j).2 ⟨c, hc, by rw [h c hc, e]⟩
/-- which axes are flat -/
def flat (S : Int64) : Nat := (if ext S 0 = 0 then 1 else 0) + (if ext S 1 = 0 then 2 else 0) + (if ext S 2 = 0 then 4 else 0)
theorem flat_bit (S : Int64) {b : Nat} (hb : b < 3) : flat S / 2 ^ b % 2 = 1 ↔ ext S b = 0 := by
  unfold flat
  match b, hb with
  | 0, _ => split <;> split <;> split <;> simp_all
  | 1, _ => split <;> split <;> split <;> simp_all
  | 2, _ => split <;> split <;> split <;> simp_all
theorem clr_eq : ∀ z, z < 8 → ∀ t, t < 48 → clr z t < 48 ∧ clr z t / 8 = t / 8 ∧ clr z t % 8 / 2 ^ 0 % 2 = keepS z t 0 ∧ clr z t % 8 / 2 ^ 1 % 2 = keepS z t 1 ∧ clr z t % 8 / 2 ^ 2 % 2 = keepS z t 2 := by decide +kernel
theorem rel_clr {S : Int64} {t a c : Nat} (ht : t < 48) (ha : a < 3) (hc : B S c = true) : rel S (clr (flat S) t) a c = rel S t a c := by
  have hz : flat S < 8 := by unfold flat; split <;> split <;> split <;> omega
  obtain ⟨h0, h1, h2, h3, h4⟩ := clr_eq (flat S) hz t ht
  have hk : clr (flat S) t % 8 / 2 ^ a % 2 = keepS (flat S) t a := by
    match a, ha with
    | 0, _ => exact h2
    | 1, _ => exact h3
    | 2, _ => exact h4
  have hb : bOf (clr (flat S) t) a = bOf t a := by unfold bOf; rw [h1]
  unfold rel
  rw [hk, hb]
  unfold keepS
  have hb3 := bOf_lt0 t ht a ha
  have l1 := lo_le (a := bOf t a) hc
  have l2 := hi_ge (a := bOf t a) hc
  by_cases q : flat S / 2 ^ (bOf t a) % 2 = 1
  · have e := (flat_bit S hb3).1 q
    unfold ext at e
    rw [if_pos q, if_pos rfl]
    split <;> omega
  · rw [if_neg q]
theorem shp1_clr {S : Int64} {t : Nat} (ht : t < 48) : shp1 S t = shp1 S (clr (flat S) t) := by
  have hz : flat S < 8 := by unfold flat; split <;> split <;> split <;> omega
  refine shp1_ext ht (clr_eq (flat S) hz t ht).1 (fun c hc => ?_)
  unfold rcell
  rw [rel_clr ht (by decide) hc, rel_clr ht (by decide) hc, rel_clr ht (by decide) hc]
def clrs (z : Nat) : List Nat := dd ((List.range 48).map (clr z))
theorem clrs_le : ∀ z, z < 8 → (clrs z).length ≤ 48 ∧ (0 < z → (clrs z).length ≤ 24) ∧ (z = 3 ∨ z = 5 ∨ z = 6 → (clrs z).length ≤ 12) ∧ (z = 7 → (clrs z).length ≤ 6) := by decide +kernel
theorem shapes_clr {f : Nat → Int64} {b n : Nat} {S : Int64} {m : Bool} (h : ShOK f b S m n) : n ≤ (clrs (flat S)).length :=
  shapes_le h (clr (flat S)) _ (fun t ht => dd_mem (List.mem_map.2 ⟨t, List.mem_range.2 ht, rfl⟩)) (fun t t' ht ht' e => by rw [shp1_clr ht, shp1_clr ht', e])
/-- the corners of a box of 2 by 2 by 2 -/
def vc (a j : Nat) : Nat := j / 2 ^ a % 2
def vt (t a j : Nat) : Nat := if t % 8 / 2 ^ a % 2 = 0 then vc (bOf t a) j else 1 - vc (bOf t a) j
def vim (t j : Nat) : Nat := vt t 0 j + 2 * vt t 1 j + 4 * vt t 2 j
def vmk (M t : Nat) : Nat := (List.range 8).foldl (fun r j => if M.testBit j then r ||| 2 ^ vim t j else r) 0
theorem vmk_le : ∀ M, M < 256 → (dd ((List.range 48).map (vmk M))).length ≤ 24 := by decide +kernel
