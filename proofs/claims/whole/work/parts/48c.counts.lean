/-! how many cells: images, places, what a search has chosen -/
def cF (f : Nat → Bool) : Nat → Nat
  | 0 => 0
  | m + 1 => cF f m + (if f m then 1 else 0)
theorem cnt_F (x : Int64) : cnt x = cF (B x) 64 := by
  have : ∀ m, cntN (uN x) m = cF (B x) m := by
    intro m
    induction m with
    | zero => rfl
    | succ m ih =>
      show cntN (uN x) m + (if (uN x).testBit m then 1 else 0) = cF (B x) m + (if B x m then 1 else 0)
      rw [ih]
      rfl
  exact this 64
theorem cF_congr {f g : Nat → Bool} : ∀ m, (∀ c, c < m → f c = g c) → cF f m = cF g m := by
  intro m
  induction m with
  | zero => intro _; rfl
  | succ m ih =>
    intro h
    show cF f m + (if f m then 1 else 0) = cF g m + (if g m then 1 else 0)
    rw [ih (fun c hc => h c (by omega)), h m (by omega)]
theorem cF_del {f : Nat → Bool} {d : Nat} (h : f d = true) : ∀ m, d < m → cF f m = cF (fun c => f c && decide (c ≠ d)) m + 1 := by
  intro m
  induction m with
  | zero => intro hd; omega
  | succ m ih =>
    intro hd
    show cF f m + (if f m then 1 else 0) = cF (fun c => f c && decide (c ≠ d)) m + (if (f m && decide (m ≠ d)) then 1 else 0) + 1
    by_cases z : m = d
    · subst z
      have : cF (fun c => f c && decide (c ≠ m)) m = cF f m := cF_congr m (fun c hc => by rw [decide_eq_true (show c ≠ m by omega), Bool.and_true])
      rw [this, h]
      simp
    · rw [ih (by omega), decide_eq_true (show m ≠ d from z), Bool.and_true]
      omega
theorem cF_0 {f : Nat → Bool} : ∀ m, (∀ c, c < m → f c = false) → cF f m = 0 := by
  intro m
  induction m with
  | zero => intro _; rfl
  | succ m ih =>
    intro h
    show cF f m + (if f m then 1 else 0) = 0
    rw [ih (fun c hc => h c (by omega)), h m (by omega)]
    rfl
theorem cF_inj : ∀ k (f g : Nat → Bool) (h : Nat → Nat), cF f 64 = k → (∀ c, c < 64 → f c = true → h c < 64 ∧ g (h c) = true) → (∀ c d, c < 64 → d < 64 → f c = true → f d = true → h c = h d → c = d) → cF f 64 ≤ cF g 64 := by
  intro k
  induction k with
  | zero => intro f g h e _ _; omega
  | succ k ih =>
    intro f g h e h1 h2
    have hex : ∃ d, d < 64 ∧ f d = true := by
      apply Classical.byContradiction
      intro z
      have := cF_0 (f := f) 64 (fun c hc => by
        cases hf : f c
        · rfl
        · exact absurd ⟨c, hc, hf⟩ z)
      omega
    obtain ⟨d, hd, hfd⟩ := hex
    obtain ⟨g1, g2⟩ := h1 d hd hfd
    have e1 := cF_del hfd 64 hd
    have e2 := cF_del g2 64 g1
    have := ih (fun c => f c && decide (c ≠ d)) (fun c => g c && decide (c ≠ h d)) h (by omega) (fun c hc hf => by
      rw [Bool.and_eq_true, decide_eq_true_eq] at hf
      obtain ⟨k1, k2⟩ := h1 c hc hf.1
      refine ⟨k1, ?_⟩
      show (g (h c) && decide (h c ≠ h d)) = true
      rw [k2, Bool.true_and, decide_eq_true_eq]
      intro z
      exact hf.2 (h2 c d hc hd hf.1 hfd z)) (fun c c' hc hc' hf hf' e => by
      rw [Bool.and_eq_true] at hf hf'
      exact h2 c c' hc hc' hf.1 hf'.1 e)
    omega
theorem img_cnt {g : Nat → Nat} {S T : Int64} (h : Img g S T) : cnt T ≤ cnt S := by
  have h3 : ∀ j, ∃ c, B T j = true → B S c = true ∧ g c = j := by
    intro j
    by_cases z : B T j = true
    · obtain ⟨c, hc⟩ := (h j).1 z
      exact ⟨c, fun _ => hc⟩
    · exact ⟨0, fun y => absurd y z⟩
  obtain ⟨k, hk⟩ := Classical.axiomOfChoice h3
  rw [cnt_F, cnt_F]
  refine cF_inj _ _ _ k rfl (fun c hc hT => ⟨B_lt (hk c hT).1, (hk c hT).1⟩) (fun c d hc hd h1 h2 e => ?_)
  have := (hk c h1).2
  rw [e, (hk d h2).2] at this
  exact this.symm
theorem shp_cnt {S : Int64} {m : Bool} {v : Int64} (h : ShP S m v) : cnt v ≤ cnt S := by
  obtain ⟨t, ht, _, rfl⟩ := h
  exact img_cnt (shp1_img ht)
theorem shl_cnt {s : Int64} {m : Nat} (hm : m < 64) (hf : fits s m = true) : cnt (shl s m) ≤ cnt s := img_cnt (g := fun c => c + m) (fun j => shl_img hm hf j)
theorem plp_cnt {S : Int64} {m : Bool} {W v : Int64} (h : PlP S m W v) : cnt v ≤ cnt S := by
  obtain ⟨_, s, hs, k, hk, hf, rfl, _⟩ := h
  exact Nat.le_trans (shl_cnt hk hf) (shp_cnt hs)
theorem plok_cnt {f : Nat → Int64} {b n : Nat} {S : Int64} {m : Bool} {W : Int64} (h : PlOK f b S m W n) {j : Nat} (hj : j < n) : cnt (f (b + j)) ≤ cnt S := plp_cnt ((h.2.2 _).2 ⟨j, hj, rfl⟩)
/-- all that a search chooses are places -/
def ChP (PL : Nat → Nat → Int64) (n : Nat → Nat) (M : Nat) (c : Nat → Int64) : Prop := ∀ p, p < 6 → c p = 0 ∨ ∃ j, j < n p ∧ M.testBit p = true ∧ c p = PL p j
theorem cL_mem {ok : Nat → Bool} : ∀ k i j, j ∈ cL ok k i → ok j = true := by
  intro k
  induction k with
  | zero => intro i j h; cases h
  | succ k ih =>
    intro i j h
    unfold cL at h
    cases hi : ok i
    · rw [hi] at h
      exact ih _ _ h
    · rw [hi] at h
      rcases List.mem_cons.1 h with rfl | h
      · exact hi
      · exact ih _ _ h
theorem evP_mem {PL : Nat → Nat → Int64} {n : Nat → Nat} {M : Nat} {sub : Int64 → Nat → (Nat → Int64) → List Ev} (hsub : ∀ T L ch c, (∀ p, p < 6 → L.testBit p = true → M.testBit p = true) → L < 64 → ChP PL n M ch → some c ∈ sub T L ch → ChP PL n M c) {T : Int64} {L : Nat} {ch : Nat → Int64} {cl p k i : Nat} (hp : p < 6) (hL : L < 64) (hLM : ∀ p, p < 6 → L.testBit p = true → M.testBit p = true) (hb : L.testBit p = true) (hch : ChP PL n M ch) {c : Nat → Int64} (h : some c ∈ evP PL n sub T L ch cl p k i) : ChP PL n M c := by
  unfold evP at h
  obtain ⟨j, hj, hc⟩ := List.mem_flatMap.1 h
  have hok := cL_mem _ _ _ hj
  have hjn : j < n p := by
    unfold okc at hok
    rw [Bool.and_eq_true, decide_eq_true_eq] at hok
    exact hok.1
  unfold evC at hc
  rcases List.mem_cons.1 hc with hc | hc
  · cases hc
  · by_cases z : PL p j &&& T = 0
    · rw [if_pos z] at hc
      refine hsub _ _ _ c (fun q hq hqb => ?_) (clrB_lt L hL p hp) (fun q hq => ?_) hc
      · rw [clrB_b0 L hL p hp q hq, Bool.and_eq_true] at hqb
        exact hLM q hq hqb.1
      · by_cases y : q = p
        · subst y
          rw [vu_s]
          exact Or.inr ⟨j, hjn, hLM q hq hb, rfl⟩
        · rw [vu_n y]
          exact hch q hq
    · rw [if_neg z] at hc
      cases hc
theorem evs_mem {PL : Nat → Nat → Int64} {n : Nat → Nat} {su : Int64} {M : Nat} : ∀ k T L ch c, (∀ p, p < 6 → L.testBit p = true → M.testBit p = true) → L < 64 → ChP PL n M ch → some c ∈ evs PL n su k T L ch → ChP PL n M c := by
  intro k
  induction k with
  | zero => intro T L ch c _ _ _ h; cases h
  | succ k ih =>
    intro T L ch c hLM hL hch h
    have e : evs PL n su (k + 1) T L ch = if L = 0 then (if clO su T = 64 then [some ch] else []) else if clO su T = 64 then evP PL n (evs PL n su k) T L ch 64 (lowP L) 896 0 else evQ PL n (evs PL n su k) T L ch (clO su T) 6 0 := rfl
    rw [e] at h
    by_cases h0 : L = 0
    · rw [if_pos h0] at h
      by_cases z : clO su T = 64
      · rw [if_pos z] at h
        rcases List.mem_cons.1 h with h | h
        · cases h; exact hch
        · cases h
      · rw [if_neg z] at h
        cases h
    · rw [if_neg h0] at h
      obtain ⟨l1, l2, _, _⟩ := lowP_ok L hL h0
      by_cases z : clO su T = 64
      · rw [if_pos z] at h
        exact evP_mem ih l1 hL hLM l2 hch h
      · rw [if_neg z] at h
        have key : ∀ m q, m + q ≤ 6 → some c ∈ evQ PL n (evs PL n su k) T L ch (clO su T) m q → ChP PL n M c := by
          intro m
          induction m with
          | zero => intro q _ h; cases h
          | succ m ihm =>
            intro q hq h
            unfold evQ at h
            rcases List.mem_append.1 h with h | h
            · by_cases y : L.testBit q = true
              · rw [if_pos y] at h
                exact evP_mem ih (by omega) hL hLM y hch h
              · rw [if_neg y] at h
                cases h
            · exact ihm (q + 1) (by omega) h
        exact key 6 0 (by omega) h
theorem run1_mem {bud : Nat} {wan : Int32} : ∀ (a : List Ev) t f c, (run1 bud wan a t f).2.2 = some (some c) → some c ∈ a := by
  intro a
  induction a with
  | nil => intro t f c q; cases q
  | cons e a ih =>
    intro t f c
    cases e with
    | none =>
      have e : run1 bud wan (none :: a) t f = if t < bud then run1 bud wan a (t + 1) f else (t, f, some none) := rfl
      rw [e]
      by_cases q : t < bud
      · rw [if_pos q]
        intro z
        exact List.mem_cons_of_mem _ (ih _ _ c z)
      · rw [if_neg q]; intro z; cases z
    | some ch =>
      have e : run1 bud wan (some ch :: a) t f = if nI f = wan then (t, f + 1, some (some ch)) else run1 bud wan a t (f + 1) := rfl
      rw [e]
      by_cases q : nI f = wan
      · rw [if_pos q]
        intro z
        cases z
        exact List.mem_cons_self
      · rw [if_neg q]
        intro z
        exact List.mem_cons_of_mem _ (ih _ _ c z)
theorem chosen_cnt {W su : Int64} {S : Nat → Int64} {mb : Nat → Bool} {PL : Nat → Nat → Int64} {n : Nat → Nat} {M : Nat} (hK : PLK W S mb PL n M) (hc : ∀ p, p < 6 → cnt (S p) ≤ 10) {bud : Nat} {wan : Int32} {c : Nat → Int64} (h : (run bud wan (evs PL n su 7 0 M (fun _ => 0)) (0, 0, none)).2.2 = some (some c)) {p : Nat} (hp : p < 6) : cnt (c p) ≤ 10 := by
  have hm := run1_mem _ 0 0 c (show (run1 bud wan (evs PL n su 7 0 M (fun _ => 0)) 0 0).2.2 = some (some c) from h)
  have := evs_mem 7 0 M (fun _ => 0) c (fun p _ hb => hb) hK.1 (fun p _ => Or.inl rfl) hm p hp
  rcases this with e | ⟨j, h1, h2, e⟩
  · rw [e]
    have : cnt 0 = 0 := by decide +kernel
    omega
  · rw [e]
    have := plok_cnt ((hK.2 p hp).2 h2) h1
    rw [Nat.zero_add] at this
    exact Nat.le_trans this (hc p hp)
