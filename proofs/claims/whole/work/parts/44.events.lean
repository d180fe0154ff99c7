/-! the search as a list of events: none is a try, some c a packing with what it chose -/
abbrev Ev : Type := Option (Nat → Int64)
def lowI (x : Int64) : Nat := ((List.range 64).find? (B x)).getD 64
theorem lowI_ne {x : Int64} (h : x ≠ 0) : lowI x < 64 ∧ B x (lowI x) = true ∧ (∀ j, j < lowI x → B x j = false) := by
  obtain ⟨k, h1, h2, h3⟩ := B_low h
  have e : lowI x = k := by
    unfold lowI
    have : (List.range 64).find? (B x) = some k := by
      rw [List.find?_range_eq_some]
      exact ⟨h2, List.mem_range.2 h1, fun j hj => by rw [h3 j hj]; rfl⟩
    rw [this]
    rfl
  rw [e]
  exact ⟨h1, h2, h3⟩
theorem lowI_0 : lowI 0 = 64 := by
  unfold lowI
  have : (List.range 64).find? (B 0) = none := by
    rw [List.find?_eq_none]
    intro c _
    rw [B_0]
    decide
  rw [this]
  rfl
theorem lowI_64 {x : Int64} : lowI x = 64 ↔ x = 0 := by
  constructor
  · intro h
    apply Classical.byContradiction
    intro q
    have := (lowI_ne q).1
    omega
  · rintro rfl
    exact lowI_0
theorem lowest_I {x : Int64} (h : x ≠ 0) : f_X0_lowest x = some (nI (lowI x)) := by
  obtain ⟨h1, h2, h3⟩ := lowI_ne h
  exact lowest_ok h1 h2 h3
/-- pieces as a mask -/
def clrB (L p : Nat) : Nat := if L.testBit p then L - 2 ^ p else L
def lowP (L : Nat) : Nat := ((List.range 6).find? L.testBit).getD 6
def pc (L : Nat) : Nat := cntN L 6
theorem clrB_i : ∀ L, L < 64 → ∀ p, p < 6 → nI L &&& (((1 : Int32) <<< (nI p &&& 31)) ^^^ (-1 : Int32)) = nI (clrB L p) := by decide +kernel
theorem clrB_lt : ∀ L, L < 64 → ∀ p, p < 6 → clrB L p < 64 := by decide +kernel
theorem clrB_b0 : ∀ L, L < 64 → ∀ p, p < 6 → ∀ q, q < 6 → (clrB L p).testBit q = (L.testBit q && !decide (q = p)) := by decide +kernel
theorem clrB_pc : ∀ L, L < 64 → ∀ p, p < 6 → L.testBit p = true → pc (clrB L p) + 1 = pc L := by decide +kernel
theorem pc_0 : ∀ L, L < 64 → pc L = 0 → L = 0 := by decide +kernel
theorem lowP_ok : ∀ L, L < 64 → L ≠ 0 → lowP L < 6 ∧ L.testBit (lowP L) = true ∧ (∀ q, q < 6 → q < lowP L → L.testBit q = false) ∧ f_X6_lowestPiece (nI L) = some (nI (lowP L)) := by decide +kernel
def okc (PL : Nat → Nat → Int64) (n : Nat → Nat) (cl p j : Nat) : Bool := decide (j < n p) && (decide (cl = 64) || B (PL p j) cl)
def cL (ok : Nat → Bool) : Nat → Nat → List Nat
  | 0, _ => []
  | k + 1, i => if ok i then i :: cL ok k (i + 1) else cL ok k (i + 1)
theorem cL_add (ok : Nat → Bool) (b : Nat) : ∀ a i, cL ok (a + b) i = cL ok a i ++ cL ok b (i + a) := by
  intro a
  induction a with
  | zero => intro i; rw [Nat.zero_add]; rfl
  | succ a ih =>
    intro i
    rw [show a + 1 + b = (a + b) + 1 by omega]
    show (if ok i then i :: cL ok (a + b) (i + 1) else cL ok (a + b) (i + 1)) = (if ok i then i :: cL ok a (i + 1) else cL ok a (i + 1)) ++ cL ok b (i + (a + 1))
    rw [ih, show i + 1 + a = i + (a + 1) by omega]
    cases ok i
    · rfl
    · rfl
theorem cL_nil {ok : Nat → Bool} : ∀ k i, (∀ j, i ≤ j → j < i + k → ok j = false) → cL ok k i = [] := by
  intro k
  induction k with
  | zero => intro i _; rfl
  | succ k ih =>
    intro i h
    unfold cL
    rw [h i (Nat.le_refl _) (by omega)]
    exact ih (i + 1) (fun j h1 h2 => h j (by omega) (by omega))
def evC (PL : Nat → Nat → Int64) (sub : Int64 → Nat → (Nat → Int64) → List Ev) (T : Int64) (L : Nat) (ch : Nat → Int64) (p j : Nat) : List Ev := none :: (if PL p j &&& T = 0 then sub (T ||| PL p j) (clrB L p) (va_up ch p (PL p j)) else [])
def evP (PL : Nat → Nat → Int64) (n : Nat → Nat) (sub : Int64 → Nat → (Nat → Int64) → List Ev) (T : Int64) (L : Nat) (ch : Nat → Int64) (cl p k i : Nat) : List Ev := (cL (okc PL n cl p) k i).flatMap (evC PL sub T L ch p)
def evQ (PL : Nat → Nat → Int64) (n : Nat → Nat) (sub : Int64 → Nat → (Nat → Int64) → List Ev) (T : Int64) (L : Nat) (ch : Nat → Int64) (cl : Nat) : Nat → Nat → List Ev
  | 0, _ => []
  | k + 1, p => (if L.testBit p then evP PL n sub T L ch cl p 896 0 else []) ++ evQ PL n sub T L ch cl k (p + 1)
/-- the cell that is to be filled next, or 64 -/
def clO (su T : Int64) : Nat := lowI (su &&& (T ^^^ (-1 : Int64)))
/-- all events below a node -/
def evs (PL : Nat → Nat → Int64) (n : Nat → Nat) (su : Int64) : Nat → Int64 → Nat → (Nat → Int64) → List Ev
  | 0, _, _, _ => []
  | k + 1, T, L, ch => if L = 0 then (if clO su T = 64 then [some ch] else []) else if clO su T = 64 then evP PL n (evs PL n su k) T L ch 64 (lowP L) 896 0 else evQ PL n (evs PL n su k) T L ch (clO su T) 6 0
abbrev Rs : Type := Nat × Nat × Option (Option (Nat → Int64))
/-- what comes of a list of events: tries, packings, and how it ended -/
def run1 (bud : Nat) (wan : Int32) : List Ev → Nat → Nat → Rs
  | [], t, f => (t, f, none)
  | none :: es, t, f => if t < bud then run1 bud wan es (t + 1) f else (t, f, some none)
  | some ch :: es, t, f => if nI f = wan then (t, f + 1, some (some ch)) else run1 bud wan es t (f + 1)
def run (bud : Nat) (wan : Int32) (es : List Ev) (r : Rs) : Rs :=
  match r.2.2 with
  | none => run1 bud wan es r.1 r.2.1
  | some _ => r
theorem run_end {bud : Nat} {wan : Int32} {es : List Ev} {r : Rs} {x : Option (Nat → Int64)} (h : r.2.2 = some x) : run bud wan es r = r := by
  unfold run
  rw [h]
theorem run_nil {bud : Nat} {wan : Int32} (r : Rs) : run bud wan [] r = r := by
  obtain ⟨t, f, s⟩ := r
  cases s <;> rfl
theorem run1_app {bud : Nat} {wan : Int32} : ∀ (a b : List Ev) t f, run1 bud wan (a ++ b) t f = run bud wan b (run1 bud wan a t f) := by
  intro a
  induction a with
  | nil => intro b t f; rfl
  | cons e a ih =>
    intro b t f
    cases e with
    | none =>
      show (if t < bud then run1 bud wan (a ++ b) (t + 1) f else (t, f, some none)) = run bud wan b (if t < bud then run1 bud wan a (t + 1) f else (t, f, some none))
      by_cases h : t < bud
      · rw [if_pos h, if_pos h, ih]
      · rw [if_neg h, if_neg h]; rfl
    | some ch =>
      show (if nI f = wan then (t, f + 1, some (some ch)) else run1 bud wan (a ++ b) t (f + 1)) = run bud wan b (if nI f = wan then (t, f + 1, some (some ch)) else run1 bud wan a t (f + 1))
      by_cases h : nI f = wan
      · rw [if_pos h, if_pos h]; rfl
      · rw [if_neg h, if_neg h, ih]
theorem run_app {bud : Nat} {wan : Int32} (a b : List Ev) (r : Rs) : run bud wan (a ++ b) r = run bud wan b (run bud wan a r) := by
  obtain ⟨t, f, s⟩ := r
  cases s with
  | none => exact run1_app a b t f
  | some x => rfl
/-- tries and packings stay in bounds -/
theorem run1_le {bud : Nat} {wan : Int32} : ∀ (a : List Ev) t f, t ≤ bud → (run1 bud wan a t f).1 ≤ bud := by
  intro a
  induction a with
  | nil => intro t f h; exact h
  | cons e a ih =>
    intro t f h
    cases e with
    | none =>
      show (if t < bud then run1 bud wan a (t + 1) f else (t, f, some none)).1 ≤ bud
      by_cases q : t < bud
      · rw [if_pos q]; exact ih _ _ (by omega)
      · rw [if_neg q]; exact h
    | some ch =>
      show (if nI f = wan then (t, f + 1, some (some ch)) else run1 bud wan a t (f + 1)).1 ≤ bud
      by_cases q : nI f = wan
      · rw [if_pos q]; exact h
      · rw [if_neg q]; exact ih _ _ h
theorem run_le {bud : Nat} {wan : Int32} (a : List Ev) (r : Rs) (h : r.1 ≤ bud) : (run bud wan a r).1 ≤ bud := by
  obtain ⟨t, f, s⟩ := r
  cases s with
  | none => exact run1_le a t f h
  | some x => exact h
/-- a list of events in which every packing has tries of its own -/
def Bal (es : List Ev) : Prop := ∀ bud wan (r : Rs), r.2.1 ≤ r.1 + 1 → r.2.2 ≠ none ∨ r.2.1 ≤ r.1 → ((run bud wan es r).2.1 ≤ (run bud wan es r).1 + 1 ∧ ((run bud wan es r).2.2 ≠ none ∨ (run bud wan es r).2.1 ≤ (run bud wan es r).1))
theorem Bal.nil : Bal [] := fun bud wan r h1 h2 => by rw [run_nil]; exact ⟨h1, h2⟩
theorem Bal.app {a b : List Ev} (ha : Bal a) (hb : Bal b) : Bal (a ++ b) := fun bud wan r h1 h2 => by
  rw [run_app]
  obtain ⟨g1, g2⟩ := ha bud wan r h1 h2
  exact hb bud wan _ g1 g2
theorem Bal.flat {α : Type} {f : α → List Ev} (h : ∀ a, Bal (f a)) : ∀ l : List α, Bal (l.flatMap f) := by
  intro l
  induction l with
  | nil => exact Bal.nil
  | cons a l ih => rw [List.flatMap_cons]; exact (h a).app ih
theorem Bal.tri {es : List Ev} (h : Bal es ∨ ∃ ch, es = [some ch]) : Bal (none :: es) := by
  intro bud wan r h1 h2
  obtain ⟨t, f, s⟩ := r
  cases s with
  | some x => exact ⟨h1, h2⟩
  | none =>
    have hf : f ≤ t := by
      rcases h2 with q | q
      · exact absurd rfl q
      · exact q
    show (run1 bud wan (none :: es) t f).2.1 ≤ (run1 bud wan (none :: es) t f).1 + 1 ∧ _
    have e : run bud wan (none :: es) (t, f, none) = if t < bud then run bud wan es (t + 1, f, none) else (t, f, some none) := rfl
    show (run bud wan (none :: es) (t, f, none)).2.1 ≤ (run bud wan (none :: es) (t, f, none)).1 + 1 ∧ _
    rw [e]
    by_cases q : t < bud
    · rw [if_pos q]
      rcases h with h | ⟨ch, rfl⟩
      · exact h bud wan (t + 1, f, none) (by show f ≤ t + 1 + 1; omega) (Or.inr (by show f ≤ t + 1; omega))
      · have e2 : run bud wan [some ch] (t + 1, f, none) = if nI f = wan then (t + 1, f + 1, some (some ch)) else (t + 1, f + 1, none) := rfl
        rw [e2]
        by_cases z : nI f = wan
        · rw [if_pos z]
          exact ⟨by show f + 1 ≤ t + 1 + 1; omega, Or.inl (by intro w; cases w)⟩
        · rw [if_neg z]
          exact ⟨by show f + 1 ≤ t + 1 + 1; omega, Or.inr (by show f + 1 ≤ t + 1; omega)⟩
    · rw [if_neg q]
      exact ⟨by show f ≤ t + 1; omega, Or.inl (by intro w; cases w)⟩
theorem evP_bal {PL : Nat → Nat → Int64} {n : Nat → Nat} {sub : Int64 → Nat → (Nat → Int64) → List Ev} (h : ∀ T L ch, Bal (sub T L ch) ∨ ∃ c, sub T L ch = [some c]) (T : Int64) (L : Nat) (ch : Nat → Int64) (cl p k i : Nat) : Bal (evP PL n sub T L ch cl p k i) := by
  unfold evP
  apply Bal.flat
  intro j
  unfold evC
  apply Bal.tri
  split
  · exact h _ _ _
  · exact Or.inl Bal.nil
theorem evs_bal {PL : Nat → Nat → Int64} {n : Nat → Nat} {su : Int64} : ∀ k T L ch, Bal (evs PL n su k T L ch) ∨ ∃ c, evs PL n su k T L ch = [some c] := by
  intro k
  induction k with
  | zero => intro T L ch; exact Or.inl Bal.nil
  | succ k ih =>
    intro T L ch
    unfold evs
    split
    · split
      · exact Or.inr ⟨ch, rfl⟩
      · exact Or.inl Bal.nil
    · left
      split
      · exact evP_bal ih _ _ _ _ _ _ _
      · have : ∀ m p, Bal (evQ PL n (evs PL n su k) T L ch (clO su T) m p) := by
          intro m
          induction m with
          | zero => intro p; exact Bal.nil
          | succ m ihm =>
            intro p
            unfold evQ
            apply Bal.app
            · split
              · exact evP_bal ih _ _ _ _ _ _ _
              · exact Bal.nil
            · exact ihm (p + 1)
        exact this 6 0
theorem evs_le {PL : Nat → Nat → Int64} {n : Nat → Nat} {su : Int64} {bud : Nat} {wan : Int32} (k : Nat) (T : Int64) (L : Nat) (ch : Nat → Int64) : (run bud wan (evs PL n su k T L ch) (0, 0, none)).2.1 ≤ (run bud wan (evs PL n su k T L ch) (0, 0, none)).1 + 1 := by
  rcases evs_bal (PL := PL) (n := n) (su := su) k T L ch with h | ⟨c, h⟩
  · exact (h bud wan (0, 0, none) (by decide) (Or.inr (by decide))).1
  · rw [h]
    show (if nI 0 = wan then ((0 : Nat), 1, some (some c)) else (0, 1, none)).2.1 ≤ (if nI 0 = wan then ((0 : Nat), 1, some (some c)) else (0, 1, none)).1 + 1
    split
    · exact Nat.le_refl 1
    · exact Nat.le_refl 1
/-- while the wanted packing is not met, the count has not passed it -/
theorem run1_wan {bud : Nat} {w : Nat} (hw : w < 2147483648) : ∀ (a : List Ev) t f, f ≤ w → (∀ c, (run1 bud (nI w) a t f).2.2 = some (some c) → (run1 bud (nI w) a t f).2.1 = w + 1) ∧ ((∀ c, (run1 bud (nI w) a t f).2.2 ≠ some (some c)) → (run1 bud (nI w) a t f).2.1 ≤ w) := by
  intro a
  induction a with
  | nil => intro t f h; exact ⟨fun c q => (by cases q), fun _ => h⟩
  | cons e a ih =>
    intro t f h
    cases e with
    | none =>
      have e : run1 bud (nI w) (none :: a) t f = if t < bud then run1 bud (nI w) a (t + 1) f else (t, f, some none) := rfl
      rw [e]
      by_cases q : t < bud
      · rw [if_pos q]; exact ih _ _ h
      · rw [if_neg q]; exact ⟨fun c z => (by cases z), fun _ => h⟩
    | some ch =>
      have e : run1 bud (nI w) (some ch :: a) t f = if nI f = nI w then (t, f + 1, some (some ch)) else run1 bud (nI w) a t (f + 1) := rfl
      rw [e]
      by_cases q : nI f = nI w
      · rw [if_pos q]
        rw [eq_n (by omega) hw] at q
        exact ⟨fun c z => by show f + 1 = w + 1; omega, fun z => absurd rfl (z ch)⟩
      · rw [if_neg q]
        rw [eq_n (by omega) hw] at q
        exact ih _ _ (by omega)
theorem run1_pk {bud : Nat} {wan : Int32} : ∀ (a : List Ev) t f c, (run1 bud wan a t f).2.2 = some (some c) → ∃ g, (run1 bud wan a t f).2.1 = g + 1 ∧ nI g = wan := by
  intro a
  induction a with
  | nil => intro t f c q; cases q
  | cons e a ih =>
    intro t f c
    cases e with
    | none =>
      have e : run1 bud wan (none :: a) t f = if t < bud then run1 bud wan a (t + 1) f else (t, f, some none) := rfl
      rw [e]
      by_cases q : t < bud
      · rw [if_pos q]; exact ih _ _ c
      · rw [if_neg q]; intro z; cases z
    | some ch =>
      have e : run1 bud wan (some ch :: a) t f = if nI f = wan then (t, f + 1, some (some ch)) else run1 bud wan a t (f + 1) := rfl
      rw [e]
      by_cases q : nI f = wan
      · rw [if_pos q]; intro _; exact ⟨f, rfl, q⟩
      · rw [if_neg q]; exact ih _ _ c
