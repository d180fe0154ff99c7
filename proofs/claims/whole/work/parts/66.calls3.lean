/-! the target, and putting -/
theorem tgt_ok {su op : Int64} {tgt : Nat → Int32} (hT : TW tgt (su ||| op)) (hS : TS tgt su) (p0 p1 : Int32) : Ok (f_L_target su op p0 p1) (fun a => Ok (f_X7_target tgt p0 p1) (fun b => b.1 = a.1 ∧ TW b.2 (a.2.1 ||| a.2.2) ∧ TS b.2 a.2.1)) := by
  unfold f_L_target f_X6_target f_X7_target
  have sayN : f_X7_says (0 : Int32) = some (0, 1) := by decide +kernel
  have sy : ∀ b : Bool, f_X7_says (if bI b = 0 then (0 : Int32) else 1) = some (bI b, bI (!b)) := by decide +kernel
  by_cases hp : (!decide (p0 < 0) && !decide (63 < p0)) = true
  · obtain ⟨c, hc, rfl, e1, e2⟩ := cc_ok hp
    by_cases hk : (!decide (p1 < 0) && !decide (2 < p1)) = true
    · have e3 : f_X7_in p1 0 2 = some (bI true) := by rw [in_ok, hk]
      obtain ⟨g1, g2⟩ := rng_lt.1 hk
      obtain ⟨k, hk2, rfl⟩ := to_n g1
      have hk3 : k = 0 ∨ k = 1 ∨ k = 2 := by
        replace g2 : nI k ≤ nI 2 := g2
        rw [le_n hk2 (by decide)] at g2
        omega
      have setB : ∀ x : Int64, ∀ d, B (x ||| ((1 : Int64) <<< ((nI c).toInt64 &&& 63))) d = (B x d || decide (d = c)) := fun x d => B_set x hc
      have clrB' : ∀ x : Int64, ∀ d, d < 64 → B (x &&& (((1 : Int64) <<< ((nI c).toInt64 &&& 63)) ^^^ (-1 : Int64))) d = (B x d && !decide (d = c)) := by
        intro x d hd
        rw [B_and, B_not _ hd, B_one hc]
      have fin : ∀ su' op' : Int64, (∀ d, d < 64 → d ≠ c → B su' d = B su d ∧ B op' d = B op d) → (nI k ≤ 0 ↔ (B su' c || B op' c) = false) → (nI k = 1 ↔ B su' c = true) → TW (va_up tgt c (nI k)) (su' ||| op') ∧ TS (va_up tgt c (nI k)) su' := by
        intro su' op' h1 h2 h3
        refine ⟨fun d hd => ?_, fun d hd => ?_⟩
        · rw [B_or]
          by_cases z : d = c
          · subst z; rw [vu_s]; exact h2
          · rw [vu_n z, (h1 d hd z).1, (h1 d hd z).2, ← B_or]; exact hT d hd
        · by_cases z : d = c
          · subst z; rw [vu_s]; exact h3
          · rw [vu_n z, (h1 d hd z).1]; exact hS d hd
      refine Ok.bind (P := fun q => ∃ su' op', q = ((Sum.inr () : String ⊕ Unit), su', op') ∧ TW (va_up tgt c (nI k)) (su' ||| op') ∧ TS (va_up tgt c (nI k)) su') (Ok.xr e1 (Ok.neg g1 (Ok.pos g2 ?_))) ?_
      · rcases hk3 with rfl | rfl | rfl
        · refine Ok.neg (by decide) (Ok.neg (by decide) (Ok.some ⟨_, _, rfl, fin _ _ (fun d hd z => ?_) ?_ ?_⟩))
          · rw [clrB' _ d hd, clrB' _ d hd, decide_eq_false z]
            simp
          · rw [clrB' _ c hc, clrB' _ c hc]
            simp
            decide
          · rw [clrB' _ c hc]
            simp
            decide
        · refine Ok.pos (by decide) (Ok.neg (by decide) (Ok.some ⟨_, _, rfl, fin _ _ (fun d hd z => ?_) ?_ ?_⟩))
          · rw [setB _ d, clrB' _ d hd, decide_eq_false z]
            simp
          · rw [setB _ c, clrB' _ c hc]
            simp
            decide
          · rw [setB _ c]
            simp
            rfl
        · refine Ok.neg (by decide) (Ok.pos (by decide) (Ok.some ⟨_, _, rfl, fin _ _ (fun d hd z => ?_) ?_ ?_⟩))
          · rw [setB _ d, clrB' _ d hd, decide_eq_false z]
            simp
          · rw [setB _ c, clrB' _ c hc]
            simp
            decide
          · rw [clrB' _ c hc]
            simp
            decide
      · rintro q ⟨su', op', rfl, h1, h2⟩
        refine Ok.sel0 rfl (Ok.some (Ok.bindE e2 (Ok.neg (by decide) (Ok.bindE e3 (Ok.bindE (sy true) (Ok.neg (by decide) (Ok.pos (inB_n hc (by decide)) (Ok.some ⟨rfl, ?_, ?_⟩))))))))
        · rw [cl_n (by omega)]; exact h1
        · rw [cl_n (by omega)]; exact h2
    · have hk' : (!decide (p1 < 0) && !decide (2 < p1)) = false := by
        cases hh : (!decide (p1 < 0) && !decide (2 < p1))
        · rfl
        · exact absurd hh hk
      have e3 : f_X7_in p1 0 2 = some (bI false) := by rw [in_ok, hk']
      refine Ok.bind (P := fun q => q = ((Sum.inl x_IAE : String ⊕ Unit), su, op)) (Ok.xr e1 ?_) ?_
      · by_cases h1 : p1 < 0
        · exact Ok.pos h1 (Ok.some rfl)
        · exact Ok.neg h1 (Ok.neg (fun q => hk (rng_lt.2 ⟨h1, q⟩)) (Ok.some rfl))
      · rintro q rfl
        exact Ok.sel1 rfl (Ok.some (Ok.bindE e2 (Ok.neg (by decide) (Ok.bindE e3 (Ok.bindE (sy false) (Ok.pos rfl (Ok.some ⟨rfl, hT, hS⟩)))))))
  · obtain ⟨e1, e2⟩ := cc_no hp
    refine Ok.bind (P := fun q => q = ((Sum.inl x_IAE : String ⊕ Unit), su, op)) (Ok.xl e1 (Ok.some rfl)) ?_
    rintro q rfl
    exact Ok.sel1 rfl (Ok.some (Ok.bindE e2 (Ok.pos rfl (Ok.bindE sayN (Ok.pos rfl (Ok.some ⟨rfl, hT, hS⟩))))))
/-- a set is its settled self, moved -/
theorem st_move {x : Int64} (h : x ≠ 0) : off x < 64 ∧ fits (st x) (off x) = true ∧ shl (st x) (off x) = x := by
  have l0 := lo_lt x 0
  have l1 := lo_lt x 1
  have l2 := lo_lt x 2
  have ho : off x < 64 := by unfold off; omega
  obtain ⟨o0, o1, o2⟩ := co_of l0 l1 l2
  refine ⟨ho, ?_, ?_⟩
  · rw [fits_t]
    have key : ∀ a, (co a (off x) = lo x a) → (∀ c, B x c = true → co a (c - off x) = co a c - lo x a) → hi (st x) a + co a (off x) ≤ 3 := by
      intro a e1 e2
      obtain ⟨c, hc, c1, c2⟩ := hi_at a (st_ne h)
      rw [st_B] at c1
      have e3 := e2 _ c1
      rw [Nat.add_sub_cancel] at e3
      have := lo_le (a := a) c1
      have := co_lt a (c + off x)
      omega
    exact ⟨key 0 o0 (fun c hc => (off_le hc).2.1), key 1 o1 (fun c hc => (off_le hc).2.2.1), key 2 o2 (fun c hc => (off_le hc).2.2.2)⟩
  · apply B_ext
    intro c hc
    rw [shl_B _ ho, decide_eq_true hc, Bool.true_and]
    by_cases z : off x ≤ c
    · rw [decide_eq_true z, Bool.true_and, st_B, show c - off x + off x = c by omega]
    · rw [decide_eq_false z, Bool.false_and]
      cases hb : B x c
      · rfl
      · exact absurd (off_le hb).1 z
theorem hs8_ok {v : Int64} {ss : Nat → Int64} {c : Nat} (hc : c ≤ 48) (sk sc : Int32) : ∀ k fu i, k < fu → k + i = c → (∀ j, j < i → ss j ≠ v) → Ok (f_X1_hasShape_8 v (nI c) ss sk sc fu (nI i)) (fun r => match r with | .inl z => z = (1, ss, sk, sc) ∧ ∃ j, j < c ∧ ss j = v | .inr _ => ∀ j, j < c → ss j ≠ v) := by
  intro k
  induction k with
  | zero =>
    intro fu i hf hk h
    obtain ⟨w, rfl⟩ : ∃ w, fu = w + 1 := ⟨fu - 1, by omega⟩
    have : i = c := by omega
    subst this
    rw [f_X1_hasShape_8]
    exact Ok.pos (nI_le (Nat.le_refl _) (by omega)) (Ok.some h)
  | succ k ih =>
    intro fu i hf hk h
    obtain ⟨w, rfl⟩ : ∃ w, fu = w + 1 := ⟨fu - 1, by omega⟩
    rw [f_X1_hasShape_8, show nI i + 1 = nI (i + 1) from nI_1 i, cl_n (by omega)]
    refine Ok.neg (nI_ge (by omega) (by omega)) (Ok.pos (inB_n (by omega) (by decide)) (Ok.ite (fun z => ?_) (fun z => ?_)))
    · exact Ok.some ⟨rfl, i, by omega, z⟩
    · refine ih w (i + 1) (by omega) (by omega) (fun j hj => ?_)
      by_cases y : j = i
      · subst y; exact z
      · exact h j (by omega)
theorem p39_ok {p k0 : Nat} (hp : p < 6) (hk0 : k0 < 48) {v : Int64} {shp : Nat → Int64} (hs : shp (p * 48 + k0) ≠ 0) : ∀ k fu i (b : Bool), 100 + k < fu → k + i = 64 → Ok (f_X7_put_39 (nI p) v (nI k0) shp fu (bI b) (nI i)) (fun r => ∃ b' : Bool, r = bI b' ∧ (b' = true ↔ b = true ∨ (v ≠ 0 ∧ ∃ m, i ≤ m ∧ m < 64 ∧ mvd (shp (p * 48 + k0)) m = v))) := by
  intro k
  induction k with
  | zero =>
    intro fu i b hf hk
    obtain ⟨w, rfl⟩ : ∃ w, fu = w + 1 := ⟨fu - 1, by omega⟩
    have : i = 64 := by omega
    subst this
    rw [f_X7_put_39]
    refine Ok.pos (by decide +kernel) (Ok.some ⟨b, rfl, ?_⟩)
    constructor
    · exact Or.inl
    · rintro (z | ⟨_, m, h1, h2, _⟩)
      · exact z
      · omega
  | succ k ih =>
    intro fu i b hf hk
    obtain ⟨w, rfl⟩ : ∃ w, fu = w + 1 := ⟨fu - 1, by omega⟩
    have hi : i < 64 := by omega
    obtain ⟨a0, a1, a2⟩ := co_args hi
    have hidx : nI p * 48 + nI k0 = nI (p * 48 + k0) := by rw [show (48 : Int32) = nI 48 from rfl, pk_mul, nI_add]
    rw [f_X7_put_39, show nI i + 1 = nI (i + 1) from nI_1 i, a0, a1, a2, hidx, cl_n (by omega)]
    have step : ∀ b2 : Bool, (b2 = true ↔ b = true ∨ (v ≠ 0 ∧ mvd (shp (p * 48 + k0)) i = v)) → Ok (f_X7_put_39 (nI p) v (nI k0) shp w (bI b2) (nI (i + 1))) (fun r => ∃ b' : Bool, r = bI b' ∧ (b' = true ↔ b = true ∨ (v ≠ 0 ∧ ∃ m, i ≤ m ∧ m < 64 ∧ mvd (shp (p * 48 + k0)) m = v))) := by
      intro b2 h2
      refine Ok.mono (ih w (i + 1) b2 (by omega) (by omega)) ?_
      rintro r ⟨b', e, hb⟩
      refine ⟨b', e, hb.trans ?_⟩
      rw [h2]
      constructor
      · rintro ((z | ⟨z1, z2⟩) | ⟨z1, m, z2, z3, z4⟩)
        · exact Or.inl z
        · exact Or.inr ⟨z1, i, Nat.le_refl _, hi, z2⟩
        · exact Or.inr ⟨z1, m, by omega, z3, z4⟩
      · rintro (z | ⟨z1, m, z2, z3, z4⟩)
        · exact Or.inl (Or.inl z)
        · by_cases y : m = i
          · subst y; exact Or.inl (Or.inr ⟨z1, z4⟩)
          · exact Or.inr ⟨z1, m, by omega, z3, z4⟩
    refine Ok.neg (nI_ge (b := 64) hi (by decide)) ?_
    cases b with
    | true =>
      exact Ok.neg (by decide) (step true ⟨fun _ => Or.inl rfl, fun _ => rfl⟩)
    | false =>
      refine Ok.pos (by decide) ?_
      by_cases z : v = 0
      · exact Ok.pos z (step false ⟨fun y => (nomatch y), fun y => y.elim (fun u => (nomatch u)) (fun u => absurd z u.1)⟩)
      · refine Ok.neg z (Ok.pos (inB_n (by omega) (by decide)) (Ok.bindE (moved_ok (by omega) hs hi) ?_))
        by_cases y : mvd (shp (p * 48 + k0)) i = v
        · rw [if_pos y]
          exact step true ⟨fun _ => Or.inr ⟨z, y⟩, fun _ => rfl⟩
        · rw [if_neg y]
          exact step false ⟨fun x => (nomatch x), fun x => x.elim (fun u => (nomatch u)) (fun u => absurd u.2 y)⟩
theorem p25_ok {p c : Nat} (hp : p < 6) {S : Int64} {m : Bool} {v : Int64} {shs : Nat → Int32} {shp : Nat → Int64} (hc : shs p = nI c) (hs : ShOK shp (p * 48) S m c) : ∀ k fu i (b : Bool), 300 + k < fu → k + i = c → Ok (f_X7_put_25 (nI p) v shs shp fu (bI b) (nI i)) (fun r => ∃ b' : Bool, r = bI b' ∧ (b' = true ↔ b = true ∨ (v ≠ 0 ∧ ∃ j m, i ≤ j ∧ j < c ∧ m < 64 ∧ mvd (shp (p * 48 + j)) m = v))) := by
  have h48 := hs.1
  intro k
  induction k with
  | zero =>
    intro fu i b hf hk
    obtain ⟨w, rfl⟩ : ∃ w, fu = w + 1 := ⟨fu - 1, by omega⟩
    have : i = c := by omega
    subst this
    rw [f_X7_put_25, cl_n (by omega), hc]
    refine Ok.pos (inB_n hp (by decide)) (Ok.pos (nI_le (Nat.le_refl _) (by omega)) (Ok.some ⟨b, rfl, ?_⟩))
    constructor
    · exact Or.inl
    · rintro (z | ⟨_, j, m, h1, h2, _⟩)
      · exact z
      · omega
  | succ k ih =>
    intro fu i b hf hk
    obtain ⟨w, rfl⟩ : ∃ w, fu = w + 1 := ⟨fu - 1, by omega⟩
    obtain ⟨s1, _, _⟩ := hs.at (show i < c by omega)
    rw [f_X7_put_25, show nI i + 1 = nI (i + 1) from nI_1 i, cl_n (by omega), hc]
    refine Ok.pos (inB_n hp (by decide)) (Ok.neg (nI_ge (by omega) (by omega)) (Ok.bind (p39_ok hp (show i < 48 by omega) s1.1 64 w 0 b (by omega) (by omega)) ?_))
    rintro r ⟨b1, rfl, h1⟩
    refine Ok.mono (ih w (i + 1) b1 (by omega) (by omega)) ?_
    rintro r ⟨b', e, hb⟩
    refine ⟨b', e, hb.trans ?_⟩
    rw [h1]
    constructor
    · rintro ((z | ⟨z1, m, _, z3, z4⟩) | ⟨z1, j, m, z2, z3, z4⟩)
      · exact Or.inl z
      · exact Or.inr ⟨z1, i, m, Nat.le_refl _, by omega, z3, z4⟩
      · exact Or.inr ⟨z1, j, m, by omega, z3, z4⟩
    · rintro (z | ⟨z1, j, m, z2, z3, z4, z5⟩)
      · exact Or.inl (Or.inl z)
      · by_cases y : j = i
        · subst y; exact Or.inl (Or.inr ⟨z1, m, Nat.zero_le _, z4, z5⟩)
        · exact Or.inr ⟨z1, j, m, by omega, z3, z4, z5⟩
theorem put_iff {shp ss : Nat → Int64} {p c : Nat} {S : Int64} {m : Bool} {v : Int64} (hs : ShOK ss 0 S m c) (hs' : ShOK shp (p * 48) S m c) : (∃ j, j < c ∧ ss j = st v) ↔ (v ≠ 0 ∧ ∃ j k, 0 ≤ j ∧ j < c ∧ k < 64 ∧ mvd (shp (p * 48 + j)) k = v) := by
  have e : ∀ j, j < c → ss j = shp (p * 48 + j) := by
    intro j hj
    have := (hs.same hs').2 j hj
    rwa [Nat.zero_add] at this
  constructor
  · rintro ⟨j, hj, h⟩
    have h0 : v ≠ 0 := by
      intro z
      have := (hs'.at hj).1.1
      rw [← e j hj, h, st_0 z] at this
      exact this rfl
    obtain ⟨m1, m2, m3⟩ := st_move h0
    refine ⟨h0, j, off v, Nat.zero_le _, hj, m1, ?_⟩
    rw [← e j hj, h]
    unfold mvd
    rw [m2]
    exact m3
  · rintro ⟨h0, j, k, _, hj, hk, h⟩
    refine ⟨j, hj, ?_⟩
    unfold mvd at h
    by_cases z : fits (shp (p * 48 + j)) k = true
    · rw [if_pos z] at h
      rw [e j hj, ← h, st_shl (hs'.at hj).1 hk z]
    · rw [if_neg z] at h
      exact absurd h.symm h0
theorem put_cnt {ss : Nat → Int64} {c : Nat} {S : Int64} {m : Bool} {v : Int64} (hs : ShOK ss 0 S m c) (h : ∃ j, j < c ∧ ss j = st v) : cnt v ≤ cnt S := by
  obtain ⟨j, hj, e⟩ := h
  have hsh := (hs.2.2 (ss j)).2 ⟨j, hj, by rw [Nat.zero_add]⟩
  have hne : v ≠ 0 := by
    intro z
    have := (hs.at hj).1.1
    rw [Nat.zero_add, e, st_0 z] at this
    exact this rfl
  obtain ⟨m1, m2, m3⟩ := st_move hne
  have h1 := shl_cnt m1 m2
  rw [m3, ← e] at h1
  exact Nat.le_trans h1 (shp_cnt hsh.2)
/-- does a set meet no other piece of the assembly -/
def Clr (asm : Nat → Int64) (p : Nat) (v : Int64) (i : Nat) : Prop := ∀ q, i ≤ q → q < 6 → q ≠ p → asm q &&& v = 0
theorem p33_cl {asm : Nat → Int64} {p : Nat} (hp : p < 6) {v : Int64} {pss : Nat → Nat → Int64} {psk psc : Nat → Int32} : ∀ k fu i, k < fu → k + i = 6 → Ok (f_X6_put_33 (nI p) v pss psk psc asm fu (nI i)) (fun r => match r with | .inl z => z = (Sum.inl x_ISE, pss, psk, psc, asm) ∧ ¬ Clr asm p v i | .inr _ => Clr asm p v i) := by
  intro k
  induction k with
  | zero =>
    intro fu i hf hk
    obtain ⟨w, rfl⟩ : ∃ w, fu = w + 1 := ⟨fu - 1, by omega⟩
    have : i = 6 := by omega
    subst this
    rw [f_X6_put_33]
    exact Ok.pos (by decide +kernel) (Ok.some (fun q h1 h2 => absurd h2 (by omega)))
  | succ k ih =>
    intro fu i hf hk
    obtain ⟨w, rfl⟩ : ∃ w, fu = w + 1 := ⟨fu - 1, by omega⟩
    have hi : i < 6 := by omega
    rw [f_X6_put_33, show nI i + 1 = nI (i + 1) from nI_1 i, cl_n (by omega)]
    have step : (i ≠ p → asm i &&& v = 0) → Ok (f_X6_put_33 (nI p) v pss psk psc asm w (nI (i + 1))) (fun r => match r with | .inl z => z = (Sum.inl x_ISE, pss, psk, psc, asm) ∧ ¬ Clr asm p v i | .inr _ => Clr asm p v i) := by
      intro h
      refine Ok.mono (ih w (i + 1) (by omega) (by omega)) ?_
      intro r hr
      cases r with
      | inl z => exact ⟨hr.1, fun y => hr.2 (fun q h1 h2 h3 => y q (by omega) h2 h3)⟩
      | inr z =>
        intro q h1 h2 h3
        by_cases y : q = i
        · subst y; exact h h3
        · exact hr q (by omega) h2 h3
    refine Ok.neg (nI_ge (b := 6) hi (by decide)) (Ok.ite (fun z => ?_) (fun z => ?_))
    · rw [eq_n (by omega) (by omega)] at z
      exact step (fun y => absurd z y)
    · rw [eq_n (by omega) (by omega)] at z
      refine Ok.pos (inB_n hi (by decide)) (Ok.ite (fun y => step (fun _ => y)) (fun y => Ok.some ⟨rfl, fun x => y (x i (Nat.le_refl _) hi z)⟩))
theorem p117_ok {asm : Nat → Int64} {p : Nat} (hp : p < 6) {v : Int64} : ∀ k fu i (b : Bool), k < fu → k + i = 6 → Ok (f_X7_put_117 (nI p) v asm fu (bI b) (nI i)) (fun r => ∃ b' : Bool, r = bI b' ∧ (b' = true ↔ b = true ∧ Clr asm p v i)) := by
  intro k
  induction k with
  | zero =>
    intro fu i b hf hk
    obtain ⟨w, rfl⟩ : ∃ w, fu = w + 1 := ⟨fu - 1, by omega⟩
    have : i = 6 := by omega
    subst this
    rw [f_X7_put_117]
    exact Ok.pos (by decide +kernel) (Ok.some ⟨b, rfl, fun z => ⟨z, fun q h1 h2 => absurd h2 (by omega)⟩, fun z => z.1⟩)
  | succ k ih =>
    intro fu i b hf hk
    obtain ⟨w, rfl⟩ : ∃ w, fu = w + 1 := ⟨fu - 1, by omega⟩
    have hi : i < 6 := by omega
    rw [f_X7_put_117, show nI i + 1 = nI (i + 1) from nI_1 i, cl_n (by omega)]
    have step : ∀ b2 : Bool, (b2 = true ↔ b = true ∧ (i ≠ p → asm i &&& v = 0)) → Ok (f_X7_put_117 (nI p) v asm w (bI b2) (nI (i + 1))) (fun r => ∃ b' : Bool, r = bI b' ∧ (b' = true ↔ b = true ∧ Clr asm p v i)) := by
      intro b2 h
      refine Ok.mono (ih w (i + 1) b2 (by omega) (by omega)) ?_
      rintro r ⟨b', e, hb⟩
      refine ⟨b', e, hb.trans ?_⟩
      rw [h]
      constructor
      · rintro ⟨⟨z1, z2⟩, z3⟩
        refine ⟨z1, fun q h1 h2 h3 => ?_⟩
        by_cases y : q = i
        · subst y; exact z2 h3
        · exact z3 q (by omega) h2 h3
      · rintro ⟨z1, z2⟩
        exact ⟨⟨z1, fun y => z2 i (Nat.le_refl _) hi y⟩, fun q h1 h2 h3 => z2 q (by omega) h2 h3⟩
    refine Ok.neg (nI_ge (b := 6) hi (by decide)) ?_
    cases b with
    | false => exact Ok.pos rfl (step false ⟨fun x => (nomatch x), fun x => (nomatch x.1)⟩)
    | true =>
      refine Ok.neg (by decide) (Ok.ite (fun z => ?_) (fun z => ?_))
      · rw [eq_n (by omega) (by omega)] at z
        exact step true ⟨fun _ => ⟨rfl, fun y => absurd z y⟩, fun _ => rfl⟩
      · rw [eq_n (by omega) (by omega)] at z
        refine Ok.pos (inB_n hi (by decide)) ?_
        by_cases y : asm i &&& v = 0
        · rw [if_pos y]
          exact step true ⟨fun _ => ⟨rfl, fun _ => y⟩, fun _ => rfl⟩
        · rw [if_neg y]
          exact step false ⟨fun x => (nomatch x), fun x => absurd (x.2 z) y⟩
theorem put_ok {fu : Nat} (hf : 3000 ≤ fu) {S : Nat → Int64} {mb : Nat → Bool} {pmm mir : Nat → Int32} {pss pps phv : Nat → Nat → Int64} {psk ppk : Nat → Int32} {pkw : Nat → Int64} {psc ppn : Nat → Int32} (hI : PI S mb pmm mir pss pps phv psk ppk pkw psc ppn) {asm asm' : Nat → Int64} (h : ∀ p, p < 6 → asm p = asm' p) (hac : ∀ p, p < 6 → cnt (asm p) ≤ 10) (shs : Nat → Int32) (shp : Nat → Int64) (p0 : Int32) (v : Int64) : Ok (f_L_put fu pss S pmm psk psc asm p0 v) (fun a => Ok (f_X7_put fu S mir shs shp asm' p0 v) (fun b => b.1 = a.1 ∧ PcA S mb a.2.1 pps phv a.2.2.1 ppk pkw a.2.2.2.1 ppn ∧ (∀ p, p < 6 → a.2.2.2.2 p = b.2.2.2 p) ∧ ∀ p, p < 6 → cnt (a.2.2.2.2 p) ≤ 10)) := by
  obtain ⟨i1, i2, i3, i4⟩ := hI
  unfold f_L_put f_X6_put f_X7_put
  by_cases hp : (!decide (p0 < 0) && !decide (5 < p0)) = true
  · obtain ⟨n, hn, rfl, e1, e2⟩ := cp_ok hp
    have ein : inB (nI n) 6 = true := inB_n hn (by decide)
    rw [cl_n (show n < 2147483648 by omega), i1 n hn]
    obtain ⟨⟨s1, s2⟩, es, c, k1, k2, _⟩ := shapesOf_ok (fu := fu) (by omega) hn (i2 n hn) (i3 n hn) shs shp
    replace k1 : s1 n = nI c := k1
    replace k2 : ShOK s2 (n * 48) (S n) (mb n) c := k2
    have hc48 := k2.1
    obtain ⟨_, eg, bg, rfl, hg⟩ := p25_ok hn (v := v) k1 k2 c fu 0 false (by omega) (by omega)
    obtain ⟨_, ef, bf, rfl, hfree⟩ := p117_ok (asm := asm') hn (v := v) 6 fu 0 true (by omega) (by omega)
    have hclr : Clr asm n v 0 ↔ Clr asm' n v 0 := by
      constructor
      · intro z q h1 h2 h3
        rw [← h q h2]; exact z q h1 h2 h3
      · intro z q h1 h2 h3
        rw [h q h2]; exact z q h1 h2 h3
    have eref : ∀ x : Int32, ∀ as2 : Nat → Int64, (if bI bg = 0 then (1 : Int32) else (if bI bf = 0 then (2 : Int32) else (0 : Int32))) = x → as2 = (if x = 0 then va_up asm' n v else asm') → ((f_X7_in (nI n) (0 : Int32) (5 : Int32)).bind fun q1 => ((f_X7_says q1).bind fun q2 => (if q2.1 = 0 then some (q2.2, shs, shp, asm') else ((f_X7_shapesOf fu S mir shs shp (nI n)).bind fun q4 => ((f_X7_put_25 (nI n) v q4.1 q4.2 fu (0 : Int32) (0 : Int32)).bind fun q77 => ((f_X7_put_117 (nI n) v asm' fu (1 : Int32) (0 : Int32)).bind fun q96 => (if (if q77 = 0 then (1 : Int32) else (if q96 = 0 then (2 : Int32) else (0 : Int32))) = 0 then (if inB (nI n) 6 = true then some ((if q77 = 0 then (1 : Int32) else (if q96 = 0 then (2 : Int32) else (0 : Int32))), q4.1, q4.2, va_up asm' n v) else none) else some ((if q77 = 0 then (1 : Int32) else (if q96 = 0 then (2 : Int32) else (0 : Int32))), q4.1, q4.2, asm')))))))) = some (x, s1, s2, as2) := by
      rintro x as2 hx rfl
      rw [e2, Option.bind_some, says_ok, Option.bind_some, if_neg (show ¬ bI true = 0 by decide), es, Option.bind_some]
      have eg2 : f_X7_put_25 (nI n) v s1 s2 fu (0 : Int32) (0 : Int32) = some (bI bg) := eg
      have ef2 : f_X7_put_117 (nI n) v asm' fu (1 : Int32) (0 : Int32) = some (bI bf) := ef
      rw [eg2, Option.bind_some, ef2, Option.bind_some, hx]
      by_cases z : x = 0
      · rw [if_pos z, if_pos ein, if_pos z]
      · rw [if_neg z, if_neg z]
    unfold f_X1_hasShape
    refine Ok.bind (P := fun q => ∃ ss, ShOK ss 0 (S n) (mb n) c ∧ q.2.1 = va_up pss n ss ∧ q.2.2.1 = va_up psk n 1 ∧ q.2.2.2.1 = va_up psc n (nI c) ∧ ((q.1 = Sum.inl x_IAE ∧ q.2.2.2.2 = asm ∧ bg = false) ∨ (q.1 = Sum.inl x_ISE ∧ q.2.2.2.2 = asm ∧ bg = true ∧ bf = false) ∨ (q.1 = Sum.inr () ∧ q.2.2.2.2 = va_up asm n v ∧ bg = true ∧ bf = true ∧ cnt v ≤ 10))) (Ok.xr e1 (Ok.pos ein (Ok.bindE (settled_ok (by omega) v) (Ok.pos ein (Ok.bind (P := fun q => ∃ ss, ShOK ss 0 (S n) (mb n) c ∧ q.2.1 = ss ∧ q.2.2.1 = 1 ∧ q.2.2.2 = nI c ∧ ((q.1 = 1 ∧ ∃ j, j < c ∧ ss j = st v) ∨ (q.1 = 0 ∧ ¬ ∃ j, j < c ∧ ss j = st v))) (Ok.bind (countShapes_ok (by omega) (i4 n hn).1) ?_) ?_))))) ?_
    · rintro ⟨q1, q2, q3, q4⟩ ⟨g1, c', g2, g3, g4⟩
      replace g1 : q3 = 1 := g1
      replace g2 : q1 = nI c' := g2
      replace g3 : q4 = nI c' := g3
      replace g4 : ShOK q2 0 (S n) (mb n) c' := g4
      have ec : c' = c := (g4.same k2).1
      subst ec
      subst g1 g2 g3
      refine Ok.sumB (Ok.mono (hs8_ok hc48 1 (nI c') c' fu 0 (by omega) (by omega) (fun j hj => absurd hj (by omega))) ?_)
      intro r hr
      cases r with
      | inl z =>
        obtain ⟨z1, z2⟩ := hr
        subst z1
        exact ⟨q2, g4, rfl, rfl, rfl, Or.inl ⟨rfl, z2⟩⟩
      | inr z => exact Ok.some ⟨q2, g4, rfl, rfl, rfl, Or.inr ⟨rfl, fun ⟨j, y1, y2⟩ => hr j y1 y2⟩⟩
    · rintro ⟨q1, q2, q3, q4⟩ ⟨ss, g0, g1, g2, g3, g4⟩
      replace g1 : q2 = ss := g1
      replace g2 : q3 = 1 := g2
      replace g3 : q4 = nI c := g3
      subst g1 g2 g3
      have hiff := put_iff (v := v) g0 k2
      have hgi : bg = true ↔ ∃ j, j < c ∧ q2 j = st v := by
        rw [hg, hiff]
        constructor
        · rintro (z | z)
          · cases z
          · exact z
        · exact Or.inr
      rcases g4 with ⟨e, hx⟩ | ⟨e, hx⟩
      · replace e : q1 = 1 := e
        subst e
        have hbg := hgi.2 hx
        refine Ok.neg (show ¬ (1 : Int32) = 0 by decide) (Ok.sumB (Ok.mono (p33_cl hn 6 fu 0 (by omega) (by omega)) ?_))
        intro r hr
        cases r with
        | inl z =>
          obtain ⟨z1, z2⟩ := hr
          subst z1
          refine ⟨q2, g0, rfl, rfl, rfl, Or.inr (Or.inl ⟨rfl, rfl, hbg, ?_⟩)⟩
          cases hh : bf
          · rfl
          · exact absurd (hclr.2 (hfree.1 hh).2) z2
        | inr z =>
          refine Ok.pos ein (Ok.some ⟨q2, g0, rfl, rfl, rfl, Or.inr (Or.inr ⟨rfl, rfl, hbg, hfree.2 ⟨rfl, hclr.1 hr⟩, ?_⟩)⟩)
          exact Nat.le_trans (put_cnt g0 hx) (i3 n hn)
      · replace e : q1 = 0 := e
        subst e
        refine Ok.pos rfl (Ok.some ⟨q2, g0, rfl, rfl, rfl, Or.inl ⟨rfl, rfl, ?_⟩⟩)
        cases hh : bg
        · rfl
        · exact absurd (hgi.1 hh) hx
    · rintro ⟨q1, q2, q3, q4, q5⟩ ⟨ss, g0, g1, g2, g3, g4⟩
      replace g1 : q2 = va_up pss n ss := g1
      replace g2 : q3 = va_up psk n 1 := g2
      replace g3 : q4 = va_up psc n (nI c) := g3
      subst g1 g2 g3
      have hA := i4.one g0
      rcases g4 with ⟨y1, y2, y3⟩ | ⟨y1, y2, y3, y4⟩ | ⟨y1, y2, y3, y4, y5⟩
      · replace y2 : q5 = asm := y2
        subst y2
        refine Ok.sel1 y1 (Ok.some ⟨_, eref 1 asm' (by rw [y3]; rfl) (by rw [if_neg (by decide)]), rfl, hA, h, hac⟩)
      · replace y2 : q5 = asm := y2
        subst y2
        refine Ok.sel2 y1 x_ne.1 (Ok.some ⟨_, eref 2 asm' (by rw [y3, y4]; rfl) (by rw [if_neg (by decide)]), rfl, hA, h, hac⟩)
      · replace y2 : q5 = va_up asm n v := y2
        subst y2
        refine Ok.sel0 y1 (Ok.some ⟨_, eref 0 (va_up asm' n v) (by rw [y3, y4]; rfl) (by rw [if_pos rfl]), rfl, hA, fun p hp => ?_, fun p hp => ?_⟩)
        · show va_up asm n v p = va_up asm' n v p
          by_cases y : p = n
          · subst y; rw [vu_s, vu_s]
          · rw [vu_n y, vu_n y]; exact h p hp
        · show cnt (va_up asm n v p) ≤ 10
          by_cases y : p = n
          · subst y; rw [vu_s]; exact y5
          · rw [vu_n y]; exact hac p hp
  · obtain ⟨e1, e2⟩ := cp_no hp
    refine Ok.bind (P := fun q => q = ((Sum.inl x_IAE : String ⊕ Unit), pss, psk, psc, asm)) (Ok.xl e1 (Ok.some rfl)) ?_
    rintro q rfl
    exact Ok.sel1 rfl (Ok.some (Ok.bindE e2 (Ok.bindE (says_ok false) (Ok.pos rfl (Ok.some ⟨rfl, i4, h, hac⟩)))))
