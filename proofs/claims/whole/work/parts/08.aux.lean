/-! small rows for the printed walks: a tree of choices read backwards; blocks of cells; the words by name -/
theorem ift {α : Type} {c : Prop} [Decidable c] {A B r : α} (h : c) (e : (if c then A else B) = r) : A = r := by rw [if_pos h] at e; exact e
theorem iff' {α : Type} {c : Prop} [Decidable c] {A B r : α} (h : ¬ c) (e : (if c then A else B) = r) : B = r := by rw [if_neg h] at e; exact e
theorem gd {α : Type} {c : Prop} [Decidable c] {A : Option α} {r : α} (e : (if c then A else none) = some r) : c ∧ A = some r := by
  by_cases h : c
  · rw [if_pos h] at e; exact ⟨h, e⟩
  · rw [if_neg h] at e; cases e
theorem bd {α β : Type} {x : Option α} {k : α → Option β} {r : β} (e : x.bind k = some r) : ∃ q, x = some q ∧ k q = some r := by
  cases x with
  | none => cases e
  | some q => exact ⟨q, rfl, e⟩
def inB (i : Int32) (z : Nat) : Bool := decide (¬ (i < 0 ∨ z ≤ i.toNatClampNeg))
theorem inB_in {i : Int32} {z : Nat} (h : inB i z = true) : vp_in i z := by
  have h1 : ¬ (i < 0 ∨ z ≤ i.toNatClampNeg) := of_decide_eq_true h
  exact h1
def bOk (x : Int32) : Bool := decide (x = 0 ∨ x = 1)
theorem bOk_n {x : Int32} (h : bOk x = true) : narrow .boolean (.int x) = .int x := by
  rcases of_decide_eq_true h with e | e <;> subst e <;> decide +kernel
theorem bOk_f {x : Int32} (h : bOk x = true) : fits .boolean (.int x) = true := by
  rcases of_decide_eq_true h with e | e <;> subst e <;> decide +kernel
/-- a block of cells over others -/
def wL (σ : AH) (a : Nat) (L : List CE) : AH := fun b => if a ≤ b ∧ b < a + L.length then L[b - a]? else σ b
theorem wL_at {σ : AH} {a : Nat} {L : List CE} (i : Nat) {e : CE} (h : L[i]? = some e) : wL σ a L (a + i) = some e := by
  have hi : i < L.length := (List.getElem?_eq_some_iff.mp h).1
  unfold wL
  rw [if_pos ⟨by omega, by omega⟩, show a + i - a = i by omega]
  exact h
theorem wL_at0 {σ : AH} {a : Nat} {L : List CE} {e : CE} (h : L[0]? = some e) : wL σ a L a = some e := wL_at 0 h
theorem wL_out {σ : AH} {a b : Nat} {L : List CE} (h : b < a ∨ a + L.length ≤ b) : wL σ a L b = σ b := by
  unfold wL
  rw [if_neg (by omega)]
theorem wL_up {σ : AH} {a : Nat} {L L' : List CE} (i : Nat) {e : CE} (hi : i < L.length) (hL : L.set i e = L') : hU (wL σ a L) (a + i) e = wL σ a L' := by
  subst hL
  funext b
  unfold hU wL
  rw [List.length_set]
  by_cases h1 : b = a + i
  · subst h1
    rw [if_pos rfl, if_pos ⟨by omega, by omega⟩, show a + i - a = i by omega, List.getElem?_set_self hi]
  · rw [if_neg h1]
    by_cases h2 : a ≤ b ∧ b < a + L.length
    · rw [if_pos h2, if_pos h2, List.getElem?_set_ne (by omega)]
    · rw [if_neg h2, if_neg h2]
theorem wL_up0 {σ : AH} {a : Nat} {L L' : List CE} {e : CE} (hi : 0 < L.length) (hL : L.set 0 e = L') : hU (wL σ a L) a e = wL σ a L' := wL_up 0 hi hL
theorem wL_self {σ : AH} {a : Nat} {L : List CE} (h : ∀ i e, L[i]? = some e → σ (a + i) = some e) : wL σ a L = σ := by
  funext b
  unfold wL
  by_cases h2 : a ≤ b ∧ b < a + L.length
  · rw [if_pos h2]
    have hb : b - a < L.length := by omega
    have := h (b - a) _ (List.getElem?_eq_getElem hb)
    rw [show a + (b - a) = b by omega] at this
    rw [this, List.getElem?_eq_getElem hb]
  · rw [if_neg h2]
theorem wL_wL {σ : AH} {a : Nat} {L L' : List CE} (h : L.length = L'.length) : wL (wL σ a L) a L' = wL σ a L' := by
  funext b
  unfold wL
  by_cases h2 : a ≤ b ∧ b < a + L'.length
  · rw [if_pos h2, if_pos h2]
  · rw [if_neg h2, if_neg h2, if_neg (by omega)]
section LCmp
variable {K : KX} {own nm : String} {cc : ByteArray} {ret : Option FieldType} {cells slots pc pc1 pc' : Nat} {lv : List (Nat × Value)} {st : List Value} {h : AH} {n : Nat} {x y : Int64} {off : Int} {tgt : Nat}
theorem g_lif_eq (C : Cx K own nm cc ret) (d : decode cc pc = .ok (.lcmp, 1)) (hp1 : pc + 1 = pc1) (d1 : decode cc pc1 = .ok (.ifCond .eq off, 3)) (ht : (pc1 : Int) + off = (tgt : Int)) (hp : pc1 + 3 = pc') (k1 : x = y → G K cells slots tgt lv st h n) (k2 : ¬ (x = y) → G K cells slots pc' lv st h n) : G K cells slots pc lv (.long y :: .long x :: st) h n :=
  g_lcmp C d hp1 (g_if_eq C d1 ht hp (fun z => k1 ((lg_cmp_eq x y).mp z)) (fun z => k2 (fun w => z ((lg_cmp_eq x y).mpr w))))
theorem g_lif_lt (C : Cx K own nm cc ret) (d : decode cc pc = .ok (.lcmp, 1)) (hp1 : pc + 1 = pc1) (d1 : decode cc pc1 = .ok (.ifCond .lt off, 3)) (ht : (pc1 : Int) + off = (tgt : Int)) (hp : pc1 + 3 = pc') (k1 : x < y → G K cells slots tgt lv st h n) (k2 : ¬ (x < y) → G K cells slots pc' lv st h n) : G K cells slots pc lv (.long y :: .long x :: st) h n :=
  g_lcmp C d hp1 (g_if_lt C d1 ht hp (fun z => k1 ((lg_cmp_lt x y).mp z)) (fun z => k2 (fun w => z ((lg_cmp_lt x y).mpr w))))
theorem g_lif_ge (C : Cx K own nm cc ret) (d : decode cc pc = .ok (.lcmp, 1)) (hp1 : pc + 1 = pc1) (d1 : decode cc pc1 = .ok (.ifCond .ge off, 3)) (ht : (pc1 : Int) + off = (tgt : Int)) (hp : pc1 + 3 = pc') (k1 : y ≤ x → G K cells slots tgt lv st h n) (k2 : ¬ (y ≤ x) → G K cells slots pc' lv st h n) : G K cells slots pc lv (.long y :: .long x :: st) h n :=
  g_lcmp C d hp1 (g_if_ge C d1 ht hp (fun z => k1 ((lg_cmp_ge x y).mp z)) (fun z => k2 (fun w => z ((lg_cmp_ge x y).mpr w))))
theorem g_lif_gt (C : Cx K own nm cc ret) (d : decode cc pc = .ok (.lcmp, 1)) (hp1 : pc + 1 = pc1) (d1 : decode cc pc1 = .ok (.ifCond .gt off, 3)) (ht : (pc1 : Int) + off = (tgt : Int)) (hp : pc1 + 3 = pc') (k1 : y < x → G K cells slots tgt lv st h n) (k2 : ¬ (y < x) → G K cells slots pc' lv st h n) : G K cells slots pc lv (.long y :: .long x :: st) h n :=
  g_lcmp C d hp1 (g_if_gt C d1 ht hp (fun z => k1 ((lg_cmp_gt x y).mp z)) (fun z => k2 (fun w => z ((lg_cmp_gt x y).mpr w))))
theorem g_lif_le (C : Cx K own nm cc ret) (d : decode cc pc = .ok (.lcmp, 1)) (hp1 : pc + 1 = pc1) (d1 : decode cc pc1 = .ok (.ifCond .le off, 3)) (ht : (pc1 : Int) + off = (tgt : Int)) (hp : pc1 + 3 = pc') (k1 : x ≤ y → G K cells slots tgt lv st h n) (k2 : ¬ (x ≤ y) → G K cells slots pc' lv st h n) : G K cells slots pc lv (.long y :: .long x :: st) h n :=
  g_lcmp C d hp1 (g_if_le C d1 ht hp (fun z => k1 ((lg_cmp_le x y).mp z)) (fun z => k2 (fun w => z ((lg_cmp_le x y).mpr w))))
theorem g_lif_ne (C : Cx K own nm cc ret) (d : decode cc pc = .ok (.lcmp, 1)) (hp1 : pc + 1 = pc1) (d1 : decode cc pc1 = .ok (.ifCond .ne off, 3)) (ht : (pc1 : Int) + off = (tgt : Int)) (hp : pc1 + 3 = pc') (k1 : ¬ x = y → G K cells slots tgt lv st h n) (k2 : x = y → G K cells slots pc' lv st h n) : G K cells slots pc lv (.long y :: .long x :: st) h n :=
  g_lcmp C d hp1 (g_if_ne C d1 ht hp (fun z => k1 (fun w => z ((lg_cmp_eq x y).mpr w))) (fun z => k2 ((lg_cmp_eq x y).mp z)))
theorem g_topI {v v' : Int32} (e : v = v') (k : G K cells slots pc lv (.int v' :: st) h n) : G K cells slots pc lv (.int v :: st) h n := by rw [e]; exact k
theorem g_topL {v v' : Int64} (e : v = v') (k : G K cells slots pc lv (.long v' :: st) h n) : G K cells slots pc lv (.long v :: st) h n := by rw [e]; exact k
end LCmp
section Zero
variable {K : KX} {own nm : String} {cc : ByteArray} {ret : Option FieldType} {cells slots pc pc' : Nat} {lv : List (Nat × Value)} {st st' st2 : List Value} {h h' : AH} {n n' : Nat}
variable {y : MethodName} {b : ByteArray} {maxL ix : Nat} {ry : Option FieldType} {rm : Room} {as : List Value} {r : Option Value} {k : Nat}
def Rm0 (R rm : Room) (maxL : Nat) : Prop := rm.cells = 0 ∧ rm.slots = 0 ∧ rm.frames + 1 ≤ R.frames ∧ 8 + (maxL + 11) + rm.locals ≤ R.locals
theorem rmz {R rm : Room} (h : Rm0 R rm maxL) (h1 : cells ≤ R.cells) (h2 : slots ≤ R.slots) : Rm R rm maxL cells slots 0 0 := ⟨h.1, h.2.1, ⟨h.2.2.1, h.2.2.2⟩, h1, h2⟩
theorem g_callS0 (C : Cx K own nm cc ret) (w : WSt own ix y b maxL ry k) (cn : Con (kL K) (kE K) y (.code y b maxL ry :: TT) rm 0 0 as h n r h' n') (hrm : Rm (kR K) rm maxL cells slots 0 0) (hk : as.length = k) (hst : as.reverse ++ st' = st) (hcat : (st'.map fun v => v.category).sum ≤ 8) (hr2 : r.toList ++ st' = st2) (d : decode cc pc = .ok (.invokestatic ix, 3)) (hp : pc + 3 = pc') (kk : G K cells slots pc' lv st2 h' n') : G K cells slots pc lv st h n :=
  g_callS C w cn hrm hk hst hcat hr2 d hp kk
theorem g_callV0 (C : Cx K own nm cc ret) (w : WVi own ix y b maxL ry k) {a ci N : Nat} {fs : List Value} {T : u_T} (hcl : vwCl[ci]? = some (y.cls, T, N)) (ha : h a = some (.inr (ci, fs))) (cn : Con (kL K) (kE K) y (.code y b maxL ry :: TT) rm 0 0 (.ref a :: as) h n r h' n') (hrm : Rm (kR K) rm maxL cells slots 0 0) (hk : as.length = k) (hst : as.reverse ++ .ref a :: st' = st) (hcat : (st'.map fun v => v.category).sum ≤ 8) (hr2 : r.toList ++ st' = st2) (d : decode cc pc = .ok (.invokevirtual ix, 3)) (hp : pc + 3 = pc') (kk : G K cells slots pc' lv st2 h' n') : G K cells slots pc lv st h n :=
  g_callV C w hcl ha cn hrm hk hst hcat hr2 d hp kk
theorem g_callN0 (C : Cx K own nm cc ret) (hl0 : va_Nw (.methodLinkNest own ix y RX6) K.2.2.2.2.1) (w : Cond.static y ∈ TT ∧ Cond.initialized y.cls ∈ TT ∧ Cond.code y b maxL ry ∈ TT ∧ (y.cls ≠ "java/lang/invoke/MethodHandle" ∧ y.cls ≠ "java/lang/invoke/VarHandle" ∧ (parseMethodDescriptor y.desc).map (fun d => d.parameters.length) = some k)) (cn : Con (kL K) (kE K) y (.code y b maxL ry :: TT) rm 0 0 as h n r h' n') (hrm : Rm (kR K) rm maxL cells slots 0 0) (hk : as.length = k) (hst : as.reverse ++ st' = st) (hcat : (st'.map fun v => v.category).sum ≤ 8) (hr2 : r.toList ++ st' = st2) (d : decode cc pc = .ok (.invokestatic ix, 3)) (hp : pc + 3 = pc') (kk : G K cells slots pc' lv st2 h' n') : G K cells slots pc lv st h n :=
  g_callN C hl0 w cn hrm hk hst hcat hr2 d hp kk
theorem zS (C : Cx K own nm cc ret) : zOk (kE K) K.2.2.2.2.1 K.2.2.2.2.1.heap := C.2.2.2.2.2.1.2.1
theorem zN (C : Cx K own nm cc ret) : xNest K.2.2.2.2.1 := C.2.2.2.2.2.1.2.2.2.1
end Zero
