/-! THE CORE, its heap rows: fields, arrays, statics, making -/
def FC (ci : Nat) (Cn : String) (T : u_T) (N : Nat) (ty : Nat → FieldType) : Prop := vwCl[ci]? = some (Cn, T, N) ∧ (∀ w ∈ u_ws Cn T N, w ∈ TT) ∧ (∀ k, k < N → parseFieldDescriptor (T k).2.2.1 = some (ty k)) ∧ ∀ a, a < N → ∀ b, b < N → a ≠ b → (T a).2.1 ≠ (T b).2.1
section Heap
variable {K : KX} {own nm : String} {cc : ByteArray} {ret : Option FieldType} {cells slots pc pc' : Nat} {lv : List (Nat × Value)} {st : List Value} {h h' : AH} {n : Nat} {ci : Nat} {Cn : String} {T : u_T} {N : Nat} {ty : Nat → FieldType} {a : Nat} {fs : List Value} {v : Value} {ix : Nat}
theorem hR.one {E : Ex} {H : Heap} {e : CE} (hh : hR E h H) (ha : h a = some e) : va_P E.1 vwCl [(a, ceE E e)] H := fun k q hq => by
  match k, hq with
  | 0, hq => cases hq; exact (hh a e ha).1
  | k + 1, hq => simp at hq
theorem g_get (C : Cx K own nm cc ret) (F : FC ci Cn T N ty) (k : Nat) (hk : k < N) (hw : Cond.fieldLink own ix (T k).1 (T k).2.1 (T k).2.2.1 ∈ TT) (ha : h a = some (.inr (ci, fs))) (hv : fs[k]? = some v) (d : decode cc pc = .ok (.getfield ix, 3)) (hp : pc + 3 = pc') (kk : G K cells slots pc' lv (v :: st) h n) : G K cells slots pc lv (.ref a :: st) h n := by
  obtain ⟨p, l, e, R, s, m, args, below, meth, c, nL, E, Q⟩ := K
  intro ls H locs hl hR hn hS
  subst hp
  exact va_get (D := E.1) (q0 := 0) C.1 C.2.1 C.2.2.2.2.1 F.2.1 C.2.2.2.1 C.2.2.2.2.2.1.1 (hR.one ha) rfl F.1 k hk (C.2.2.2.2.1 _ hw) (fun _ z => z) hv d (kk ls H locs hl hR hn hS)
theorem g_put (C : Cx K own nm cc ret) (F : FC ci Cn T N ty) (k : Nat) (hk : k < N) (hw : Cond.fieldLink own ix (T k).1 (T k).2.1 (T k).2.2.1 ∈ TT) (hfin : (T k).2.2.2 = false) (hn1 : narrow (ty k) v = v) (hf1 : fits (ty k) v = true) (hl1 : k < fs.length) (ha : h a = some (.inr (ci, fs))) (he : hU h a (.inr (ci, fs.set k v)) = h') (d : decode cc pc = .ok (.putfield ix, 3)) (hp : pc + 3 = pc') (kk : G K cells slots pc' lv st h' n) : G K cells slots pc lv (v :: .ref a :: st) h n := by
  obtain ⟨p, l, e, R, s, m, args, below, meth, c, nL, E, Q⟩ := K
  intro ls H locs hl hR hn hS
  subst hp
  subst he
  obtain ⟨hat, h0⟩ := hR a _ ha
  have hts : ∀ w ∈ TT, w.before args s = true := C.2.2.2.2.1
  have hK := C.2.2.2.2.2.1.1
  have hap := va_apart (own := own) hts F.2.1 ty F.2.2.1 F.2.2.2 hK F.1
  obtain ⟨r, h1, cell, q1, q2, q3, q4⟩ := hat
  have hr : r = (Cn, T, N) := Option.some.inj (h1.symm.trans F.1)
  subst hr
  obtain ⟨hS0, hfc, kC, hkC, hkind⟩ := hK.1 ci _ F.1
  obtain ⟨cf, kf, fi, f, hi, hsl⟩ := hS0 k hk
  have hlay := hts _ (F.2.1 _ (u_in_lay hk))
  unfold u_lay at hlay
  rw [if_neg (by rw [hfin]; decide)] at hlay
  have hst := (u_facts hfc hkC (u_lays hts F.2.1 hk) hi).1
  have h6 := u_store hfc hkC hkind hlay hi (F.2.2.1 k hk) hn1 hf1
  refine W.putK C.1 C.2.1 (f := f) ⟨C.2.2.2.1, hts _ hw, ⟨_, _, _, hi⟩, hst⟩ (by rw [q2]; exact h6) q1 q3 (by rw [hsl]; exact k2_hasslot (q4 k hk)) rfl rfl d fun H' e1 e2 e3 => ?_
  rw [hsl] at e1 ⊢
  exact kk ls H' _ hl (hR.set h0 ⟨_, F.1, t_OB.to (V := updV (vp_V fs) k v) ⟨_, e1, q2, q3, t_set q4 hap hk v⟩ (fun j _ => vp_updV_set hl1 v j)⟩ e3) (e2.trans hn) (hS.put e2 e3 h0)
theorem g_putF (C : Cx K own "<init>" cc ret) (F : FC ci Cn T N ty) (k : Nat) (hk : k < N) (hw : Cond.fieldLink own ix (T k).1 (T k).2.1 (T k).2.2.1 ∈ TT) (hfin : (T k).2.2.2 = true) (hdecl : (T k).1 = own) (hn1 : narrow (ty k) v = v) (hf1 : fits (ty k) v = true) (hl1 : k < fs.length) (ha : h a = some (.inr (ci, fs))) (he : hU h a (.inr (ci, fs.set k v)) = h') (d : decode cc pc = .ok (.putfield ix, 3)) (hp : pc + 3 = pc') (kk : G K cells slots pc' lv st h' n) : G K cells slots pc lv (v :: .ref a :: st) h n := by
  obtain ⟨p, l, e, R, s, m, args, below, meth, c, nL, E, Q⟩ := K
  intro ls H locs hl hR hn hS
  subst hp
  subst he
  obtain ⟨hat, h0⟩ := hR a _ ha
  have hts : ∀ w ∈ TT, w.before args s = true := C.2.2.2.2.1
  have hK := C.2.2.2.2.2.1.1
  have hap := va_apart (own := own) hts F.2.1 ty F.2.2.1 F.2.2.2 hK F.1
  obtain ⟨r, h1, cell, q1, q2, q3, q4⟩ := hat
  have hr : r = (Cn, T, N) := Option.some.inj (h1.symm.trans F.1)
  subst hr
  obtain ⟨hS0, hfc, kC, hkC, hkind⟩ := hK.1 ci _ F.1
  obtain ⟨cf, kf, fi, f, hi, hsl⟩ := hS0 k hk
  have hlay := hts _ (F.2.1 _ (u_in_lay hk))
  unfold u_lay at hlay
  rw [if_pos hfin] at hlay
  have hst := (u_facts hfc hkC (u_lays hts F.2.1 hk) hi).1
  have hcf : m.cls = cf := by
    obtain ⟨_, _, c', _, _, _, -, -, hf', -, -, -, hown2, -⟩ := Cond.laysFinal_spec hlay
    have e1 : c' = cf := by have := hi.symm.trans hf'; simp at this; exact this.1.symm
    rw [hdecl] at hown2
    rw [← e1]; exact Option.some.inj (C.2.2.2.1.symm.trans hown2)
  have h6 := u_fits hfc hkC hkind (Or.inr hlay) hi (F.2.2.1 k hk) hn1 hf1
  refine W.putFinK C.1 C.2.1 C.2.2.2.1 (hts _ hw) hi hst hcf C.2.2.2.2.2.2.2.2 (by rw [q2]; exact h6) q1 q3 (by rw [hsl]; exact k2_hasslot (q4 k hk)) rfl rfl d fun H' e1 e2 e3 => ?_
  rw [hsl] at e1 ⊢
  exact kk ls H' _ hl (hR.set h0 ⟨_, F.1, t_OB.to (V := updV (vp_V fs) k v) ⟨_, e1, q2, q3, t_set q4 hap hk v⟩ (fun j _ => vp_updV_set hl1 v j)⟩ e3) (e2.trans hn) (hS.put e2 e3 h0)
theorem g_iald (C : Cx K own nm cc ret) {z : Nat} {f : Nat → Int32} {i : Int32} (ha : h a = some (.inl (0, z, .inl f))) (hi : vp_in i z) (d : decode cc pc = .ok (.iaload, 1)) (hp : pc + 1 = pc') (kk : G K cells slots pc' lv (.int (f i.toNatClampNeg) :: st) h n) : G K cells slots pc lv (.int i :: .ref a :: st) h n := by
  obtain ⟨p, l, e, R, s, m, args, below, meth, c, nL, E, Q⟩ := K
  intro ls H locs hl hR hn hS
  subst hp
  exact va_iald (D := E.1) C.1 C.2.1 C.2.2.2.2.2.1.1 (hR.one ha) 0 0 rfl rfl hi d (kk ls H locs hl hR hn hS)
theorem g_lald (C : Cx K own nm cc ret) {z : Nat} {f : Nat → Int64} {i : Int32} (ha : h a = some (.inl (1, z, .inr (.inl f)))) (hi : vp_in i z) (d : decode cc pc = .ok (.laload, 1)) (hp : pc + 1 = pc') (kk : G K cells slots pc' lv (.long (f i.toNatClampNeg) :: st) h n) : G K cells slots pc lv (.int i :: .ref a :: st) h n := by
  obtain ⟨p, l, e, R, s, m, args, below, meth, c, nL, E, Q⟩ := K
  intro ls H locs hl hR hn hS
  subst hp
  exact va_lald (D := E.1) C.1 C.2.1 C.2.2.2.2.2.1.1 (hR.one ha) 0 1 rfl rfl hi d (kk ls H locs hl hR hn hS)
theorem g_zald (C : Cx K own nm cc ret) {z : Nat} {f : Nat → Int32} {i : Int32} (ha : h a = some (.inl (2, z, .inl f))) (hi : vp_in i z) (d : decode cc pc = .ok (.baload, 1)) (hp : pc + 1 = pc') (kk : G K cells slots pc' lv (.int (f i.toNatClampNeg) :: st) h n) : G K cells slots pc lv (.int i :: .ref a :: st) h n := by
  obtain ⟨p, l, e, R, s, m, args, below, meth, c, nL, E, Q⟩ := K
  intro ls H locs hl hR hn hS
  subst hp
  exact va_zald (D := E.1) C.1 C.2.1 C.2.2.2.2.2.1.1 (hR.one ha) 0 2 rfl rfl hi d (kk ls H locs hl hR hn hS)
theorem g_aald (C : Cx K own nm cc ret) {z kd b : Nat} {f : Nat → Option Nat} {i : Int32} (hkd : kd = 3 ∨ kd = 4) (ha : h a = some (.inl (kd, z, .inr (.inr (.inr (.inr f)))))) (hi : vp_in i z) (hb : f i.toNatClampNeg = some b) (d : decode cc pc = .ok (.aaload, 1)) (hp : pc + 1 = pc') (kk : G K cells slots pc' lv (.ref b :: st) h n) : G K cells slots pc lv (.int i :: .ref a :: st) h n := by
  obtain ⟨p, l, e, R, s, m, args, below, meth, c, nL, E, Q⟩ := K
  intro ls H locs hl hR hn hS
  subst hp
  have e1 : va_rf (f i.toNatClampNeg) = .ref b := by rw [hb]; rfl
  rcases hkd with rfl | rfl
  · exact va_aldq (D := E.1) C.1 C.2.1 C.2.2.2.2.2.1.1 (hR.one ha) 0 3 rfl rfl hi d (by rw [e1]; exact kk ls H locs hl hR hn hS)
  · exact va_aldq (D := E.1) C.1 C.2.1 C.2.2.2.2.2.1.1 (hR.one ha) 0 4 rfl rfl hi d (by rw [e1]; exact kk ls H locs hl hR hn hS)
theorem g_iast (C : Cx K own nm cc ret) {z : Nat} {f : Nat → Int32} {i x : Int32} (ha : h a = some (.inl (0, z, .inl f))) (hi : vp_in i z) (he : hU h a (.inl (0, z, .inl (va_up f i.toNatClampNeg x))) = h') (d : decode cc pc = .ok (.iastore, 1)) (hp : pc + 1 = pc') (kk : G K cells slots pc' lv st h' n) : G K cells slots pc lv (.int x :: .int i :: .ref a :: st) h n := by
  obtain ⟨p, l, e, R, s, m, args, below, meth, c, nL, E, Q⟩ := K
  intro ls H locs hl hR hn hS
  subst hp
  subst he
  obtain ⟨hat, h0⟩ := hR a _ ha
  have hK := C.2.2.2.2.2.1.1
  refine W.iast C.1 C.2.1 hat ((hK.2 0 _ rfl).1 z (fun j => .int (f j))) (fun q => by cases q) (by show ¬ (i < 0 ∨ (arrV _ _ _).slots.size ≤ _); rw [arrV_size]; exact hi) rfl rfl d fun H1 e z1 oq => ?_
  refine kk ls H1 _ hl (hR.set h0 ?_ oq) (z1.trans hn) (hS.put z1 oq h0)
  show H1[a]? = some (vp_cell _ _)
  rw [e]
  show some ((arrV (E.2.1 0) z (fun j => .int (f j))).setSlot _ _) = some (arrV (E.2.1 0) z (fun j => .int (va_up f i.toNatClampNeg x j)))
  rw [arrV_store]
  congr 2
  funext q
  by_cases hq : q = i.toNatClampNeg
  · simp [updV, va_up, hq]
  · simp [updV, va_up, hq]
theorem g_last (C : Cx K own nm cc ret) {z : Nat} {f : Nat → Int64} {i : Int32} {x : Int64} (ha : h a = some (.inl (1, z, .inr (.inl f)))) (hi : vp_in i z) (he : hU h a (.inl (1, z, .inr (.inl (va_up f i.toNatClampNeg x)))) = h') (d : decode cc pc = .ok (.lastore, 1)) (hp : pc + 1 = pc') (kk : G K cells slots pc' lv st h' n) : G K cells slots pc lv (.long x :: .int i :: .ref a :: st) h n := by
  obtain ⟨p, l, e, R, s, m, args, below, meth, c, nL, E, Q⟩ := K
  intro ls H locs hl hR hn hS
  subst hp
  subst he
  obtain ⟨hat, h0⟩ := hR a _ ha
  have hK := C.2.2.2.2.2.1.1
  refine W.last C.1 C.2.1 hat ((hK.2 1 _ rfl).1 z (fun j => .long (f j))) (fun q => by cases q) (by show ¬ (i < 0 ∨ (arrV _ _ _).slots.size ≤ _); rw [arrV_size]; exact hi) rfl rfl d fun H1 e z1 oq => ?_
  refine kk ls H1 _ hl (hR.set h0 ?_ oq) (z1.trans hn) (hS.put z1 oq h0)
  show H1[a]? = some (vp_cell _ _)
  rw [e]
  show some ((arrV (E.2.1 1) z (fun j => .long (f j))).setSlot _ _) = some (arrV (E.2.1 1) z (fun j => .long (va_up f i.toNatClampNeg x j)))
  rw [arrV_store]
  congr 2
  funext q
  by_cases hq : q = i.toNatClampNeg
  · simp [updV, va_up, hq]
  · simp [updV, va_up, hq]
theorem g_zast (C : Cx K own nm cc ret) {z : Nat} {f : Nat → Int32} {i x : Int32} (hx : narrow .boolean (.int x) = .int x) (ha : h a = some (.inl (2, z, .inl f))) (hi : vp_in i z) (he : hU h a (.inl (2, z, .inl (va_up f i.toNatClampNeg x))) = h') (d : decode cc pc = .ok (.bastore, 1)) (hp : pc + 1 = pc') (kk : G K cells slots pc' lv st h' n) : G K cells slots pc lv (.int x :: .int i :: .ref a :: st) h n := by
  obtain ⟨p, l, e, R, s, m, args, below, meth, c, nL, E, Q⟩ := K
  intro ls H locs hl hR hn hS
  subst hp
  subst he
  obtain ⟨hat, h0⟩ := hR a _ ha
  have hK := C.2.2.2.2.2.1.1
  refine W.zast C.1 C.2.1 hat ((hK.2 2 _ rfl).1 z (fun j => .int (f j))) (fun q => by cases q) (by show ¬ (i < 0 ∨ (arrV _ _ _).slots.size ≤ _); rw [arrV_size]; exact hi) rfl rfl d fun H1 e z1 oq => ?_
  refine kk ls H1 _ hl (hR.set h0 ?_ oq) (z1.trans hn) (hS.put z1 oq h0)
  show H1[a]? = some (vp_cell _ _)
  rw [e, hx]
  show some ((arrV (E.2.1 2) z (fun j => .int (f j))).setSlot _ _) = some (arrV (E.2.1 2) z (fun j => .int (va_up f i.toNatClampNeg x j)))
  rw [arrV_store]
  congr 2
  funext q
  by_cases hq : q = i.toNatClampNeg
  · simp [updV, va_up, hq]
  · simp [updV, va_up, hq]
theorem g_gets (C : Cx K own nm cc ret) {Cs nf df : String} (hZ : va_Z Cs nf df v (xA (kE K)) K.2.2.2.2.1 K.2.2.2.2.1.heap) (hw : Cond.fieldLink own ix Cs nf df ∈ TT) (d : decode cc pc = .ok (.getstatic ix, 3)) (hp : pc + 3 = pc') (kk : G K cells slots pc' lv (v :: st) h n) : G K cells slots pc lv st h n := by
  obtain ⟨p, l, e, R, s, m, args, below, meth, c, nL, E, Q⟩ := K
  intro ls H locs hl hR hn hS
  subst hp
  exact va_gets C.1 C.2.1 hZ hS C.2.2.2.1 (C.2.2.2.2.1 _ hw) (fun _ z => z) d (kk ls H locs hl hR hn hS)
theorem g_sild (C : Cx K own nm cc ret) {t z : Nat} {f : Nat → Int32} {i : Int32} (hT : va_T .int t z (fun j => .int (f j)) (xA (kE K)) K.2.2.2.2.1 K.2.2.2.2.1.heap) (hi : vp_in i z) (d : decode cc pc = .ok (.iaload, 1)) (hp : pc + 1 = pc') (kk : G K cells slots pc' lv (.int (f i.toNatClampNeg) :: st) h n) : G K cells slots pc lv (.int i :: .ref t :: st) h n := by
  obtain ⟨p, l, e, R, s, m, args, below, meth, c, nL, E, Q⟩ := K
  intro ls H locs hl hR hn hS
  subst hp
  obtain ⟨cell, h1, h2, h3, h4, h5, h6, h7⟩ := hT
  have hlt : i.toNatClampNeg < z := Nat.not_le.mp fun q => hi (Or.inr q)
  exact W.iald C.1 C.2.1 (by rw [hS.2.1 t (Array.getElem?_eq_some_iff.mp h1).1 h7]; exact h1) h2 h3 (fun q => hi (q.imp id (fun x => Nat.le_trans h4 x))) (h6 _ hlt) rfl rfl d (kk ls H locs hl hR hn hS)
theorem g_slld (C : Cx K own nm cc ret) {t z : Nat} {f : Nat → Int64} {i : Int32} (hT : va_T .long t z (fun j => .long (f j)) (xA (kE K)) K.2.2.2.2.1 K.2.2.2.2.1.heap) (hi : vp_in i z) (d : decode cc pc = .ok (.laload, 1)) (hp : pc + 1 = pc') (kk : G K cells slots pc' lv (.long (f i.toNatClampNeg) :: st) h n) : G K cells slots pc lv (.int i :: .ref t :: st) h n := by
  obtain ⟨p, l, e, R, s, m, args, below, meth, c, nL, E, Q⟩ := K
  intro ls H locs hl hR hn hS
  subst hp
  obtain ⟨cell, h1, h2, h3, h4, h5, h6, h7⟩ := hT
  have hlt : i.toNatClampNeg < z := Nat.not_le.mp fun q => hi (Or.inr q)
  exact W.lald C.1 C.2.1 (by rw [hS.2.1 t (Array.getElem?_eq_some_iff.mp h1).1 h7]; exact h1) h2 h3 (fun q => hi (q.imp id (fun x => Nat.le_trans h4 x))) (h6 _ hlt) rfl rfl d (kk ls H locs hl hR hn hS)
end Heap
section Ends
variable {K : KX} {own nm : String} {cc : ByteArray} {ret : Option FieldType} {cells slots pc pc' : Nat} {lv : List (Nat × Value)} {st : List Value} {h h' : AH} {n n' : Nat}
/-- a contract's end: what it answers, and the cells behind it -/
def cQ (E : Ex) (r : Option Value) (h : AH) (n : Nat) : Array Value → State → Outcome → State → Prop := fun _ st o t => o = .returned r ∧ hR E h t.heap ∧ t.heap.size = n ∧ va_F (xA E) st t
/-- what a walk must end in, where the method's own end is cQ -/
def KQ (K : KX) (mc ms : Nat) (r : Option Value) (h : AH) (n : Nat) : Prop := match K with
  | (_, _, _, _, s, _, args, below, _, _, _, E, Q) => Q = MQ below (cQ E r h n) args s mc ms (xA E)
theorem g_iret (C : Cx K own nm cc (some .int)) {v : Int32} (hK : KQ K cells slots (some (.int v)) h n) (d : decode cc pc = .ok (.ireturn, 1)) : G K cells slots pc lv [.int v] h n := by
  obtain ⟨p, l, e, R, s, m, args, below, meth, c, nL, E, Q⟩ := K
  intro ls H locs hl hR hn hS
  cases hK
  have hlocks : meth.locks = false := C.2.2.2.2.2.2.2.1
  exact W.iret C.1 C.2.1 C.2.2.2.2.2.2.1 (fun t ht hW => ⟨rfl, by rw [ht]; exact hR, by rw [ht]; exact hn, hS.F ht⟩) hS.2.2 d hlocks
theorem g_zret (C : Cx K own nm cc (some .boolean)) {v : Int32} (hv : narrow .boolean (.int v) = .int v) (hK : KQ K cells slots (some (.int v)) h n) (d : decode cc pc = .ok (.ireturn, 1)) : G K cells slots pc lv [.int v] h n := by
  obtain ⟨p, l, e, R, s, m, args, below, meth, c, nL, E, Q⟩ := K
  intro ls H locs hl hR hn hS
  cases hK
  have hlocks : meth.locks = false := C.2.2.2.2.2.2.2.1
  exact W.zret C.1 C.2.1 C.2.2.2.2.2.2.1 hv (fun t ht hW => ⟨rfl, by rw [ht]; exact hR, by rw [ht]; exact hn, hS.F ht⟩) hS.2.2 d hlocks
theorem g_lret (C : Cx K own nm cc (some .long)) {v : Int64} (hK : KQ K cells slots (some (.long v)) h n) (d : decode cc pc = .ok (.lreturn, 1)) : G K cells slots pc lv [.long v] h n := by
  obtain ⟨p, l, e, R, s, m, args, below, meth, c, nL, E, Q⟩ := K
  intro ls H locs hl hR hn hS
  cases hK
  have hlocks : meth.locks = false := C.2.2.2.2.2.2.2.1
  exact W.lret C.1 C.2.1 C.2.2.2.2.2.2.1 (fun t ht hW => ⟨rfl, by rw [ht]; exact hR, by rw [ht]; exact hn, hS.F ht⟩) hS.2.2 d hlocks
theorem g_vret (C : Cx K own nm cc none) (hK : KQ K cells slots none h n) (d : decode cc pc = .ok (.return_, 1)) : G K cells slots pc lv [] h n := by
  obtain ⟨p, l, e, R, s, m, args, below, meth, c, nL, E, Q⟩ := K
  intro ls H locs hl hR hn hS
  cases hK
  have hlocks : meth.locks = false := C.2.2.2.2.2.2.2.1
  exact W.vret C.1 C.2.1 C.2.2.2.2.2.2.1 (fun t ht hW => ⟨rfl, by rw [ht]; exact hR, by rw [ht]; exact hn, hS.F ht⟩) hS.2.2 d hlocks
end Ends
/-- **a method's contract**: from every start that holds the cells h, it returns r and leaves the cells h' -/
def Con (l : Launch) (E : Ex) (y : MethodName) (ws : List Cond) (rm : Room) (mc ms : Nat) (as : List Value) (h : AH) (n : Nat) (r : Option Value) (h' : AH) (n' : Nat) : Prop :=
  Met l y ws rm (va_Pc as (fun U => En E U U.heap ∧ hR E h U.heap ∧ U.heap.size = n)) (cQ E r h' n') mc ms (xA E)
theorem con_intro {l : Launch} {E : Ex} {y : MethodName} {cc : ByteArray} {maxL : Nat} {ret : Option FieldType} {rm : Room} {mc ms : Nat} {as : List Value} {h : AH} {n : Nat} {r : Option Value} {h' : AH} {n' : Nat}
    (hy : plainName y.cls = true) (hsz : (lg_sl as).length ≤ maxL)
    (body : ∀ K : KX, Cx K y.cls y.name cc ret → kR K = rm → kL K = l → kE K = E → kN K = maxL → KQ K mc ms r h' n' → G K 0 0 0 (lv_args 0 as) [] h n) :
    Con l E y (.code y cc maxL ret :: TT) rm mc ms as h n r h' n' := by
  refine Met.ofW (cc := cc) (maxL := maxL) (ret := ret) hy rfl ?_
  intro p e s m args below meth c s₁ B hml hv
  obtain ⟨rfl, hEn, hR0, hn⟩ := hv
  have hts := atoms_spec (ws := Cond.code y cc maxL ret :: TT) B.pre
  have hown : s.vm.findClass y.cls = some m.cls := findClass_of_methodNamed B.named
  have hl := lv_entry as (n := maxL) hsz
  rw [lg_entry_eq]
  refine body (p, l, e, _, s, m, as.toArray, below, meth, c, maxL, E, _) ⟨B.exec, B.bytes, hml, hown, fun w hw => hts w (List.mem_cons_of_mem _ hw), hEn, B.returns, B.notSynchronized, (name_of_methodNamed B.named B.method).1⟩ rfl rfl rfl rfl rfl _ _ _ hl hR0 hn va_S.rf
