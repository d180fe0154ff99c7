/-! THE CORE, its calls: by contract; making objects and arrays -/
def WSt (own : String) (ix : Nat) (y : MethodName) (b : ByteArray) (maxL : Nat) (ret : Option FieldType) (k : Nat) : Prop :=
  Cond.methodLink own ix y ∈ TT ∧ Cond.static y ∈ TT ∧ Cond.initialized y.cls ∈ TT ∧ Cond.code y b maxL ret ∈ TT ∧ (y.cls ≠ "java/lang/invoke/MethodHandle" ∧ y.cls ≠ "java/lang/invoke/VarHandle" ∧ (parseMethodDescriptor y.desc).map (fun d => d.parameters.length) = some k)
def WVi (own : String) (ix : Nat) (y : MethodName) (b : ByteArray) (maxL : Nat) (ret : Option FieldType) (k : Nat) : Prop :=
  Cond.methodLink own ix y ∈ TT ∧ Cond.instanceMethod y ∈ TT ∧ Cond.selects y.cls y y ∈ TT ∧ Cond.initialized y.cls ∈ TT ∧ Cond.code y b maxL ret ∈ TT ∧ (y.cls ≠ "java/lang/invoke/MethodHandle" ∧ y.cls ≠ "java/lang/invoke/VarHandle" ∧ (parseMethodDescriptor y.desc).map (fun d => d.parameters.length) = some k)
def WSp (own : String) (ix : Nat) (y : MethodName) (b : ByteArray) (maxL : Nat) (k : Nat) : Prop :=
  Cond.methodLink own ix y ∈ TT ∧ Cond.instanceMethod y ∈ TT ∧ Cond.initialized y.cls ∈ TT ∧ Cond.code y b maxL none ∈ TT ∧ y.name = "<init>" ∧ (y.cls ≠ "java/lang/invoke/MethodHandle" ∧ y.cls ≠ "java/lang/invoke/VarHandle" ∧ (parseMethodDescriptor y.desc).map (fun d => d.parameters.length) = some k)
def Rm (R rm : Room) (maxL cells slots mc ms : Nat) : Prop := rm.cells = mc ∧ rm.slots = ms ∧ (rm.frames + 1 ≤ R.frames ∧ 8 + (maxL + 11) + rm.locals ≤ R.locals) ∧ (cells + mc ≤ R.cells ∧ slots + ms ≤ R.slots)
section Calls
variable {K : KX} {own nm : String} {cc : ByteArray} {ret : Option FieldType} {cells slots pc pc' : Nat} {lv : List (Nat × Value)} {st st' st2 : List Value} {h h' : AH} {n n' : Nat}
variable {y : MethodName} {b : ByteArray} {maxL mc ms ix : Nat} {ry : Option FieldType} {rm : Room} {as : List Value} {r : Option Value} {k : Nat}
theorem va_S.after {A : Nat → Prop} {H0 H H1 : Heap} {locs L : List Loc} (hS : va_S A H0 H locs) (hz : H.size ≤ H1.size) (hk : ∀ q : Nat, q < H.size → ¬ A q → H1[q]? = H[q]?) (hL : ∀ q ∈ L, A q.base) : va_S A H0 H1 (locs ++ L) :=
  ⟨Nat.le_trans hS.1 hz, fun q h1 h2 => (hk q (Nat.lt_of_lt_of_le h1 hS.1) h2).trans (hS.2.1 q h1 h2), fun q hq => by
    rcases List.mem_append.mp hq with z | z
    · exact hS.2.2 q z
    · exact hL q z⟩
theorem g_back {p : Program} {l : Launch} {e : Env} {R : Room} {s : State} {m : MethodId} {args : Array Value} {below : List Frame} {meth : Method} {c : Code} {nL : Nat} {E : Ex} {Q : State → Prop} {H : Heap} {locs : List Loc} {ls : Array Slot} {aa : Array Value}
    (hr : va_Run p l e R s m args below meth c H locs cells slots mc ms (F0 m pc ls st) st' (cQ E r h' n' aa) (xA E)) (hl : lv_has ls nL lv) (hS : va_S (xA E) s.heap H locs) (hst : r.toList ++ st' = st2)
    (kk : G (p, l, e, R, s, m, args, below, meth, c, nL, E, Q) (cells + mc) (slots + ms) (pc + 3) lv st2 h' n') : W p l e R s m args below meth c H locs cells slots Q (F0 m pc ls st) := by
  intro T hT X
  obtain ⟨v, st₀, t, T', L, h0, X', hL, e1, e2, ⟨hv, hR', hn', hF⟩, stp⟩ := hr T hT X
  cases hv
  subst hst
  obtain ⟨hz, hk⟩ := hF
  rw [h0] at hz hk
  obtain ⟨t2, a1, b1⟩ := kk ls t.heap (locs ++ L) hl hR' hn' (hS.after hz hk hL) T' e1 X'
  exact ⟨t2, stp t2 a1, b1⟩
theorem con_pre {E : Ex} {s : State} {H : Heap} {locs : List Loc} (hE : En E s s.heap) (hR0 : hR E h H) (hn : H.size = n) (hS : va_S (xA E) s.heap H locs) : PreS s H (va_Pc as (fun U => En E U U.heap ∧ hR E h U.heap ∧ U.heap.size = n)) as :=
  ⟨fun a U g mk q => by obtain ⟨q0, q1, q2, q3⟩ := q; exact ⟨q0, q1.blind, q2, q3⟩, fun U hU hW => ⟨rfl, hE.at hS hW hU, by rw [hU]; exact hR0, by rw [hU]; exact hn⟩⟩
theorem con_good {c0 d0 : Cond} {y0 : MethodName} (h : d0 ∈ TT) : GoodIn TT (d0 :: TT) := tt_in0 h
theorem g_callS (C : Cx K own nm cc ret) (w : WSt own ix y b maxL ry k) (cn : Con (kL K) (kE K) y (.code y b maxL ry :: TT) rm mc ms as h n r h' n') (hrm : Rm (kR K) rm maxL cells slots mc ms) (hk : as.length = k) (hst : as.reverse ++ st' = st) (hcat : (st'.map fun v => v.category).sum ≤ 8) (hr2 : r.toList ++ st' = st2) (d : decode cc pc = .ok (.invokestatic ix, 3)) (hp : pc + 3 = pc') (kk : G K (cells + mc) (slots + ms) pc' lv st2 h' n') : G K cells slots pc lv st h n := by
  obtain ⟨p, l, e, R, s, m, args, below, meth, c, nL, E, Q⟩ := K
  intro ls H locs hl hR0 hn hS
  subst hp
  have hts : ∀ x ∈ TT, x.before args s = true := C.2.2.2.2.1
  obtain ⟨w1, w2, w3, w4, w5⟩ := w
  obtain ⟨r1, r2, r3, r4⟩ := hrm
  have cb := callB_of (n := k) (R := R) (own := own) (index := ix) (rm := rm) (mc := mc) (ms := ms) hts (tt_in0 w4) rfl r1 r2 (hts _ w3) (hts _ w1) w5 r3
  exact g_back (va_runS (n := k) (ret := ry) ⟨C.1, C.2.1, C.2.2.1, C.2.2.2.1, hts⟩ cn ⟨cb, hts _ w2⟩ (con_pre C.2.2.2.2.2.1 hR0 hn hS) rfl hk hl.1 hst.symm (lv_room hcat) d r4) hl hS hr2 kk
theorem g_callV (C : Cx K own nm cc ret) (w : WVi own ix y b maxL ry k) {a ci N : Nat} {fs : List Value} {T : u_T} (hcl : vwCl[ci]? = some (y.cls, T, N)) (ha : h a = some (.inr (ci, fs))) (cn : Con (kL K) (kE K) y (.code y b maxL ry :: TT) rm mc ms (.ref a :: as) h n r h' n') (hrm : Rm (kR K) rm maxL cells slots mc ms) (hk : as.length = k) (hst : as.reverse ++ .ref a :: st' = st) (hcat : (st'.map fun v => v.category).sum ≤ 8) (hr2 : r.toList ++ st' = st2) (d : decode cc pc = .ok (.invokevirtual ix, 3)) (hp : pc + 3 = pc') (kk : G K (cells + mc) (slots + ms) pc' lv st2 h' n') : G K cells slots pc lv st h n := by
  obtain ⟨p, l, e, R, s, m, args, below, meth, c, nL, E, Q⟩ := K
  intro ls H locs hl hR0 hn hS
  subst hp
  have hts : ∀ x ∈ TT, x.before args s = true := C.2.2.2.2.1
  obtain ⟨w1, w2, w3, w4, w5, w6⟩ := w
  obtain ⟨r1, r2, r3, r4⟩ := hrm
  have cb := callB_of (n := k) (R := R) (own := own) (index := ix) (rm := rm) (mc := mc) (ms := ms) hts (tt_in0 w5) rfl r1 r2 (hts _ w4) (hts _ w1) w6 r3
  obtain ⟨hb, hu⟩ := con_pre (as := .ref a :: as) C.2.2.2.2.2.1 hR0 hn hS
  exact g_back (va_runV (n := k) (C := y.cls) (ret := ry) ⟨C.1, C.2.1, C.2.2.1, C.2.2.2.1, hts⟩ cn ⟨cb, hts _ w2, hts _ w3⟩ ⟨hb, va_recv C.2.2.2.2.2.1.1 (hR0.one ha) hcl (q0 := 0) rfl, hu⟩ rfl hk hl.1 hst.symm (lv_room hcat) d r4) hl hS hr2 kk
theorem g_callI (C : Cx K own nm cc ret) (w : WSp own ix y b maxL k) {a : Nat} (cn : Con (kL K) (kE K) y (.code y b maxL none :: TT) rm mc ms (.ref a :: as) h n r h' n') (hrm : Rm (kR K) rm maxL cells slots mc ms) (hk : as.length = k) (hst : as.reverse ++ .ref a :: st' = st) (hcat : (st'.map fun v => v.category).sum ≤ 8) (hr2 : r.toList ++ st' = st2) (d : decode cc pc = .ok (.invokespecial ix, 3)) (hp : pc + 3 = pc') (kk : G K (cells + mc) (slots + ms) pc' lv st2 h' n') : G K cells slots pc lv st h n := by
  obtain ⟨p, l, e, R, s, m, args, below, meth, c, nL, E, Q⟩ := K
  intro ls H locs hl hR0 hn hS
  subst hp
  have hts : ∀ x ∈ TT, x.before args s = true := C.2.2.2.2.1
  obtain ⟨w1, w2, w3, w4, w5, w6⟩ := w
  obtain ⟨r1, r2, r3, r4⟩ := hrm
  have cb := callB_of (n := k) (R := R) (own := own) (index := ix) (rm := rm) (mc := mc) (ms := ms) hts (tt_in0 w4) rfl r1 r2 (hts _ w3) (hts _ w1) w6 r3
  exact g_back (va_runI (n := k) ⟨C.1, C.2.1, C.2.2.1, C.2.2.2.1, hts⟩ cn ⟨cb, w5, hts _ w2⟩ (con_pre C.2.2.2.2.2.1 hR0 hn hS) rfl hk hl.1 hst.symm (lv_room hcat) d r4) hl hS hr2 kk
theorem g_callN (C : Cx K own nm cc ret) (hl0 : va_Nw (.methodLinkNest own ix y RX6) K.2.2.2.2.1) (w : Cond.static y ∈ TT ∧ Cond.initialized y.cls ∈ TT ∧ Cond.code y b maxL ry ∈ TT ∧ (y.cls ≠ "java/lang/invoke/MethodHandle" ∧ y.cls ≠ "java/lang/invoke/VarHandle" ∧ (parseMethodDescriptor y.desc).map (fun d => d.parameters.length) = some k)) (cn : Con (kL K) (kE K) y (.code y b maxL ry :: TT) rm mc ms as h n r h' n') (hrm : Rm (kR K) rm maxL cells slots mc ms) (hk : as.length = k) (hst : as.reverse ++ st' = st) (hcat : (st'.map fun v => v.category).sum ≤ 8) (hr2 : r.toList ++ st' = st2) (d : decode cc pc = .ok (.invokestatic ix, 3)) (hp : pc + 3 = pc') (kk : G K (cells + mc) (slots + ms) pc' lv st2 h' n') : G K cells slots pc lv st h n := by
  obtain ⟨p, l, e, R, s, m, args, below, meth, c, nL, E, Q⟩ := K
  intro ls H locs hl hR0 hn hS
  subst hp
  have hts : ∀ x ∈ TT, x.before args s = true := C.2.2.2.2.1
  obtain ⟨w2, w3, w4, w5⟩ := w
  obtain ⟨r1, r2, r3, r4⟩ := hrm
  have cb := va_cnB (n := k) (R := R) (own := own) (index := ix) (rm := rm) (mc := mc) (ms := ms) hts (tt_in0 w4) rfl r1 r2 hl0 (hts _ w3) w5 r3
  exact g_back (va_runSN (n := k) (ret := ry) ⟨C.1, C.2.1, C.2.2.1, C.2.2.2.1, hts⟩ cn ⟨cb, hts _ w2, trivial⟩ (con_pre C.2.2.2.2.2.1 hR0 hn hS) rfl hk hl.1 hst.symm (lv_room hcat) d r4) hl hS hr2 kk
theorem g_obj (C : Cx K own nm cc ret) {a : Nat} (w1 : Cond.methodLink own ix Lib.objectInit ∈ TT) (w2 : Cond.instanceMethod Lib.objectInit ∈ TT) (w3 : Cond.code Lib.objectInit ⟨#[0xb1]⟩ 1 none ∈ TT) (hfr : 1 ≤ (kR K).frames) (hcat : (st.map fun v => v.category).sum + 12 ≤ (kR K).locals) (d : decode cc pc = .ok (.invokespecial ix, 3)) (hp : pc + 3 = pc') (kk : G K cells slots pc' lv st h n) : G K cells slots pc lv (.ref a :: st) h n := by
  obtain ⟨p, l, e, R, s, m, args, below, meth, c, nL, E, Q⟩ := K
  intro ls H locs hl hR0 hn hS
  subst hp
  have hts : ∀ x ∈ TT, x.before args s = true := C.2.2.2.2.1
  have hcat : (st.map fun v => v.category).sum + 12 ≤ R.locals := hcat
  exact W.objInit C.1 C.2.1 C.2.2.2.1 (hts _ w1) (hts _ w2) (hts _ w3) rfl (by rw [C.2.2.1]; exact hl.1) rfl d hfr (by have : (F0 m pc ls (.ref a :: st)).monitorRoom = 0 := rfl; rw [this]; omega) (kk ls H locs hl hR0 hn hS)
theorem g_new (C : Cx K own nm cc ret) {ci N : Nat} {Cn : String} {T : u_T} {ty : Nat → FieldType} {fs : List Value} (F : FC ci Cn T N ty) (w1 : Cond.classLink own ix Cn ∈ TT) (w2 : Cond.instantiable Cn N ∈ TT) (w3 : Cond.initialized Cn ∈ TT) (hfs : ∀ j, j < N → defaultValue (ty j) = vp_V fs j) (hc : cells + 1 ≤ (kR K).cells) (hs : slots + N ≤ (kR K).slots) (hb : (kE K).2.2.2 ≤ n) (he : hU h n (.inr (ci, fs)) = h') (d : decode cc pc = .ok (.new ix, 3)) (hp : pc + 3 = pc') (kk : G K (cells + 1) (slots + N) pc' lv (.ref n :: st) h' (n + 1)) : G K cells slots pc lv st h n := by
  obtain ⟨p, l, e, R, s, m, args, below, meth, c, nL, E, Q⟩ := K
  intro ls H locs hl hR0 hn hS
  subst hp
  subst he
  subst hn
  have hts : ∀ x ∈ TT, x.before args s = true := C.2.2.2.2.1
  have hKn := C.2.2.2.2.2.1.1.1 ci _ F.1
  refine W.newcK C.1 C.2.1 C.2.2.2.1 (hts _ w1) (hts _ w2) (hts _ w3) rfl d hc hs hKn.2.1 rfl fun H1 kC hkC e1 z1 o1 => ?_
  exact kk ls H1 locs hl (hR0.new hb ⟨_, F.1, (u_born ty hts F.2.1 hKn hkC e1 F.2.2.1).to hfs⟩ o1) z1 (hS.push z1 o1)
theorem g_newI (C : Cx K own nm cc ret) {x : Int32} {N : Nat} (w1 : Cond.arrayClass .int ∈ TT) (hx : ¬ x < 0) (hN : x.toNatClampNeg = N) (hby : N * 4 ≤ 536870912) (hc : cells + 1 ≤ (kR K).cells) (hs : slots + N ≤ (kR K).slots) (hb : (kE K).2.2.2 ≤ n) (he : hU h n (.inl (0, N, .inl (fun _ => 0))) = h') (d : decode cc pc = .ok (.newarray .int, 2)) (hp : pc + 2 = pc') (kk : G K (cells + 1) (slots + N) pc' lv (.ref n :: st) h' (n + 1)) : G K cells slots pc lv (.int x :: st) h n := by
  obtain ⟨p, l, e, R, s, m, args, below, meth, c, nL, E, Q⟩ := K
  intro ls H locs hl hR0 hn hS
  subst hp
  subst he
  subst hn
  have hts : ∀ x ∈ TT, x.before args s = true := C.2.2.2.2.1
  refine va_newaK C.1 C.2.1 (atype := .int) (hts _ w1) rfl d rfl hx hN hby hc hs rfl fun H1 cA e1 z1 o1 hAr hNm => ?_
  have hA : cA = E.2.1 0 := Option.some.inj (hNm.symm.trans ((C.2.2.2.2.2.1.1.2 0 _ rfl).2))
  subst hA
  exact kk ls H1 locs hl (hR0.new hb e1 o1) z1 (hS.push z1 o1)
theorem g_newL (C : Cx K own nm cc ret) {x : Int32} {N : Nat} (w1 : Cond.arrayClass .long ∈ TT) (hx : ¬ x < 0) (hN : x.toNatClampNeg = N) (hby : N * 8 ≤ 536870912) (hc : cells + 1 ≤ (kR K).cells) (hs : slots + N ≤ (kR K).slots) (hb : (kE K).2.2.2 ≤ n) (he : hU h n (.inl (1, N, .inr (.inl (fun _ => 0)))) = h') (d : decode cc pc = .ok (.newarray .long, 2)) (hp : pc + 2 = pc') (kk : G K (cells + 1) (slots + N) pc' lv (.ref n :: st) h' (n + 1)) : G K cells slots pc lv (.int x :: st) h n := by
  obtain ⟨p, l, e, R, s, m, args, below, meth, c, nL, E, Q⟩ := K
  intro ls H locs hl hR0 hn hS
  subst hp
  subst he
  subst hn
  have hts : ∀ x ∈ TT, x.before args s = true := C.2.2.2.2.1
  refine va_newaK C.1 C.2.1 (atype := .long) (hts _ w1) rfl d rfl hx hN hby hc hs rfl fun H1 cA e1 z1 o1 hAr hNm => ?_
  have hA : cA = E.2.1 1 := Option.some.inj (hNm.symm.trans ((C.2.2.2.2.2.1.1.2 1 _ rfl).2))
  subst hA
  exact kk ls H1 locs hl (hR0.new hb e1 o1) z1 (hS.push z1 o1)
theorem g_newZ (C : Cx K own nm cc ret) {x : Int32} {N : Nat} (w1 : Cond.arrayClass .boolean ∈ TT) (hx : ¬ x < 0) (hN : x.toNatClampNeg = N) (hby : N * 1 ≤ 536870912) (hc : cells + 1 ≤ (kR K).cells) (hs : slots + N ≤ (kR K).slots) (hb : (kE K).2.2.2 ≤ n) (he : hU h n (.inl (2, N, .inl (fun _ => 0))) = h') (d : decode cc pc = .ok (.newarray .boolean, 2)) (hp : pc + 2 = pc') (kk : G K (cells + 1) (slots + N) pc' lv (.ref n :: st) h' (n + 1)) : G K cells slots pc lv (.int x :: st) h n := by
  obtain ⟨p, l, e, R, s, m, args, below, meth, c, nL, E, Q⟩ := K
  intro ls H locs hl hR0 hn hS
  subst hp
  subst he
  subst hn
  have hts : ∀ x ∈ TT, x.before args s = true := C.2.2.2.2.1
  refine va_newaK C.1 C.2.1 (atype := .boolean) (hts _ w1) rfl d rfl hx hN hby hc hs rfl fun H1 cA e1 z1 o1 hAr hNm => ?_
  have hA : cA = E.2.1 2 := Option.some.inj (hNm.symm.trans ((C.2.2.2.2.2.1.1.2 2 _ rfl).2))
  subst hA
  exact kk ls H1 locs hl (hR0.new hb e1 o1) z1 (hS.push z1 o1)
theorem g_newQ (C : Cx K own nm cc ret) {x : Int32} {N kd : Nat} {Cn : String} (hkd : (kd = 3 ∧ Cn = RX1) ∨ (kd = 4 ∧ Cn = RX3)) (w1 : Cond.classLink own ix Cn ∈ TT) (hx : ¬ x < 0) (hN : x.toNatClampNeg = N) (hby : N * 4 ≤ 536870912) (hc : cells + 1 ≤ (kR K).cells) (hs : slots + N ≤ (kR K).slots) (hb : (kE K).2.2.2 ≤ n) (he : hU h n (.inl (kd, N, .inr (.inr (.inr (.inr (fun _ => none)))))) = h') (d : decode cc pc = .ok (.anewarray ix, 3)) (hp : pc + 3 = pc') (kk : G K (cells + 1) (slots + N) pc' lv (.ref n :: st) h' (n + 1)) : G K cells slots pc lv (.int x :: st) h n := by
  obtain ⟨p, l, e, R, s, m, args, below, meth, c, nL, E, Q⟩ := K
  intro ls H locs hl hR0 hn hS
  subst hp
  subst he
  subst hn
  subst hN
  have hts : ∀ x ∈ TT, x.before args s = true := C.2.2.2.2.1
  have hEn := C.2.2.2.2.2.1
  have ho : va_AO Cn s := by
    rcases hkd with ⟨-, rfl⟩ | ⟨-, rfl⟩
    · exact hEn.2.2.2.2.2.1
    · exact hEn.2.2.2.2.2.2.1
  have hq : ∀ cA : ClassId, s.vm.findClass ("[" ++ (FieldType.object Cn).toString) = some cA → cA = E.2.1 kd := by
    intro cA hc1
    rcases hkd with ⟨rfl, rfl⟩ | ⟨rfl, rfl⟩
    · obtain ⟨kA, comp, -, -, -, h4⟩ := (hEn.1.2 3 _ rfl).2
      exact Option.some.inj (hc1.symm.trans h4)
    · obtain ⟨kA, comp, -, -, -, h4⟩ := (hEn.1.2 4 _ rfl).2
      exact Option.some.inj (hc1.symm.trans h4)
  refine W.anew C.1 C.2.1 C.2.2.2.1 (hts _ w1) (va_AO.use ho) rfl d rfl hx hby hc hs fun cA kA comp f1 f2 f3 f4 => ?_
  have hA := hq cA f1
  subst hA
  refine kk ls _ locs hl (hR0.new hb ?_ (fun q hq => ?_)) (by simp) (hS.push (by simp) (fun q hq => ?_))
  · show (Array.push _ _)[_]? = some (vp_cell _ _)
    rw [arrV_new]
    simp [vp_cell, va_rf]
  · simp [Array.getElem?_push, Nat.ne_of_lt hq]
  · simp [Array.getElem?_push, Nat.ne_of_lt hq]
theorem g_aast (C : Cx K own nm cc ret) {z kd ci N a v : Nat} {T : u_T} {Cn : String} {f : Nat → Option Nat} {vs : List Value} {i : Int32} (hkd : (kd = 3 ∧ Cn = RX1) ∨ (kd = 4 ∧ Cn = RX3)) (hcl : vwCl[ci]? = some (Cn, T, N)) (ha : h a = some (.inl (kd, z, .inr (.inr (.inr (.inr f)))))) (hv : h v = some (.inr (ci, vs))) (hi : vp_in i z) (he : hU h a (.inl (kd, z, .inr (.inr (.inr (.inr (va_up f i.toNatClampNeg (some v))))))) = h') (d : decode cc pc = .ok (.aastore, 1)) (hp : pc + 1 = pc') (kk : G K cells slots pc' lv st h' n) : G K cells slots pc lv (.ref v :: .int i :: .ref a :: st) h n := by
  obtain ⟨p, l, e, R, s, m, args, below, meth, c, nL, E, Q⟩ := K
  intro ls H locs hl hR0 hn hS
  subst hp
  subst he
  obtain ⟨hat, h0⟩ := hR0 a _ ha
  obtain ⟨hav, h0v⟩ := hR0 v _ hv
  have hEn := C.2.2.2.2.2.1
  have hlt : i.toNatClampNeg < z := Nat.not_le.mp fun q => hi (Or.inr q)
  have h9 : ¬ i < 0 := fun q => hi (Or.inl q)
  obtain ⟨kA, comp, f1, f2, f3⟩ : ∃ (kA : Class) (comp : ClassId), s.vm.classes[E.2.1 kd]? = some kA ∧ kA.kind = .array comp (.object Cn) ∧ s.vm.findClass Cn = some comp := by
    rcases hkd with ⟨rfl, rfl⟩ | ⟨rfl, rfl⟩
    · obtain ⟨kA, comp, g1, g2, g3, -⟩ := (hEn.1.2 3 _ rfl).2
      exact ⟨kA, comp, g1, g2, g3⟩
    · obtain ⟨kA, comp, g1, g2, g3, -⟩ := (hEn.1.2 4 _ rfl).2
      exact ⟨kA, comp, g1, g2, g3⟩
  obtain ⟨r, h1, cell, q1, q2, q3, q4⟩ := hav
  have hr : r = (Cn, T, N) := Option.some.inj (h1.symm.trans hcl)
  subst hr
  have hKn := hEn.1.1 ci _ hcl
  obtain ⟨kC, hkC, hkind⟩ := hKn.2.2
  have hcomp : comp = E.1.1 ci := Option.some.inj (f3.symm.trans hKn.2.1)
  refine W.aast (t := .object Cn) (kcomp := kC) (kv := kC) (cv := cell) C.1 C.2.1 hat (fun q w => by cases w) (fun w => by cases w) f1 f2 rfl (by rw [hcomp]; exact hkC) ⟨h9, by show _ < (arrV _ _ _).slots.size; rw [arrV_size]; exact hlt⟩ q1 (fun q w => by rw [q3] at w; cases w) (by rw [q2]; exact hkC) (by rw [q2, hcomp]; exact va_assign hKn.2) rfl rfl d fun H1 e z1 oq => ?_
  refine kk ls H1 _ hl (hR0.set h0 ?_ oq) (z1.trans hn) (hS.put z1 oq h0)
  show H1[a]? = some (vp_cell _ _)
  rw [e]
  show some ((arrV (E.2.1 kd) z (fun j => va_rf (f j))).setSlot _ _) = some (arrV (E.2.1 kd) z (fun j => va_rf (va_up f i.toNatClampNeg (some v) j)))
  rw [arrV_store]
  congr 2
  funext q
  by_cases hq : q = i.toNatClampNeg
  · simp [updV, va_up, hq, va_rf]
  · simp [updV, va_up, hq]
theorem g_alen (C : Cx K own nm cc ret) {kd a : Nat} {x : vp_A} {v : Int32} {ty : FieldType} (hkd : (tyL (kE K))[kd]? = some ((kE K).2.1 kd, ty)) (ha : h a = some (.inl (kd, x))) (hv : Int32.ofNat x.1 = v) (d : decode cc pc = .ok (.arraylength, 1)) (hp : pc + 1 = pc') (kk : G K cells slots pc' lv (.int v :: st) h n) : G K cells slots pc lv (.ref a :: st) h n := by
  obtain ⟨p, l, e, R, s, m, args, below, meth, c, nL, E, Q⟩ := K
  intro ls H locs hl hR0 hn hS
  subst hp
  exact va_alen (D := E.1) C.1 C.2.1 C.2.2.2.2.2.1.1 (hR0.one ha) 0 kd rfl hkd hv d (kk ls H locs hl hR0 hn hS)
theorem g_aret {rt : FieldType} (C : Cx K own nm cc (some rt)) (hrt : (∃ n, rt = .object n) ∨ ∃ t, rt = .array t) {a : Nat} (hK : KQ K cells slots (some (.ref a)) h n) (d : decode cc pc = .ok (.areturn, 1)) : G K cells slots pc lv [.ref a] h n := by
  obtain ⟨p, l, e, R, s, m, args, below, meth, c, nL, E, Q⟩ := K
  intro ls H locs hl hR hn hS
  cases hK
  have hlocks : meth.locks = false := C.2.2.2.2.2.2.2.1
  exact W.aret C.1 C.2.1 C.2.2.2.2.2.2.1 hrt (Or.inr ⟨a, rfl⟩) (fun t ht hW => ⟨rfl, by rw [ht]; exact hR, by rw [ht]; exact hn, hS.F ht⟩) hS.2.2 d hlocks
theorem g_widen {k9 n9 : Nat} (h1 : cells ≤ k9) (h2 : slots ≤ n9) (kk : G K k9 n9 pc lv st h n) : G K cells slots pc lv st h n := by
  obtain ⟨p, l, e, R, s, m, args, below, meth, c, nL, E, Q⟩ := K
  intro ls H locs hl hR hn hS
  exact W.widen h1 h2 (kk ls H locs hl hR hn hS)
end Calls
