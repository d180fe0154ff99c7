/-! methods that return or throw; the exceptions' making; their catching -/
def xQ (E : Ex) (r : String ⊕ Option Value) (h : AH) (n : Nat) : Array Value → State → Outcome → State → Prop := fun _ st o t => (∃ v, r = .inr v ∧ o = .returned v) ∧ hR E h t.heap ∧ t.heap.size = n ∧ va_F (xA E) st t
def xX (E : Ex) (r : String ⊕ Option Value) (h : AH) : String → State → State → Prop := fun X st t => r = .inl X ∧ hR E h t.heap ∧ va_F (xA E) st t
def KQX (K : KX) (mc ms : Nat) (r : String ⊕ Option Value) (h : AH) (n : Nat) : Prop := match K with
  | (_, _, _, _, s, _, args, below, _, _, _, E, Q) => Q = vx_MQ below (xQ E r h n) (xX E r h) args s mc ms (xA E)
def kT (K : KX) : Prop := match K with
  | (_, _, _, _, _, _, _, _, _, c, _, _, _) => ∀ x ∈ c.exceptionTable.toList, False
def ConX (l : Launch) (E : Ex) (y : MethodName) (ws : List Cond) (rm : Room) (mc ms : Nat) (as : List Value) (h : AH) (n : Nat) (r : String ⊕ Option Value) (h' : AH) : Prop :=
  vx_Met l y ws rm (va_Pc as (fun U => En E U U.heap ∧ hR E h U.heap ∧ U.heap.size = n)) (xQ E r h' n) (xX E r h') mc ms (xA E)
theorem conX_intro {l : Launch} {E : Ex} {y : MethodName} {cc : ByteArray} {maxL : Nat} {ret : Option FieldType} {rm : Room} {mc ms : Nat} {as : List Value} {h : AH} {n : Nat} {r : String ⊕ Option Value} {h' : AH}
    (hy : plainName y.cls = true) (hsz : (lg_sl as).length ≤ maxL)
    (body : ∀ K : KX, Cx K y.cls y.name cc ret → kT K → kR K = rm → kL K = l → kE K = E → kN K = maxL → KQX K mc ms r h' n → G K 0 0 0 (lv_args 0 as) [] h n) :
    ConX l E y (.code y cc maxL ret :: TT) rm mc ms as h n r h' := by
  refine vx_ofW (cc := cc) (maxL := maxL) (ret := ret) hy rfl ?_
  intro p e s m args below meth c s₁ B hml ht hv
  obtain ⟨rfl, hEn, hR0, hn⟩ := hv
  have hts := atoms_spec (ws := Cond.code y cc maxL ret :: TT) B.pre
  have hown : s.vm.findClass y.cls = some m.cls := findClass_of_methodNamed B.named
  have hl := lv_entry as (n := maxL) hsz
  rw [lg_entry_eq]
  refine body (p, l, e, _, s, m, as.toArray, below, meth, c, maxL, E, _) ⟨B.exec, B.bytes, hml, hown, fun w hw => hts w (List.mem_cons_of_mem _ hw), hEn, B.returns, B.notSynchronized, (name_of_methodNamed B.named B.method).1⟩ ht rfl rfl rfl rfl rfl _ _ _ hl hR0 hn va_S.rf
section XRows
variable {K : KX} {own nm : String} {cc : ByteArray} {ret : Option FieldType} {cells slots pc pc' mc ms : Nat} {lv : List (Nat × Value)} {st st' st2 : List Value} {h h' : AH} {n : Nat}
theorem g_xiret (C : Cx K own nm cc (some .int)) {v : Int32} (hK : KQX K mc ms (.inr (some (.int v))) h n) (hc : cells ≤ mc) (hs : slots ≤ ms) (d : decode cc pc = .ok (.ireturn, 1)) : G K cells slots pc lv [.int v] h n := by
  obtain ⟨p, l, e, R, s, m, args, below, meth, c, nL, E, Q⟩ := K
  intro ls H locs hl hR hn hS
  cases hK
  have hlocks : meth.locks = false := C.2.2.2.2.2.2.2.1
  exact W.widen hc hs (vx_ret (W.iret C.1 C.2.1 C.2.2.2.2.2.2.1 (fun t ht hW => ⟨⟨_, rfl, rfl⟩, by rw [ht]; exact hR, by rw [ht]; exact hn, hS.F ht⟩) hS.2.2 d hlocks))
theorem g_xzret (C : Cx K own nm cc (some .boolean)) {v : Int32} (hv : narrow .boolean (.int v) = .int v) (hK : KQX K mc ms (.inr (some (.int v))) h n) (hc : cells ≤ mc) (hs : slots ≤ ms) (d : decode cc pc = .ok (.ireturn, 1)) : G K cells slots pc lv [.int v] h n := by
  obtain ⟨p, l, e, R, s, m, args, below, meth, c, nL, E, Q⟩ := K
  intro ls H locs hl hR hn hS
  cases hK
  have hlocks : meth.locks = false := C.2.2.2.2.2.2.2.1
  exact W.widen hc hs (vx_ret (W.zret C.1 C.2.1 C.2.2.2.2.2.2.1 hv (fun t ht hW => ⟨⟨_, rfl, rfl⟩, by rw [ht]; exact hR, by rw [ht]; exact hn, hS.F ht⟩) hS.2.2 d hlocks))
theorem g_xlret (C : Cx K own nm cc (some .long)) {v : Int64} (hK : KQX K mc ms (.inr (some (.long v))) h n) (hc : cells ≤ mc) (hs : slots ≤ ms) (d : decode cc pc = .ok (.lreturn, 1)) : G K cells slots pc lv [.long v] h n := by
  obtain ⟨p, l, e, R, s, m, args, below, meth, c, nL, E, Q⟩ := K
  intro ls H locs hl hR hn hS
  cases hK
  have hlocks : meth.locks = false := C.2.2.2.2.2.2.2.1
  exact W.widen hc hs (vx_ret (W.lret C.1 C.2.1 C.2.2.2.2.2.2.1 (fun t ht hW => ⟨⟨_, rfl, rfl⟩, by rw [ht]; exact hR, by rw [ht]; exact hn, hS.F ht⟩) hS.2.2 d hlocks))
theorem g_xvret (C : Cx K own nm cc none) (hK : KQX K mc ms (.inr none) h n) (hc : cells ≤ mc) (hs : slots ≤ ms) (d : decode cc pc = .ok (.return_, 1)) : G K cells slots pc lv [] h n := by
  obtain ⟨p, l, e, R, s, m, args, below, meth, c, nL, E, Q⟩ := K
  intro ls H locs hl hR hn hS
  cases hK
  have hlocks : meth.locks = false := C.2.2.2.2.2.2.2.1
  exact W.widen hc hs (vx_ret (W.vret C.1 C.2.1 C.2.2.2.2.2.2.1 (fun t ht hW => ⟨⟨_, rfl, rfl⟩, by rw [ht]; exact hR, by rw [ht]; exact hn, hS.F ht⟩) hS.2.2 d hlocks))
/-- the words of an exception's making that are not kept by every step: they stand in En -/
def xB (X : String) : List Cond := [.declares (Bundle.initS "java/lang/RuntimeException"), .declares (Bundle.initS "java/lang/Exception"), .declares (Bundle.initS Bundle.tN), .castable X X]
def xNm : List String := ["java/lang/RuntimeException", "java/lang/Exception"]
theorem g_throw (C : Cx K own nm cc ret) (hT : kT K) (hl0 : (kL K).stackTraces = false) {X text : String} {ik is ic : Nat} (hX : X = x_IAE ∨ X = x_ISE ∨ X = x_IOB) (w1 : Cond.classLink own ik X ∈ TT) (w2 : Cond.initialized X ∈ TT) (hs : (own, is, text) ∈ ([(RX6, 117, "no such packing"), (RX6, 135, "the set is none of its shapes moved"), (RX6, 137, "another piece has one of the cells"), (RX6, 139, "the piece is not in the assembly"), (RX6, 150, "no such part"), (RX6, 152, "no such limit"), (RX6, 164, "no such move"), (RX6, 169, "no such piece"), (RX6, 171, "no such cell"), (RX6, 174, "no such budget"), (RX6, 49, "the cube is so already"), (RX6, 58, "a piece has 10 cubes at the most"), (RX6, 72, "no such shape"), (RX6, 81, "no such kind")] : List (String × Nat × String)))
    (a1 : ∀ w ∈ (vx_atS own ic X xNm).filter goodWord, w ∈ TT) (a2 : ∀ w ∈ (vx_atS own ic X xNm).filter (fun w => !goodWord w), w ∈ xB X) (a3 : ∀ w ∈ Cond.classLink own ik X :: Cond.initialized X :: vx_atS own ic X xNm, vx_ot w = true) (hfit : Bundle.fit X = true ∧ ∀ z ∈ xNm, Bundle.fit z = true)
    (d0 : decode cc pc = .ok (.new ik, 3)) (d3 : decode cc (pc + 3) = .ok (.dup, 1)) (d4 : decode cc (pc + 4) = .ok (.ldc is, 2)) (d6 : decode cc (pc + 6) = .ok (.invokespecial ic, 3)) (d9 : decode cc (pc + 9) = .ok (.athrow, 1))
    (hf : 5 < (kR K).frames) (hlo : (st.map fun v => v.category).sum + 82 ≤ (kR K).locals) (hrc : cells + 1 ≤ (kR K).cells) (hrs : slots + 6 ≤ (kR K).slots) (hK : KQX K mc ms (.inl X) h n) (hc : cells + 1 ≤ mc) (hs1 : slots + 6 ≤ ms) : G K cells slots pc lv st h n := by
  obtain ⟨p, l, e, R, s, m, args, below, meth, c, nL, E, Q⟩ := K
  intro ls H locs hl hR0 hn hS
  cases hK
  have hts : ∀ x ∈ TT, x.before args s = true := C.2.2.2.2.1
  obtain ⟨-, -, ⟨z1, z2⟩, -, hst, -, -, hB, t1, t2, t3, t4, t5, t6, -, -⟩ := C.2.2.2.2.2.1
  obtain ⟨sa, hsa⟩ := hst _ hs
  have hcast : va_Nw (.castable X X) s := by rcases hX with rfl | rfl | rfl <;> assumption
  have hat : ∀ w ∈ vx_atS own ic X xNm, w.before args s = true := vx_hat (B := xB X) (fun w hw => hts w (a1 w hw)) a2 (fun w hw => by
    simp only [xB, List.mem_cons, List.not_mem_nil, or_false] at hw
    rcases hw with rfl | rfl | rfl | rfl
    · exact va_Nw.use rfl t1
    · exact va_Nw.use rfl t2
    · exact va_Nw.use rfl t3
    · exact va_Nw.use rfl hcast)
  refine vx_throwS (names := xNm) C.1 C.2.1 hl0 C.2.2.2.1 hfit.1 hfit.2 (hts _ w1) (hts _ w2) hsa hat a3 z1 z2 hS (by rw [C.2.2.1]; exact hl.1) d0 d3 d4 d6 d9 (fun x hx => (hT x hx).elim) hf hlo hrc hrs C.2.2.2.2.2.2.2.1 (fun t ha hz hq => ?_) hS.2.2 hc hs1
  exact ⟨rfl, hR0.kept hq, ⟨Nat.le_trans hS.1 hz, fun q h1 h2 => (hq q (Nat.lt_of_lt_of_le h1 hS.1)).trans (hS.2.1 q h1 h2)⟩⟩
variable {y : MethodName} {b : ByteArray} {maxL ix : Nat} {ry : Option FieldType} {rm : Room} {as : List Value} {k : Nat}
theorem g_xback {p : Program} {l : Launch} {e : Env} {R : Room} {s : State} {m : MethodId} {args : Array Value} {below : List Frame} {meth : Method} {c : Code} {nL : Nat} {E : Ex} {Q : State → Prop} {H : Heap} {locs : List Loc} {ls : Array Slot} {aa : Array Value} {r : String ⊕ Option Value}
    (hr : vx_Run p l e R s m args below meth c H locs cells slots mc ms (F0 m pc ls st) st' (xQ E r h' n aa) (xX E r h') (xA E)) (hl : lv_has ls nL lv) (hS : va_S (xA E) s.heap H locs)
    (kr : ∀ v, r = .inr v → G (p, l, e, R, s, m, args, below, meth, c, nL, E, Q) (cells + mc) (slots + ms) (pc + 3) lv (v.toList ++ st') h' n)
    (kt : ∀ (X : String) (ce : Cell) (q : Addr) (H1 : Heap) (locs1 : List Loc), r = .inl X → hR E h' H1 → va_S (xA E) s.heap H1 locs1 → H1[q]? = some ce → ce.vm = .none → s.vm.findClass X = some ce.cls → vx_W p l e R s m args below meth c H1 locs1 (cells + mc) (slots + ms) Q (F0 m pc ls st') q) : W p l e R s m args below meth c H locs cells slots Q (F0 m pc ls st) := by
  intro T hT X
  rcases hr T hT X with ⟨v, st₀, t, T', L, h0, X', hL, e1, e2, ⟨⟨w, hw, hv⟩, hR', hn', hF⟩, stp⟩ | ⟨q, st₀, t, T', L, Xn, ce, h0, X', hL, e1, e2, ⟨hx, hR', hF⟩, hce, hcv, hcl, stp⟩
  · cases hv
    obtain ⟨hz, hk⟩ := hF
    rw [h0] at hz hk
    obtain ⟨t2, a1, b1⟩ := kr _ hw ls t.heap (locs ++ L) hl hR' hn' (hS.after hz hk hL) T' e1 X'
    exact ⟨t2, stp t2 a1, b1⟩
  · obtain ⟨hz, hk⟩ := hF
    rw [h0] at hz hk
    obtain ⟨t2, a1, b1⟩ := kt Xn ce q t.heap (locs ++ L) hx hR' (hS.after hz hk hL) hce hcv hcl T' e1 X'
    exact ⟨t2, stp.trans a1, b1⟩
/-- a static callee that may throw; where it throws, so does the caller -/
theorem g_callXS (C : Cx K own nm cc ret) (hT : kT K) (w : WSt own ix y b maxL ry k) {r : String ⊕ Option Value} (cn : ConX (kL K) (kE K) y (.code y b maxL ry :: TT) rm mc ms as h n r h') (hrm : Rm (kR K) rm maxL cells slots mc ms) (hk : as.length = k) (hst : as.reverse ++ st' = st) (hcat : (st'.map fun v => v.category).sum ≤ 8) (d : decode cc pc = .ok (.invokestatic ix, 3)) (hp : pc + 3 = pc') {mc2 ms2 : Nat}
    (kr : ∀ v, r = .inr v → G K (cells + mc) (slots + ms) pc' lv (v.toList ++ st') h' n) (kt : ∀ X, r = .inl X → KQX K mc2 ms2 (.inl X) h' n) (hc : cells + mc ≤ mc2) (hs : slots + ms ≤ ms2) : G K cells slots pc lv st h n := by
  obtain ⟨p, l, e, R, s, m, args, below, meth, c, nL, E, Q⟩ := K
  intro ls H locs hl hR0 hn hS
  subst hp
  have hts : ∀ x ∈ TT, x.before args s = true := C.2.2.2.2.1
  obtain ⟨w1, w2, w3, w4, w5⟩ := w
  obtain ⟨r1, r2, r3, r4⟩ := hrm
  have cb := callB_of (n := k) (R := R) (own := own) (index := ix) (rm := rm) (mc := mc) (ms := ms) hts (tt_in0 w4) rfl r1 r2 (hts _ w3) (hts _ w1) w5 r3
  refine g_xback (vx_runS (n := k) (ret := ry) ⟨C.1, C.2.1, C.2.2.1, C.2.2.2.1, hts⟩ cn ⟨cb, hts _ w2⟩ (con_pre C.2.2.2.2.2.1 hR0 hn hS) rfl hk hl.1 hst.symm (lv_room hcat) d r4) hl hS kr (fun X ce q H1 locs1 hx hR1 hS1 hce hcv hcl => ?_)
  have hq := kt X hx
  cases hq
  exact vx_out (fun x hx => (hT x hx).elim) C.2.2.2.2.2.2.2.1 hce hcv hcl (fun t ht ha => ⟨rfl, by rw [ht]; exact hR1, hS1.F ht⟩) hS1.2.2 hc hs
end XRows
/-- a method with handlers of its own -/
theorem met_ofWH {l : Launch} {y : MethodName} {ws ws' : List Cond} {rm : Room} {Pc : Array Value → State → Prop} {Qc : Array Value → State → Outcome → State → Prop} {mc ms : Nat} {free : Addr → Prop} {cc : ByteArray} {maxL : Nat} {ret : Option FieldType} {hh : List (Nat × Nat × Nat × Nat)}
    (hy : plainName y.cls = true) (hw : ws = Cond.codeWith y cc maxL ret hh :: ws')
    (body : ∀ p e s m args below meth c s₁, BodyLoose p l y (headSpec ws rm) cc maxL ret e s m args below meth c s₁ → c.maxLocals = maxL → c.exceptionTable.toList = tableOf hh → Pc args s →
      W p l e (headSpec ws rm).room s m args below meth c s.heap [] 0 0 (MQ below Qc args s mc ms free) (entryFrame m args maxL)) : Met l y ws rm Pc Qc mc ms free := by
  refine MetFree.of_bodyS (code := cc) (maxLocals := maxL) (ret := ret) hy ?_ ?_
  · intro args s m h hn
    obtain ⟨m9, meth, c, hn9, h1, h2, h3, h4, -, h5, h6, -⟩ := Cond.codeWith_spec (atoms_spec (ws := ws) h _ (by rw [hw]; exact List.mem_cons_self))
    cases hn.symm.trans hn9
    exact ⟨meth, c, h1, h2, h3, h4, h5, h6⟩
  · intro p e s m args below meth c s₁ B hml hP _
    have hh0 : s₁.heap = s.heap := by rw [B.state]; rfl
    have ht := vx_table (x := y) B (atoms_spec (ws := ws) B.pre _ (by rw [hw]; exact List.mem_cons_self))
    obtain ⟨t, a1, o, b1, b2, b3⟩ := body p e s m args below meth c s₁ B hml ht hP s₁ hh0 (Stand.of_body B)
    exact ⟨t, o, a1, b1, b2, ⟨b3.1, b3.2⟩⟩
