/-! the law's own methods: calls with handlers -/
def cQe (E : Ex) (r : Option Value) (h : AH) : Array Value → State → Outcome → State → Prop := fun _ st o t => o = .returned r ∧ hR E h t.heap ∧ va_F (xA E) st t
def KQe (K : KX) (mc ms : Nat) (r : Option Value) (h : AH) : Prop := match K with
  | (_, _, _, _, s, _, args, below, _, _, _, E, Q) => Q = MQ below (cQe E r h) args s mc ms (xA E)
def kTb (K : KX) (hh : List (Nat × Nat × Nat × Nat)) : Prop := match K with
  | (_, _, _, _, _, _, _, _, _, c, _, _, _) => c.exceptionTable.toList = tableOf hh
def ConE (l : Launch) (E : Ex) (y : MethodName) (ws : List Cond) (rm : Room) (mc ms : Nat) (as : List Value) (h : AH) (n : Nat) (r : Option Value) (h' : AH) : Prop :=
  Met l y ws rm (va_Pc as (fun U => En E U U.heap ∧ hR E h U.heap ∧ U.heap.size = n)) (cQe E r h') mc ms (xA E)
theorem conE_intro {l : Launch} {E : Ex} {y : MethodName} {cc : ByteArray} {maxL : Nat} {ret : Option FieldType} {hh : List (Nat × Nat × Nat × Nat)} {rm : Room} {mc ms : Nat} {as : List Value} {h : AH} {n : Nat} {r : Option Value} {h' : AH}
    (hy : plainName y.cls = true) (hsz : (lg_sl as).length ≤ maxL)
    (body : ∀ K : KX, Cx K y.cls y.name cc ret → kTb K hh → kR K = rm → kL K = l → kE K = E → kN K = maxL → KQe K mc ms r h' → G K 0 0 0 (lv_args 0 as) [] h n) :
    ConE l E y (.codeWith y cc maxL ret hh :: TT) rm mc ms as h n r h' := by
  refine met_ofWH (cc := cc) (maxL := maxL) (ret := ret) (hh := hh) hy rfl ?_
  intro p e s m args below meth c s₁ B hml ht hv
  obtain ⟨rfl, hEn, hR0, hn⟩ := hv
  have hts := atoms_spec (ws := Cond.codeWith y cc maxL ret hh :: TT) B.pre
  have hown : s.vm.findClass y.cls = some m.cls := findClass_of_methodNamed B.named
  have hl := lv_entry as (n := maxL) hsz
  rw [lg_entry_eq]
  refine body (p, l, e, _, s, m, as.toArray, below, meth, c, maxL, E, _) ⟨B.exec, B.bytes, hml, hown, fun w hw => hts w (List.mem_cons_of_mem _ hw), hEn, B.returns, B.notSynchronized, (name_of_methodNamed B.named B.method).1⟩ ht rfl rfl rfl rfl rfl _ _ _ hl hR0 hn va_S.rf
section LRows
variable {K : KX} {own nm : String} {cc : ByteArray} {ret : Option FieldType} {cells slots pc pc' mc ms : Nat} {lv : List (Nat × Value)} {st st' st2 : List Value} {h h' : AH} {n : Nat}
theorem g_eiret (C : Cx K own nm cc (some .int)) {v : Int32} (hK : KQe K mc ms (some (.int v)) h) (hc : cells ≤ mc) (hs : slots ≤ ms) (d : decode cc pc = .ok (.ireturn, 1)) : G K cells slots pc lv [.int v] h n := by
  obtain ⟨p, l, e, R, s, m, args, below, meth, c, nL, E, Q⟩ := K
  intro ls H locs hl hR hn hS
  cases hK
  have hlocks : meth.locks = false := C.2.2.2.2.2.2.2.1
  exact W.widen hc hs (W.iret C.1 C.2.1 C.2.2.2.2.2.2.1 (fun t ht hW => ⟨rfl, by rw [ht]; exact hR, hS.F ht⟩) hS.2.2 d hlocks)
/-- the exception X, thrown at pc, is caught here, and the walk goes on at a handler of which P -/
def xCat (K : KX) (own : String) (pc : Nat) (X : String) (P : Nat → Prop) : Prop := match K with
  | (_, _, _, _, s, _, args, _, _, c, _, _, _) => ∃ (pr : List ExceptionTableEntry) (x : ExceptionTableEntry) (suf : List ExceptionTableEntry) (name : String), c.exceptionTable.toList = pr ++ x :: suf ∧ (∀ z ∈ pr, covers z pc = false ∨ (z.catchType ≠ 0 ∧ ∃ nm : String, (Cond.classLink own z.catchType nm).before args s = true ∧ va_Nc X nm s)) ∧ covers x pc = true ∧ x.catchType ≠ 0 ∧ (Cond.classLink own x.catchType name).before args s = true ∧ (Cond.castable X name).before args s = true ∧ P x.handlerPc
variable {y : MethodName} {b : ByteArray} {maxL ix : Nat} {ry : Option FieldType} {rm : Room} {as : List Value} {k : Nat}
theorem g_callXV (C : Cx K own nm cc ret) (w : WVi own ix y b maxL ry k) {a ci N : Nat} {fs : List Value} {T : u_T} (hcl : vwCl[ci]? = some (y.cls, T, N)) (ha : h a = some (.inr (ci, fs))) {r : String ⊕ Option Value} (cn : ConX (kL K) (kE K) y (.code y b maxL ry :: TT) rm mc ms (.ref a :: as) h n r h') (hrm : Rm (kR K) rm maxL cells slots mc ms) (hk : as.length = k) (hst : as.reverse ++ .ref a :: st' = st) (hcat : (st'.map fun v => v.category).sum ≤ 8) (d : decode cc pc = .ok (.invokevirtual ix, 3)) (hp : pc + 3 = pc')
    (kr : ∀ v, r = .inr v → G K (cells + mc) (slots + ms) pc' lv (v.toList ++ st') h' n) (kt : ∀ X, r = .inl X → xCat K own pc X (fun hpc => ∀ q n', G K (cells + mc) (slots + ms) hpc lv [.ref q] h' n')) : G K cells slots pc lv st h n := by
  obtain ⟨p, l, e, R, s, m, args, below, meth, c, nL, E, Q⟩ := K
  intro ls H locs hl hR0 hn hS
  subst hp
  have hts : ∀ x ∈ TT, x.before args s = true := C.2.2.2.2.1
  obtain ⟨w1, w2, w3, w4, w5, w6⟩ := w
  obtain ⟨r1, r2, r3, r4⟩ := hrm
  have cb := callB_of (n := k) (R := R) (own := own) (index := ix) (rm := rm) (mc := mc) (ms := ms) hts (tt_in0 w5) rfl r1 r2 (hts _ w4) (hts _ w1) w6 r3
  obtain ⟨hb, hu⟩ := con_pre (as := .ref a :: as) C.2.2.2.2.2.1 hR0 hn hS
  refine g_xback (vx_runV (n := k) (C := y.cls) (ret := ry) ⟨C.1, C.2.1, C.2.2.1, C.2.2.2.1, hts⟩ cn ⟨cb, hts _ w2, hts _ w3⟩ ⟨hb, va_recv C.2.2.2.2.2.1.1 (hR0.one ha) hcl (q0 := 0) rfl, hu⟩ rfl hk hl.1 hst.symm (lv_room hcat) d r4) hl hS kr (fun X ce q H1 locs1 hx hR1 hS1 hce hcv hcl2 => ?_)
  obtain ⟨pr, x, suf, name, t1, t2, t3, t4, t5, t6, t7⟩ := kt X hx
  exact vx_catch C.2.2.2.1 pr x suf t1 t2 t3 t4 t5 t6 hce hcv hcl2 (t7 q H1.size ls H1 locs1 hl hR1 rfl hS1)
theorem xcat1 (C : Cx K own nm cc ret) {a1 b1 h1 c1 : Nat} {rest : List (Nat × Nat × Nat × Nat)} (hT : kTb K ((a1, b1, h1, c1) :: rest)) {X : String} {P : Nat → Prop} (hX : X = x_IAE ∨ X = x_ISE ∨ X = x_IOB) (hc : a1 ≤ pc ∧ pc < b1) (h0 : c1 ≠ 0) (w : Cond.classLink own c1 X ∈ TT) (hP : P h1) : xCat K own pc X P := by
  obtain ⟨p, l, e, R, s, m, args, below, meth, c, nL, E, Q⟩ := K
  have hEn := C.2.2.2.2.2.1.2.2.2.2.2.2.2.2
  have hcast : va_Nw (.castable X X) s := by
    obtain ⟨-, -, -, t4, t5, t6, -, -⟩ := hEn
    rcases hX with rfl | rfl | rfl <;> assumption
  refine ⟨[], _, _, X, hT, fun z hz => (by cases hz), ?_, h0, C.2.2.2.2.1 _ w, va_Nw.use rfl hcast, hP⟩
  simp [covers, hc.1, hc.2]
theorem xcat2 (C : Cx K own nm cc ret) {a1 b1 h1 c1 a2 b2 h2 c2 : Nat} {rest : List (Nat × Nat × Nat × Nat)} (hT : kTb K ((a1, b1, h1, c1) :: (a2, b2, h2, c2) :: rest)) {X : String} {P : Nat → Prop} (hX : X = x_ISE ∨ X = x_IOB) (hc : a2 ≤ pc ∧ pc < b2) (h0 : c1 ≠ 0) (h02 : c2 ≠ 0) (w1 : Cond.classLink own c1 x_IAE ∈ TT) (w : Cond.classLink own c2 X ∈ TT) (hP : P h2) : xCat K own pc X P := by
  obtain ⟨p, l, e, R, s, m, args, below, meth, c, nL, E, Q⟩ := K
  have hEn := C.2.2.2.2.2.1.2.2.2.2.2.2.2.2
  obtain ⟨-, -, -, t4, t5, t6, t7, t8⟩ := hEn
  have hcast : va_Nw (.castable X X) s := by rcases hX with rfl | rfl <;> assumption
  have hnc : va_Nc X x_IAE s := by rcases hX with rfl | rfl <;> assumption
  refine ⟨[_], _, _, X, hT, fun z hz => ?_, ?_, h02, C.2.2.2.2.1 _ w, va_Nw.use rfl hcast, hP⟩
  · rw [List.mem_singleton] at hz
    subst hz
    exact Or.inr ⟨h0, x_IAE, C.2.2.2.2.1 _ w1, hnc⟩
  · simp [covers, hc.1, hc.2]
def WSw (own : String) (ix : Nat) (y : MethodName) (b : ByteArray) (maxL : Nat) (ret : Option FieldType) (hh : List (Nat × Nat × Nat × Nat)) (k : Nat) : Prop :=
  Cond.methodLink own ix y ∈ TT ∧ Cond.static y ∈ TT ∧ Cond.initialized y.cls ∈ TT ∧ Cond.codeWith y b maxL ret hh ∈ TT ∧ (y.cls ≠ "java/lang/invoke/MethodHandle" ∧ y.cls ≠ "java/lang/invoke/VarHandle" ∧ (parseMethodDescriptor y.desc).map (fun d => d.parameters.length) = some k)
theorem g_callSE (C : Cx K own nm cc ret) {hh : List (Nat × Nat × Nat × Nat)} (w : WSw own ix y b maxL ry hh k) {r : Option Value} (cn : ConE (kL K) (kE K) y (.codeWith y b maxL ry hh :: TT) rm mc ms as h n r h') (hrm : Rm (kR K) rm maxL cells slots mc ms) (hk : as.length = k) (hst : as.reverse ++ st' = st) (hcat : (st'.map fun v => v.category).sum ≤ 8) (hr2 : r.toList ++ st' = st2) (d : decode cc pc = .ok (.invokestatic ix, 3)) (hp : pc + 3 = pc') (kk : ∀ n', G K (cells + mc) (slots + ms) pc' lv st2 h' n') : G K cells slots pc lv st h n := by
  obtain ⟨p, l, e, R, s, m, args, below, meth, c, nL, E, Q⟩ := K
  intro ls H locs hl hR0 hn hS
  subst hp
  subst hr2
  have hts : ∀ x ∈ TT, x.before args s = true := C.2.2.2.2.1
  obtain ⟨w1, w2, w3, w4, w5⟩ := w
  obtain ⟨r1, r2, r3, r4⟩ := hrm
  have hG := tt_in0 w4
  have cw : vx_CSW R s args own ix y b maxL ry hh (.codeWith y b maxL ry hh :: TT) rm mc ms k := ⟨⟨r1, r2, r3.1, r3.2, pay_in hts hG, List.mem_cons_self⟩, hts _ w4, hts _ w3, ⟨w5.1, w5.2.1⟩, fun sig hsig => by
    have h2 := w5.2.2
    rw [hsig] at h2
    exact (Option.some.inj h2).symm, hts _ w1, hts _ w2⟩
  have hr := vx_runSW (n := k) (ret := ry) (hh := hh) (cells := cells) (slots := slots) (locs := locs) (e := e) (below := below) (meth := meth) (rest := st') ⟨C.1, C.2.1, C.2.2.1, C.2.2.2.1, hts⟩ cn cw (con_pre C.2.2.2.2.2.1 hR0 hn hS) (g := F0 m pc ls st) rfl hk hl.1 hst.symm (lv_room hcat) d r4
  intro T hT X
  obtain ⟨v, st₀, t, T', L, h0, X', hL, e1, e2, ⟨hv, hR', hF⟩, stp⟩ := hr T hT X
  cases hv
  obtain ⟨hz, hkk⟩ := hF
  rw [h0] at hz hkk
  obtain ⟨t2, a1, b1⟩ := kk t.heap.size ls t.heap (locs ++ L) hl hR' rfl (hS.after hz hkk hL) T' e1 X'
  exact ⟨t2, stp t2 a1, b1⟩
/-- a place of the script -/
theorem g_sld (C : Cx K own nm cc ret) {bs L : Nat} {xs : Nat → Int32} (hX : va_X bs L xs K.2.2.2.2.1 K.2.2.2.2.1.heap) (hbl : bs < K.2.2.2.2.1.heap.size) (hbA : ¬ xA (kE K) bs) {i : Int32} (hi : vp_in i L) (d : decode cc pc = .ok (.iaload, 1)) (hp : pc + 1 = pc') (kk : G K cells slots pc' lv (.int (xs i.toNatClampNeg) :: st) h n) : G K cells slots pc lv (.int i :: .ref bs :: st) h n := by
  obtain ⟨p, l, e, R, s, m, args, below, meth, c, nL, E, Q⟩ := K
  intro ls H locs hl hR0 hn hS
  subst hp
  exact va_sld C.1 C.2.1 hX hbl hbA hS hi d (kk ls H locs hl hR0 hn hS)
theorem g_slen (C : Cx K own nm cc ret) {bs L : Nat} {xs : Nat → Int32} (hX : va_X bs L xs K.2.2.2.2.1 K.2.2.2.2.1.heap) (hbl : bs < K.2.2.2.2.1.heap.size) (hbA : ¬ xA (kE K) bs) (d : decode cc pc = .ok (.arraylength, 1)) (hp : pc + 1 = pc') (kk : G K cells slots pc' lv (.int (nI L) :: st) h n) : G K cells slots pc lv (.ref bs :: st) h n := by
  obtain ⟨p, l, e, R, s, m, args, below, meth, c, nL, E, Q⟩ := K
  intro ls H locs hl hR0 hn hS
  subst hp
  exact va_slen C.1 C.2.1 hX hbl hbA hS d (kk ls H locs hl hR0 hn hS)
/-- a choice among the first m numbers -/
theorem g_tsw (C : Cx K own nm cc ret) {x : Int32} {dflt hi : Int} {offs : Array Int} {len m : Nat} (tg : Nat → Nat) (dt : Nat) (d : decode cc pc = .ok (.tableswitch dflt 0 hi offs, len)) (hhi : hi + 1 = (m : Int)) (hm : m < 1000) (ht : ∀ j, j < m → ∃ off, offs[j]? = some off ∧ (pc : Int) + off = (tg j : Int)) (hd : (pc : Int) + dflt = (dt : Int)) (k1 : ∀ j, j < m → x = nI j → G K cells slots (tg j) lv st h n) (k2 : (∀ j, j < m → x ≠ nI j) → G K cells slots dt lv st h n) : G K cells slots pc lv (.int x :: st) h n := by
  obtain ⟨p, l, e, R, s, mm, args, below, meth, c, nL, E, Q⟩ := K
  intro ls H locs hl hR0 hn hS
  by_cases hx : 0 ≤ x.toInt ∧ x.toInt < m
  · obtain ⟨j, hj⟩ : ∃ j : Nat, x.toInt = j := ⟨x.toInt.toNat, by omega⟩
    have hjm : j < m := by omega
    have ex : x = nI j := Int32.toInt_inj.mp (by rw [hj, nI_toInt (by omega)])
    obtain ⟨off, ho, hto⟩ := ht j hjm
    exact lv_tableIn C.1 C.2.1 d (by omega) (by omega) (by rw [show (x.toInt - 0).toNat = j by omega]; exact ho) hto (k1 j hjm ex ls H locs hl hR0 hn hS)
  · refine lv_tableOut C.1 C.2.1 d (by omega) hd (k2 (fun j hj ex => hx ?_) ls H locs hl hR0 hn hS)
    rw [ex, nI_toInt (by omega)]
    omega
end LRows
def xSel {A C : Type} (X1 X2 : String) (q : String ⊕ A) (e1 e2 : Option C) (k : A → Option C) : Option C := match q with
  | .inl t => if t = X1 then e1 else if t = X2 then e2 else none
  | .inr v => k v
theorem xsel {A C : Type} {X1 X2 : String} {q : String ⊕ A} {e1 e2 : Option C} {k : A → Option C} {r : C} (h : xSel X1 X2 q e1 e2 k = some r) : (q = .inl X1 ∧ e1 = some r) ∨ (q = .inl X2 ∧ e2 = some r) ∨ ∃ v, q = .inr v ∧ k v = some r := by
  rcases q with t | v
  · simp only [xSel] at h
    by_cases h1 : t = X1
    · rw [if_pos h1] at h; exact Or.inl ⟨by rw [h1], h⟩
    · rw [if_neg h1] at h
      by_cases h2 : t = X2
      · rw [if_pos h2] at h; exact Or.inr (Or.inl ⟨by rw [h2], h⟩)
      · rw [if_neg h2] at h; cases h
  · exact Or.inr (Or.inr ⟨v, rfl, h⟩)
