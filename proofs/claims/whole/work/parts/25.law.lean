/-! the law's own methods: calls with handlers -/
def cQe (E : Ex) (r : Option Value) (h : AH) : Array Value → State → Outcome → State → Prop := fun _ st o t => o = .returned r ∧ hR E h t.heap ∧ va_F (xA E) st t
def KQe (K : KX) (mc ms : Nat) (r : Option Value) (h : AH) : Prop := match K with
  | (_, _, _, _, s, _, args, below, _, _, _, E, Q) => Q = MQ below (cQe E r h) args s mc ms (xA E)
def kTb (K : KX) (hh : List (Nat × Nat × Nat × Nat)) : Prop := match K with
  | (_, _, _, _, _, _, _, _, _, c, _, _, _) => c.exceptionTable.toList = tableOf hh
def ConE (l : Launch) (E : Ex) (y : MethodName) (ws : List Cond) (rm : Room) (mc ms : Nat) (as : List Value) (h : AH) (n : Nat) (r : Option Value) (h' : AH) : Prop :=
  Met l y ws rm (va_Pc as (fun U => En E U U.heap ∧ hR E h U.heap ∧ U.heap.size = n)) (cQe E r h') mc ms (xA E)
theorem conE_intro {l : Launch} {E : Ex} {y : MethodName} {cc : ByteArray} {maxL : Nat} {ret : Option FieldType} {hh : List (Nat × Nat × Nat × Nat)} {rm : Room} {mc ms : Nat} {as : List Value} {h : AH} {n : Nat} {r : Option Value} {h' : AH}
    (hy : plainName y.cls = true) (hsz : (lg_sl as).length ≤ maxL)
    (body : ∀ K : KX, Cx K y.cls y.name cc ret → kTb K hh → kR K = rm → kL K = l → kE K = E → kN K = maxL → KQe K mc ms r h' → G K 0 0 0 (lv_args 0 as) [] h n) :
    ConE l E y (.codeWith y cc maxL ret hh :: TT) rm mc ms as h n r h' := by
  refine met_ofWH (cc := cc) (maxL := maxL) (ret := ret) (hh := hh) hy rfl ?_
  intro p e s m args below meth c s₁ B hml ht hv
  obtain ⟨rfl, hEn, hR0, hn⟩ := hv
  have hts := atoms_spec (ws := Cond.codeWith y cc maxL ret hh :: TT) B.pre
  have hown : s.vm.findClass y.cls = some m.cls := findClass_of_methodNamed B.named
  have hl := lv_entry as (n := maxL) hsz
  rw [lg_entry_eq]
  refine body (p, l, e, _, s, m, as.toArray, below, meth, c, maxL, E, _) ⟨B.exec, B.bytes, hml, hown, fun w hw => hts w (List.mem_cons_of_mem _ hw), hEn, B.returns, B.notSynchronized, (name_of_methodNamed B.named B.method).1⟩ ht rfl rfl rfl rfl rfl _ _ _ hl hR0 hn va_S.rf
section LRows
variable {K : KX} {own nm : String} {cc : ByteArray} {ret : Option FieldType} {cells slots pc pc' mc ms : Nat} {lv : List (Nat × Value)} {st st' st2 : List Value} {h h' : AH} {n : Nat}
theorem g_eiret (C : Cx K own nm cc (some .int)) {v : Int32} (hK : KQe K mc ms (some (.int v)) h) (hc : cells ≤ mc) (hs : slots ≤ ms) (d : decode cc pc = .ok (.ireturn, 1)) : G K cells slots pc lv [.int v] h n := by
  obtain ⟨p, l, e, R, s, m, args, below, meth, c, nL, E, Q⟩ := K
  intro ls H locs hl hR hn hS
  cases hK
  have hlocks : meth.locks = false := C.2.2.2.2.2.2.2.1
  exact W.widen hc hs (W.iret C.1 C.2.1 C.2.2.2.2.2.2.1 (fun t ht hW => ⟨rfl, by rw [ht]; exact hR, hS.F ht⟩) hS.2.2 d hlocks)
/-- the exception X, thrown at pc, is caught here, and the walk goes on at a handler of which P -/
def xCat (K : KX) (own : String) (pc : Nat) (X : String) (P : Nat → Prop) : Prop := match K with
  | (_, _, _, _, s, _, args, _, _, c, _, _, _) => ∃ (pr : List ExceptionTableEntry) (x : ExceptionTableEntry) (suf : List ExceptionTableEntry) (name : String), c.exceptionTable.toList = pr ++ x :: suf ∧ (∀ z ∈ pr, covers z pc = false ∨ (z.catchType ≠ 0 ∧ ∃ nm : String, (Cond.classLink own z.catchType nm).before args s = true ∧ va_Nc X nm s)) ∧ covers x pc = true ∧ x.catchType ≠ 0 ∧ (Cond.classLink own x.catchType name).before args s = true ∧ (Cond.castable X name).before args s = true ∧ P x.handlerPc
variable {y : MethodName} {b : ByteArray} {maxL ix : Nat} {ry : Option FieldType} {rm : Room} {as : List Value} {k : Nat}
theorem g_callXV (C : Cx K own nm cc ret) (w : WVi own ix y b maxL ry k) {a ci N : Nat} {fs : List Value} {T : u_T} (hcl : vwCl[ci]? = some (y.cls, T, N)) (ha : h a = some (.inr (ci, fs))) {r : String ⊕ Option Value} (cn : ConX (kL K) (kE K) y (.code y b maxL ry :: TT) rm mc ms (.ref a :: as) h n r h') (hrm : Rm (kR K) rm maxL cells slots mc ms) (hk : as.length = k) (hst : as.reverse ++ .ref a :: st' = st) (hcat : (st'.map fun v => v.category).sum ≤ 8) (d : decode cc pc = .ok (.invokevirtual ix, 3)) (hp : pc + 3 = pc')
    (kr : ∀ v, r = .inr v → G K (cells + mc) (slots + ms) pc' lv (v.toList ++ st') h' n) (kt : ∀ X, r = .inl X → xCat K own pc X (fun hpc => ∀ q n', G K (cells + mc) (slots + ms) hpc lv [.ref q] h' n')) : G K cells slots pc lv st h n := by
  obtain ⟨p, l, e, R, s, m, args, below, meth, c, nL, E, Q⟩ := K
  intro ls H locs hl hR0 hn hS
  subst hp
  have hts : ∀ x ∈ TT, x.before args s = true := C.2.2.2.2.1
  obtain ⟨w1, w2, w3, w4, w5, w6⟩ := w
  obtain ⟨r1, r2, r3, r4⟩ := hrm
  have cb := callB_of (n := k) (R := R) (own := own) (index := ix) (rm := rm) (mc := mc) (ms := ms) hts (tt_in0 w5) rfl r1 r2 (hts _ w4) (hts _ w1) w6 r3
  obtain ⟨hb, hu⟩ := con_pre (as := .ref a :: as) C.2.2.2.2.2.1 hR0 hn hS
  refine g_xback (vx_runV (n := k) (C := y.cls) (ret := ry) ⟨C.1, C.2.1, C.2.2.1, C.2.2.2.1, hts⟩ cn ⟨cb, hts _ w2, hts _ w3⟩ ⟨hb, va_recv C.2.2.2.2.2.1.1 (hR0.one ha) hcl (q0 := 0) rfl, hu⟩ rfl hk hl.1 hst.symm (lv_room hcat) d r4) hl hS kr (fun X ce q H1 locs1 hx hR1 hS1 hce hcv hcl2 => ?_)
  obtain ⟨pr, x, suf, name, t1, t2, t3, t4, t5, t6, t7⟩ := kt X hx
  exact vx_catch C.2.2.2.1 pr x suf t1 t2 t3 t4 t5 t6 hce hcv hcl2 (t7 q H1.size ls H1 locs1 hl hR1 rfl hS1)
theorem xcat1 (C : Cx K own nm cc ret) {a1 b1 h1 c1 : Nat} {rest : List (Nat × Nat × Nat × Nat)} (hT : kTb K ((a1, b1, h1, c1) :: rest)) {X : String} {P : Nat → Prop} (hX : X = x_IAE ∨ X = x_ISE ∨ X = x_IOB) (hc : a1 ≤ pc ∧ pc < b1) (h0 : c1 ≠ 0) (w : Cond.classLink own c1 X ∈ TT) (hP : P h1) : xCat K own pc X P := by
  obtain ⟨p, l, e, R, s, m, args, below, meth, c, nL, E, Q⟩ := K
  have hEn := C.2.2.2.2.2.1.2.2.2.2.2.2.2.2
  have hcast : va_Nw (.castable X X) s := by
    obtain ⟨-, -, -, t4, t5, t6, -, -⟩ := hEn
    rcases hX with rfl | rfl | rfl <;> assumption
  refine ⟨[], _, _, X, hT, fun z hz => (by cases hz), ?_, h0, C.2.2.2.2.1 _ w, va_Nw.use rfl hcast, hP⟩
  simp [covers, hc.1, hc.2]
theorem xcat2 (C : Cx K own nm cc ret) {a1 b1 h1 c1 a2 b2 h2 c2 : Nat} {rest : List (Nat × Nat × Nat × Nat)} (hT : kTb K ((a1, b1, h1, c1) :: (a2, b2, h2, c2) :: rest)) {X : String} {P : Nat → Prop} (hX : X = x_ISE ∨ X = x_IOB) (hc : a2 ≤ pc ∧ pc < b2) (h0 : c1 ≠ 0) (h02 : c2 ≠ 0) (w1 : Cond.classLink own c1 x_IAE ∈ TT) (w : Cond.classLink own c2 X ∈ TT) (hP : P h2) : xCat K own pc X P := by
  obtain ⟨p, l, e, R, s, m, args, below, meth, c, nL, E, Q⟩ := K
  have hEn := C.2.2.2.2.2.1.2.2.2.2.2.2.2.2
  obtain ⟨-, -, -, t4, t5, t6, t7, t8⟩ := hEn
  have hcast : va_Nw (.castable X X) s := by rcases hX with rfl | rfl <;> assumption
  have hnc : va_Nc X x_IAE s := by rcases hX with rfl | rfl <;> assumption
  refine ⟨[_], _, _, X, hT, fun z hz => ?_, ?_, h02, C.2.2.2.2.1 _ w, va_Nw.use rfl hcast, hP⟩
  · rw [List.mem_singleton] at hz
    subst hz
    exact Or.inr ⟨h0, x_IAE, C.2.2.2.2.1 _ w1, hnc⟩
  · simp [covers, hc.1, hc.2]
def WSw (own : String) (ix : Nat) (y : MethodName) (b : ByteArray) (maxL : Nat) (ret : Option FieldType) (hh : List (Nat × Nat × Nat × Nat)) (k : Nat) : Prop :=
  Cond.methodLink own ix y ∈ TT ∧ Cond.static y ∈ TT ∧ Cond.initialized y.cls ∈ TT ∧ Cond.codeWith y b maxL ret hh ∈ TT ∧ (y.cls ≠ "java/lang/invoke/MethodHandle" ∧ y.cls ≠ "java/lang/invoke/VarHandle" ∧ (parseMethodDescriptor y.desc).map (fun d => d.parameters.length) = some k)
theorem g_callSE (C : Cx K own nm cc ret) {hh : List (Nat × Nat × Nat × Nat)} (w : WSw own ix y b maxL ry hh k) {r : Option Value} (cn : ConE (kL K) (kE K) y (.codeWith y b maxL ry hh :: TT) rm mc ms as h n r h') (hrm : Rm (kR K) rm maxL cells slots mc ms) (hk : as.length = k) (hst : as.reverse ++ st' = st) (hcat : (st'.map fun v => v.category).sum ≤ 8) (hr2 : r.toList ++ st' = st2) (d : decode cc pc = .ok (.invokestatic ix, 3)) (hp : pc + 3 = pc') (kk : ∀ n', G K (cells + mc) (slots + ms) pc' lv st2 h' n') : G K cells slots pc lv st h n := by
  obtain ⟨p, l, e, R, s, m, args, below, meth, c, nL, E, Q⟩ := K
  intro ls H locs hl hR0 hn hS
  subst hp
  subst hr2
  have hts : ∀ x ∈ TT, x.before args s = true := C.2.2.2.2.1
  obtain ⟨w1, w2, w3, w4, w5⟩ := w
  obtain ⟨r1, r2, r3, r4⟩ := hrm
  have hG := tt_in0 w4
  have cw : vx_CSW R s args own ix y b maxL ry hh (.codeWith y b maxL ry hh :: TT) rm mc ms k := ⟨⟨r1, r2, r3.1, r3.2, pay_in hts hG, List.mem_cons_self⟩, hts _ w4, hts _ w3, ⟨w5.1, w5.2.1⟩, fun sig hsig => by
    have h2 := w5.2.2
    rw [hsig] at h2
    exact (Option.some.inj h2).symm, hts _ w1, hts _ w2⟩
  have hr := vx_runSW (n := k) (ret := ry) (hh := hh) (cells := cells) (slots := slots) (locs := locs) (e := e) (below := below) (meth := meth) (rest := st') ⟨C.1, C.2.1, C.2.2.1, C.2.2.2.1, hts⟩ cn cw (con_pre C.2.2.2.2.2.1 hR0 hn hS) (g := F0 m pc ls st) rfl hk hl.1 hst.symm (lv_room hcat) d r4
  intro T hT X
  obtain ⟨v, st₀, t, T', L, h0, X', hL, e1, e2, ⟨hv, hR', hF⟩, stp⟩ := hr T hT X
  cases hv
  obtain ⟨hz, hkk⟩ := hF
  rw [h0] at hz hkk
  obtain ⟨t2, a1, b1⟩ := kk t.heap.size ls t.heap (locs ++ L) hl hR' rfl (hS.after hz hkk hL) T' e1 X'
  exact ⟨t2, stp t2 a1, b1⟩
/-- a place of the script -/
theorem g_sld (C : Cx K own nm cc ret) {bs L : Nat} {xs : Nat → Int32} (hX : va_X bs L xs K.2.2.2.2.1 K.2.2.2.2.1.heap) (hbl : bs < K.2.2.2.2.1.heap.size) (hbA : ¬ xA (kE K) bs) {i : Int32} (hi : vp_in i L) (d : decode cc pc = .ok (.iaload, 1)) (hp : pc + 1 = pc') (kk : G K cells slots pc' lv (.int (xs i.toNatClampNeg) :: st) h n) : G K cells slots pc lv (.int i :: .ref bs :: st) h n := by
  obtain ⟨p, l, e, R, s, m, args, below, meth, c, nL, E, Q⟩ := K
  intro ls H locs hl hR0 hn hS
  subst hp
  exact va_sld C.1 C.2.1 hX hbl hbA hS hi d (kk ls H locs hl hR0 hn hS)
theorem g_slen (C : Cx K own nm cc ret) {bs L : Nat} {xs : Nat → Int32} (hX : va_X bs L xs K.2.2.2.2.1 K.2.2.2.2.1.heap) (hbl : bs < K.2.2.2.2.1.heap.size) (hbA : ¬ xA (kE K) bs) (d : decode cc pc = .ok (.arraylength, 1)) (hp : pc + 1 = pc') (kk : G K cells slots pc' lv (.int (nI L) :: st) h n) : G K cells slots pc lv (.ref bs :: st) h n := by
  obtain ⟨p, l, e, R, s, m, args, below, meth, c, nL, E, Q⟩ := K
  intro ls H locs hl hR0 hn hS
  subst hp
  exact va_slen C.1 C.2.1 hX hbl hbA hS d (kk ls H locs hl hR0 hn hS)
/-- a choice among the first m numbers -/
theorem g_tsw (C : Cx K own nm cc ret) {x : Int32} {dflt hi : Int} {offs : Array Int} {len m : Nat} (tg : Nat → Nat) (dt : Nat) (d : decode cc pc = .ok (.tableswitch dflt 0 hi offs, len)) (hhi : hi + 1 = (m : Int)) (hm : m < 1000) (ht : ∀ j, j < m → ∃ off, offs[j]? = some off ∧ (pc : Int) + off = (tg j : Int)) (hd : (pc : Int) + dflt = (dt : Int)) (k1 : ∀ j, j < m → x = nI j → G K cells slots (tg j) lv st h n) (k2 : (∀ j, j < m → x ≠ nI j) → G K cells slots dt lv st h n) : G K cells slots pc lv (.int x :: st) h n := by
  obtain ⟨p, l, e, R, s, mm, args, below, meth, c, nL, E, Q⟩ := K
  intro ls H locs hl hR0 hn hS
  by_cases hx : 0 ≤ x.toInt ∧ x.toInt < m
  · obtain ⟨j, hj⟩ : ∃ j : Nat, x.toInt = j := ⟨x.toInt.toNat, by omega⟩
    have hjm : j < m := by omega
    have ex : x = nI j := Int32.toInt_inj.mp (by rw [hj, nI_toInt (by omega)])
    obtain ⟨off, ho, hto⟩ := ht j hjm
    exact lv_tableIn C.1 C.2.1 d (by omega) (by omega) (by rw [show (x.toInt - 0).toNat = j by omega]; exact ho) hto (k1 j hjm ex ls H locs hl hR0 hn hS)
  · refine lv_tableOut C.1 C.2.1 d (by omega) hd (k2 (fun j hj ex => hx ?_) ls H locs hl hR0 hn hS)
    rw [ex, nI_toInt (by omega)]
    omega
end LRows
def xSel {A C : Type} (X1 X2 : String) (q : String ⊕ A) (e1 e2 : Option C) (k : A → Option C) : Option C := match q with
  | .inl t => if t = X1 then e1 else if t = X2 then e2 else none
  | .inr v => k v
theorem xsel {A C : Type} {X1 X2 : String} {q : String ⊕ A} {e1 e2 : Option C} {k : A → Option C} {r : C} (h : xSel X1 X2 q e1 e2 k = some r) : (q = .inl X1 ∧ e1 = some r) ∨ (q = .inl X2 ∧ e2 = some r) ∨ ∃ v, q = .inr v ∧ k v = some r := by
  rcases q with t | v
  · simp only [xSel] at h
    by_cases h1 : t = X1
    · rw [if_pos h1] at h; exact Or.inl ⟨by rw [h1], h⟩
    · rw [if_neg h1] at h
      by_cases h2 : t = X2
      · rw [if_pos h2] at h; exact Or.inr (Or.inl ⟨by rw [h2], h⟩)
      · rw [if_neg h2] at h; cases h
  · exact Or.inr (Or.inr ⟨v, rfl, h⟩)
theorem wL_comm {σ : AH} {a b : Nat} {L M : List CE} (h : a + L.length ≤ b ∨ b + M.length ≤ a) : wL (wL σ a L) b M = wL (wL σ b M) a L := by
  funext z
  unfold wL
  by_cases h1 : a ≤ z ∧ z < a + L.length
  · rw [if_neg (by omega), if_pos h1, if_pos h1]
  · by_cases h2 : b ≤ z ∧ z < b + M.length
    · rw [if_pos h2, if_neg h1, if_pos h2]
    · rw [if_neg h2, if_neg h1, if_neg h1, if_neg h2]
theorem wL_hU {σ : AH} {a b : Nat} {L : List CE} {e : CE} (h : b < a ∨ a + L.length ≤ b) : hU (wL σ a L) b e = wL (hU σ b e) a L := by
  rw [← wL_one, ← wL_one, wL_comm (by simp only [List.length_cons, List.length_nil]; omega)]
theorem lw_up {σ : AH} {x b : Nat} {pss : Nat → Nat → Int64} {pps : Nat → Nat → Int64} {phv : Nat → Nat → Int64} {poo : Nat → Nat → Int64} {pcu : Nat → Int64} {pmm : Nat → Int32} {psk : Nat → Int32} {ppk : Nat → Int32} {pkw : Nat → Int64} {psc : Nat → Int32} {ppn : Nat → Int32} {asm : Nat → Int64} {sur : Int64} {bud : Int32} {wan : Int32} {tri : Int32} {fou : Int32} {en : Int32} {eh : Int32} {cho : Nat → Int64} {at' : Nat → Int32} {pa : Nat → Int32} {mo : Nat → Int32} {le : Nat → Int32} {hd : Nat → Int32} {nt : Nat → Int32} {ct : Int32} {sts6 : Nat → Int64} {blo : Nat → Nat → Int32} {bhi : Nat → Nat → Int32} {bem : Nat → Int32} {glo : Nat → Int32} {ghi : Nat → Int32} {gem : Int32} {rlo : Nat → Int32} {rhi : Nat → Int32} {rem : Int32} {rom : Nat → Int32} {fnd : Nat → Int32} {fc : Int32} {prt : Int32} {lim : Int32} {su : Int64} {op : Int64} {out out2 : Nat → Int64} (hb : b < x ∨ x + 71 ≤ b) : hU (wSh (wA σ b 1 out) x pss pps phv poo pcu pmm psk ppk pkw psc ppn asm sur bud wan tri fou en eh cho at' pa mo le hd nt ct sts6 blo bhi bem glo ghi gem rlo rhi rem rom fnd fc prt lim su op) b (.inl (1, 1, .inr (.inl out2))) = wSh (wA σ b 1 out2) x pss pps phv poo pcu pmm psk ppk pkw psc ppn asm sur bud wan tri fou en eh cho at' pa mo le hd nt ct sts6 blo bhi bem glo ghi gem rlo rhi rem rom fnd fc prt lim su op := by
  unfold wSh
  rw [wL_hU (by show _ ∨ _ + 71 ≤ _; omega)]
  unfold wA
  rw [wL_one, wL_one]
  congr 1
  funext z
  unfold hU
  by_cases h1 : z = b
  · rw [if_pos h1, if_pos h1]
  · rw [if_neg h1, if_neg h1, if_neg h1]
theorem wm_RL_7 : Cond.methodLink RL 7 yX6_cube ∈ TT := tt_mem 264 (by decide +kernel) (by decide +kernel)
theorem wn_X6_cube : Cond.instanceMethod yX6_cube ∈ TT := tt_mem 265 (by decide +kernel) (by decide +kernel)
theorem wv_X6_cube : Cond.selects yX6_cube.cls yX6_cube yX6_cube ∈ TT := tt_mem 266 (by decide +kernel) (by decide +kernel)
theorem wk_X6_cube : Cond.code yX6_cube cX6_cube 5 (some .int) ∈ TT := tt_mem 267 (by decide +kernel) (by decide +kernel)
theorem wl_RL_13 : Cond.classLink RL 13 x_IAE ∈ TT := tt_mem 262 (by decide +kernel) (by decide +kernel)
theorem wl_RL_15 : Cond.classLink RL 15 x_ISE ∈ TT := tt_mem 263 (by decide +kernel) (by decide +kernel)
theorem wm_RL_17 : Cond.methodLink RL 17 yX6_mirror ∈ TT := tt_mem 385 (by decide +kernel) (by decide +kernel)
theorem wn_X6_mirror : Cond.instanceMethod yX6_mirror ∈ TT := tt_mem 386 (by decide +kernel) (by decide +kernel)
theorem wv_X6_mirror : Cond.selects yX6_mirror.cls yX6_mirror yX6_mirror ∈ TT := tt_mem 387 (by decide +kernel) (by decide +kernel)
theorem wk_X6_mirror : Cond.code yX6_mirror cX6_mirror 3 none ∈ TT := tt_mem 388 (by decide +kernel) (by decide +kernel)
theorem wm_RL_21 : Cond.methodLink RL 21 yX6_shapes ∈ TT := tt_mem 396 (by decide +kernel) (by decide +kernel)
theorem wn_X6_shapes : Cond.instanceMethod yX6_shapes ∈ TT := tt_mem 397 (by decide +kernel) (by decide +kernel)
theorem wv_X6_shapes : Cond.selects yX6_shapes.cls yX6_shapes yX6_shapes ∈ TT := tt_mem 398 (by decide +kernel) (by decide +kernel)
theorem wk_X6_shapes : Cond.code yX6_shapes cX6_shapes 2 (some .int) ∈ TT := tt_mem 399 (by decide +kernel) (by decide +kernel)
theorem wm_RL_25 : Cond.methodLink RL 25 yX6_shape ∈ TT := tt_mem 459 (by decide +kernel) (by decide +kernel)
theorem wn_X6_shape : Cond.instanceMethod yX6_shape ∈ TT := tt_mem 460 (by decide +kernel) (by decide +kernel)
theorem wv_X6_shape : Cond.selects yX6_shape.cls yX6_shape yX6_shape ∈ TT := tt_mem 461 (by decide +kernel) (by decide +kernel)
theorem wk_X6_shape : Cond.code yX6_shape cX6_shape 3 (some .long) ∈ TT := tt_mem 462 (by decide +kernel) (by decide +kernel)
theorem wl_RL_29 : Cond.classLink RL 29 x_IOB ∈ TT := tt_mem 458 (by decide +kernel) (by decide +kernel)
theorem wm_RL_31 : Cond.methodLink RL 31 yX6_target ∈ TT := tt_mem 486 (by decide +kernel) (by decide +kernel)
theorem wn_X6_target : Cond.instanceMethod yX6_target ∈ TT := tt_mem 487 (by decide +kernel) (by decide +kernel)
theorem wv_X6_target : Cond.selects yX6_target.cls yX6_target yX6_target ∈ TT := tt_mem 488 (by decide +kernel) (by decide +kernel)
theorem wk_X6_target : Cond.code yX6_target cX6_target 5 none ∈ TT := tt_mem 489 (by decide +kernel) (by decide +kernel)
theorem wm_RL_35 : Cond.methodLink RL 35 yX6_places ∈ TT := tt_mem 495 (by decide +kernel) (by decide +kernel)
theorem wn_X6_places : Cond.instanceMethod yX6_places ∈ TT := tt_mem 496 (by decide +kernel) (by decide +kernel)
theorem wv_X6_places : Cond.selects yX6_places.cls yX6_places yX6_places ∈ TT := tt_mem 497 (by decide +kernel) (by decide +kernel)
theorem wk_X6_places : Cond.code yX6_places cX6_places 2 (some .int) ∈ TT := tt_mem 498 (by decide +kernel) (by decide +kernel)
theorem wm_RL_38 : Cond.methodLink RL 38 yX6_pack ∈ TT := tt_mem 530 (by decide +kernel) (by decide +kernel)
theorem wn_X6_pack : Cond.instanceMethod yX6_pack ∈ TT := tt_mem 531 (by decide +kernel) (by decide +kernel)
theorem wv_X6_pack : Cond.selects yX6_pack.cls yX6_pack yX6_pack ∈ TT := tt_mem 532 (by decide +kernel) (by decide +kernel)
theorem wk_X6_pack : Cond.code yX6_pack cX6_pack 2 (some .int) ∈ TT := tt_mem 533 (by decide +kernel) (by decide +kernel)
theorem wm_RL_41 : Cond.methodLink RL 41 yX6_assemble ∈ TT := tt_mem 586 (by decide +kernel) (by decide +kernel)
theorem wn_X6_assemble : Cond.instanceMethod yX6_assemble ∈ TT := tt_mem 587 (by decide +kernel) (by decide +kernel)
theorem wv_X6_assemble : Cond.selects yX6_assemble.cls yX6_assemble yX6_assemble ∈ TT := tt_mem 588 (by decide +kernel) (by decide +kernel)
theorem wk_X6_assemble : Cond.code yX6_assemble cX6_assemble 4 (some .boolean) ∈ TT := tt_mem 589 (by decide +kernel) (by decide +kernel)
theorem wm_RL_45 : Cond.methodLink RL 45 yX6_put ∈ TT := tt_mem 602 (by decide +kernel) (by decide +kernel)
theorem wn_X6_put : Cond.instanceMethod yX6_put ∈ TT := tt_mem 603 (by decide +kernel) (by decide +kernel)
theorem wv_X6_put : Cond.selects yX6_put.cls yX6_put yX6_put ∈ TT := tt_mem 604 (by decide +kernel) (by decide +kernel)
theorem wk_X6_put : Cond.code yX6_put cX6_put 5 none ∈ TT := tt_mem 605 (by decide +kernel) (by decide +kernel)
theorem wm_RL_49 : Cond.methodLink RL 49 yX6_take ∈ TT := tt_mem 617 (by decide +kernel) (by decide +kernel)
theorem wn_X6_take : Cond.instanceMethod yX6_take ∈ TT := tt_mem 618 (by decide +kernel) (by decide +kernel)
theorem wv_X6_take : Cond.selects yX6_take.cls yX6_take yX6_take ∈ TT := tt_mem 619 (by decide +kernel) (by decide +kernel)
theorem wk_X6_take : Cond.code yX6_take cX6_take 2 none ∈ TT := tt_mem 620 (by decide +kernel) (by decide +kernel)
theorem wm_RL_53 : Cond.methodLink RL 53 yX6_cells ∈ TT := tt_mem 625 (by decide +kernel) (by decide +kernel)
theorem wn_X6_cells : Cond.instanceMethod yX6_cells ∈ TT := tt_mem 626 (by decide +kernel) (by decide +kernel)
theorem wv_X6_cells : Cond.selects yX6_cells.cls yX6_cells yX6_cells ∈ TT := tt_mem 627 (by decide +kernel) (by decide +kernel)
theorem wk_X6_cells : Cond.code yX6_cells cX6_cells 2 (some .long) ∈ TT := tt_mem 628 (by decide +kernel) (by decide +kernel)
theorem wm_RL_57 : Cond.methodLink RL 57 yX6_plan ∈ TT := tt_mem 632 (by decide +kernel) (by decide +kernel)
theorem wn_X6_plan : Cond.instanceMethod yX6_plan ∈ TT := tt_mem 633 (by decide +kernel) (by decide +kernel)
theorem wv_X6_plan : Cond.selects yX6_plan.cls yX6_plan yX6_plan ∈ TT := tt_mem 634 (by decide +kernel) (by decide +kernel)
theorem wk_X6_plan : Cond.code yX6_plan cX6_plan 3 (some .int) ∈ TT := tt_mem 635 (by decide +kernel) (by decide +kernel)
theorem wm_RL_61 : Cond.methodLink RL 61 yX6_move ∈ TT := tt_mem 764 (by decide +kernel) (by decide +kernel)
theorem wn_X6_move : Cond.instanceMethod yX6_move ∈ TT := tt_mem 765 (by decide +kernel) (by decide +kernel)
theorem wv_X6_move : Cond.selects yX6_move.cls yX6_move yX6_move ∈ TT := tt_mem 766 (by decide +kernel) (by decide +kernel)
theorem wk_X6_move : Cond.code yX6_move cX6_move 2 (some .int) ∈ TT := tt_mem 767 (by decide +kernel) (by decide +kernel)
def f_L_cube (pcu : Nat → Int64) (psk : Nat → Int32) (ppk : Nat → Int32) (asm : Nat → Int64) (out : Nat → Int64) (p0 : Int32) (p1 : Int32) (p2 : Int32) : Option (Int32 × (Nat → Int64) × (Nat → Int32) × (Nat → Int32) × (Nat → Int64) × (Nat → Int64)) := ((f_X6_cube pcu psk ppk asm p0 p1 p2).bind fun q1 => xSel x_IAE x_ISE q1.1 (some ((1 : Int32), q1.2.1, q1.2.2.1, q1.2.2.2.1, q1.2.2.2.2, out)) (some ((2 : Int32), q1.2.1, q1.2.2.1, q1.2.2.2.1, q1.2.2.2.2, out)) (fun v2 => (if inB (0 : Int32) 1 = true then some ((0 : Int32), q1.2.1, q1.2.2.1, q1.2.2.2.1, q1.2.2.2.2, va_up out (0 : Int32).toNatClampNeg v2.toInt64) else none)))
set_option maxHeartbeats 2000000 in
set_option maxRecDepth 20000 in
theorem c_L_cube {l : Launch} {E : Ex} {n : Nat} {σ : AH} {x b : Nat} (hb : b < x ∨ x + 71 ≤ b) {pss : Nat → Nat → Int64} {pps : Nat → Nat → Int64} {phv : Nat → Nat → Int64} {poo : Nat → Nat → Int64} {pcu : Nat → Int64} {pmm : Nat → Int32} {psk : Nat → Int32} {ppk : Nat → Int32} {pkw : Nat → Int64} {psc : Nat → Int32} {ppn : Nat → Int32} {asm : Nat → Int64} {sur : Int64} {bud : Int32} {wan : Int32} {tri : Int32} {fou : Int32} {en : Int32} {eh : Int32} {cho : Nat → Int64} {at' : Nat → Int32} {pa : Nat → Int32} {mo : Nat → Int32} {le : Nat → Int32} {hd : Nat → Int32} {nt : Nat → Int32} {ct : Int32} {sts6 : Nat → Int64} {blo : Nat → Nat → Int32} {bhi : Nat → Nat → Int32} {bem : Nat → Int32} {glo : Nat → Int32} {ghi : Nat → Int32} {gem : Int32} {rlo : Nat → Int32} {rhi : Nat → Int32} {rem : Int32} {rom : Nat → Int32} {fnd : Nat → Int32} {fc : Int32} {prt : Int32} {lim : Int32} {su : Int64} {op : Int64} {out : Nat → Int64} {p0 : Int32} {p1 : Int32} {p2 : Int32} (hl0 : l.stackTraces = false) (res : (Int32 × (Nat → Int64) × (Nat → Int32) × (Nat → Int32) × (Nat → Int64) × (Nat → Int64))) (hf : f_L_cube pcu psk ppk asm out p0 p1 p2 = some res) : ConE l E yL_cube (.codeWith yL_cube cL_cube 6 (some .int) [(0, 12, 15, 13), (0, 12, 19, 15)] :: TT) ({ frames := 8, cells := 3, slots := 18, locals := 144 } : Room) 3 18 [.ref x, .int p0, .int p1, .int p2, .ref b] (wSh (wA σ b 1 out) x pss pps phv poo pcu pmm psk ppk pkw psc ppn asm sur bud wan tri fou en eh cho at' pa mo le hd nt ct sts6 blo bhi bem glo ghi gem rlo rhi rem rom fnd fc prt lim su op) n (some (.int res.1)) (wSh (wA σ b 1 res.2.2.2.2.2) x pss pps phv poo res.2.1 pmm res.2.2.1 res.2.2.2.1 pkw psc ppn res.2.2.2.2.1 sur bud wan tri fou en eh cho at' pa mo le hd nt ct sts6 blo bhi bem glo ghi gem rlo rhi rem rom fnd fc prt lim su op) := by
  refine conE_intro (by decide +kernel) (Nat.le_of_ble_eq_true rfl) ?_
  intro K C hTb hKR hKL hKE hKN hKQ
  subst hKL
  subst hKE
  have C : Cx K RL "cube" cL_cube (some .int) := C
  show G K 0 0 0 [(0, .ref x), (1, .int p0), (2, .int p1), (3, .int p2), (4, .ref b)] [] (wSh (wA σ b 1 out) x pss pps phv poo pcu pmm psk ppk pkw psc ppn asm sur bud wan tri fou en eh cho at' pa mo le hd nt ct sts6 blo bhi bem glo ghi gem rlo rhi rem rom fnd fc prt lim su op) n
  unfold f_L_cube at hf
  refine g_aload C (q := 4) rfl dL_cube_0 rfl ?_
  refine g_iconst (v := 0) C (by decide) dL_cube_2 rfl ?_
  refine g_aload_n C rfl (q := 0) rfl dL_cube_3 rfl ?_
  refine g_iload_n C rfl (q := 1) rfl dL_cube_4 rfl ?_
  refine g_iload_n C rfl (q := 2) rfl dL_cube_5 rfl ?_
  refine g_iload_n C rfl (q := 3) rfl dL_cube_6 rfl ?_
  obtain ⟨q1, hq1, hf⟩ := bd hf
  rcases xsel hf with ⟨e9, hf⟩ | ⟨e9, hf⟩ | ⟨v2, e9, hf⟩
  · refine g_callXV (st' := [.int (0 : Int32), .ref b]) (as := [.int p0, .int p1, .int p2]) (k := 3) (mc := 3) (ms := 18) (pc' := 10) C ⟨wm_RL_7, wn_X6_cube, wv_X6_cube, wi_RX6, wk_X6_cube, by decide +kernel⟩ rfl (wL_at0 rfl) (c_X6_cube (l := kL K) (E := kE K) hl0 q1 hq1) (by rw [hKR]; exact ⟨rfl, rfl, ⟨by decide, by decide⟩, by decide, by decide⟩) rfl rfl (by simp [Value.category]) dL_cube_7 rfl (fun v e => absurd e (by rw [e9]; simp [xrI])) (fun X e => ?_)
    have e : (Sum.inl x_IAE : String ⊕ Option Value) = .inl X := by rw [e9] at e; exact e
    cases e
    refine xcat1 C hTb (Or.inl rfl) (by decide) (by decide) wl_RL_13 (fun q9 n => ?_)
    show G K 3 18 15 [(0, .ref x), (1, .int p0), (2, .int p1), (3, .int p2), (4, .ref b)] [.ref q9] (wSh (wA σ b 1 out) x pss pps phv poo q1.2.1 pmm q1.2.2.1 q1.2.2.2.1 pkw psc ppn q1.2.2.2.2 sur bud wan tri fou en eh cho at' pa mo le hd nt ct sts6 blo bhi bem glo ghi gem rlo rhi rem rom fnd fc prt lim su op) n
    refine g_astore (i := 5) (lv' := [(5, .ref q9), (0, .ref x), (1, .int p0), (2, .int p1), (3, .int p2), (4, .ref b)]) C dL_cube_15 rfl (by rw [hKN]; decide) rfl ?_
    refine g_iconst (v := 1) C (by decide) dL_cube_17 rfl ?_
    obtain rfl := Option.some.inj hf
    exact g_eiret C hKQ (by decide) (by decide) dL_cube_18
  · refine g_callXV (st' := [.int (0 : Int32), .ref b]) (as := [.int p0, .int p1, .int p2]) (k := 3) (mc := 3) (ms := 18) (pc' := 10) C ⟨wm_RL_7, wn_X6_cube, wv_X6_cube, wi_RX6, wk_X6_cube, by decide +kernel⟩ rfl (wL_at0 rfl) (c_X6_cube (l := kL K) (E := kE K) hl0 q1 hq1) (by rw [hKR]; exact ⟨rfl, rfl, ⟨by decide, by decide⟩, by decide, by decide⟩) rfl rfl (by simp [Value.category]) dL_cube_7 rfl (fun v e => absurd e (by rw [e9]; simp [xrI])) (fun X e => ?_)
    have e : (Sum.inl x_ISE : String ⊕ Option Value) = .inl X := by rw [e9] at e; exact e
    cases e
    refine xcat2 C hTb (Or.inl rfl) (by decide) (by decide) (by decide) wl_RL_13 wl_RL_15 (fun q9 n => ?_)
    show G K 3 18 19 [(0, .ref x), (1, .int p0), (2, .int p1), (3, .int p2), (4, .ref b)] [.ref q9] (wSh (wA σ b 1 out) x pss pps phv poo q1.2.1 pmm q1.2.2.1 q1.2.2.2.1 pkw psc ppn q1.2.2.2.2 sur bud wan tri fou en eh cho at' pa mo le hd nt ct sts6 blo bhi bem glo ghi gem rlo rhi rem rom fnd fc prt lim su op) n
    refine g_astore (i := 5) (lv' := [(5, .ref q9), (0, .ref x), (1, .int p0), (2, .int p1), (3, .int p2), (4, .ref b)]) C dL_cube_19 rfl (by rw [hKN]; decide) rfl ?_
    refine g_iconst (v := 2) C (by decide) dL_cube_21 rfl ?_
    obtain rfl := Option.some.inj hf
    exact g_eiret C hKQ (by decide) (by decide) dL_cube_22
  · refine g_callXV (st' := [.int (0 : Int32), .ref b]) (as := [.int p0, .int p1, .int p2]) (k := 3) (mc := 3) (ms := 18) (pc' := 10) C ⟨wm_RL_7, wn_X6_cube, wv_X6_cube, wi_RX6, wk_X6_cube, by decide +kernel⟩ rfl (wL_at0 rfl) (c_X6_cube (l := kL K) (E := kE K) hl0 q1 hq1) (by rw [hKR]; exact ⟨rfl, rfl, ⟨by decide, by decide⟩, by decide, by decide⟩) rfl rfl (by simp [Value.category]) dL_cube_7 rfl (fun v e => ?_) (fun X e => absurd e (by rw [e9]; simp [xrI]))
    have e : (Sum.inr (some (.int v2)) : String ⊕ Option Value) = .inr v := by rw [e9] at e; exact e
    cases e
    show G K 3 18 10 [(0, .ref x), (1, .int p0), (2, .int p1), (3, .int p2), (4, .ref b)] [.int v2, .int (0 : Int32), .ref b] (wSh (wA σ b 1 out) x pss pps phv poo q1.2.1 pmm q1.2.2.1 q1.2.2.2.1 pkw psc ppn q1.2.2.2.2 sur bud wan tri fou en eh cho at' pa mo le hd nt ct sts6 blo bhi bem glo ghi gem rlo rhi rem rom fnd fc prt lim su op) n
    refine g_i2l C dL_cube_10 rfl ?_
    obtain ⟨g3, hf⟩ := gd hf
    refine g_last (h' := (wSh (wA σ b 1 (va_up out (0 : Int32).toNatClampNeg v2.toInt64)) x pss pps phv poo q1.2.1 pmm q1.2.2.1 q1.2.2.2.1 pkw psc ppn q1.2.2.2.2 sur bud wan tri fou en eh cho at' pa mo le hd nt ct sts6 blo bhi bem glo ghi gem rlo rhi rem rom fnd fc prt lim su op)) C ((wL_out (by show _ ∨ _ + 71 ≤ _; omega)).trans (wL_at0 rfl)) (inB_in g3) (lw_up hb) dL_cube_11 rfl ?_
    refine g_goto (pc' := 23) C dL_cube_12 (by decide) ?_
    refine g_iconst (v := 0) C (by decide) dL_cube_23 rfl ?_
    obtain rfl := Option.some.inj hf
    exact g_eiret C hKQ (by decide) (by decide) dL_cube_24
def f_L_mirror (pmm : Nat → Int32) (psk : Nat → Int32) (ppk : Nat → Int32) (p0 : Int32) (p1 : Int32) : Option (Int32 × (Nat → Int32) × (Nat → Int32) × (Nat → Int32)) := ((f_X6_mirror pmm psk ppk p0 p1).bind fun q1 => xSel x_IAE "" q1.1 (some ((1 : Int32), q1.2.1, q1.2.2.1, q1.2.2.2)) none (fun v2 => some ((0 : Int32), q1.2.1, q1.2.2.1, q1.2.2.2)))
set_option maxHeartbeats 2000000 in
set_option maxRecDepth 20000 in
theorem c_L_mirror {l : Launch} {E : Ex} {n : Nat} {σ : AH} {x b : Nat} (hb : b < x ∨ x + 71 ≤ b) {pss : Nat → Nat → Int64} {pps : Nat → Nat → Int64} {phv : Nat → Nat → Int64} {poo : Nat → Nat → Int64} {pcu : Nat → Int64} {pmm : Nat → Int32} {psk : Nat → Int32} {ppk : Nat → Int32} {pkw : Nat → Int64} {psc : Nat → Int32} {ppn : Nat → Int32} {asm : Nat → Int64} {sur : Int64} {bud : Int32} {wan : Int32} {tri : Int32} {fou : Int32} {en : Int32} {eh : Int32} {cho : Nat → Int64} {at' : Nat → Int32} {pa : Nat → Int32} {mo : Nat → Int32} {le : Nat → Int32} {hd : Nat → Int32} {nt : Nat → Int32} {ct : Int32} {sts6 : Nat → Int64} {blo : Nat → Nat → Int32} {bhi : Nat → Nat → Int32} {bem : Nat → Int32} {glo : Nat → Int32} {ghi : Nat → Int32} {gem : Int32} {rlo : Nat → Int32} {rhi : Nat → Int32} {rem : Int32} {rom : Nat → Int32} {fnd : Nat → Int32} {fc : Int32} {prt : Int32} {lim : Int32} {su : Int64} {op : Int64} {out : Nat → Int64} {p0 : Int32} {p1 : Int32} (hl0 : l.stackTraces = false) (res : (Int32 × (Nat → Int32) × (Nat → Int32) × (Nat → Int32))) (hf : f_L_mirror pmm psk ppk p0 p1 = some res) : ConE l E yL_mirror (.codeWith yL_mirror cL_mirror 4 (some .int) [(0, 6, 9, 13)] :: TT) ({ frames := 8, cells := 2, slots := 12, locals := 142 } : Room) 2 12 [.ref x, .int p0, .int p1] (wSh (wA σ b 1 out) x pss pps phv poo pcu pmm psk ppk pkw psc ppn asm sur bud wan tri fou en eh cho at' pa mo le hd nt ct sts6 blo bhi bem glo ghi gem rlo rhi rem rom fnd fc prt lim su op) n (some (.int res.1)) (wSh (wA σ b 1 out) x pss pps phv poo pcu res.2.1 res.2.2.1 res.2.2.2 pkw psc ppn asm sur bud wan tri fou en eh cho at' pa mo le hd nt ct sts6 blo bhi bem glo ghi gem rlo rhi rem rom fnd fc prt lim su op) := by
  refine conE_intro (by decide +kernel) (Nat.le_of_ble_eq_true rfl) ?_
  intro K C hTb hKR hKL hKE hKN hKQ
  subst hKL
  subst hKE
  have C : Cx K RL "mirror" cL_mirror (some .int) := C
  show G K 0 0 0 [(0, .ref x), (1, .int p0), (2, .int p1)] [] (wSh (wA σ b 1 out) x pss pps phv poo pcu pmm psk ppk pkw psc ppn asm sur bud wan tri fou en eh cho at' pa mo le hd nt ct sts6 blo bhi bem glo ghi gem rlo rhi rem rom fnd fc prt lim su op) n
  unfold f_L_mirror at hf
  refine g_aload_n C rfl (q := 0) rfl dL_mirror_0 rfl ?_
  refine g_iload_n C rfl (q := 1) rfl dL_mirror_1 rfl ?_
  refine g_iload_n C rfl (q := 2) rfl dL_mirror_2 rfl ?_
  obtain ⟨q1, hq1, hf⟩ := bd hf
  rcases xsel hf with ⟨e9, hf⟩ | ⟨e9, hf⟩ | ⟨v2, e9, hf⟩
  · refine g_callXV (st' := []) (as := [.int p0, .int p1]) (k := 2) (mc := 2) (ms := 12) (pc' := 6) C ⟨wm_RL_17, wn_X6_mirror, wv_X6_mirror, wi_RX6, wk_X6_mirror, by decide +kernel⟩ rfl (wL_at0 rfl) (c_X6_mirror (l := kL K) (E := kE K) hl0 q1 hq1) (by rw [hKR]; exact ⟨rfl, rfl, ⟨by decide, by decide⟩, by decide, by decide⟩) rfl rfl (by simp) dL_mirror_3 rfl (fun v e => absurd e (by rw [e9]; simp [xrV])) (fun X e => ?_)
    have e : (Sum.inl x_IAE : String ⊕ Option Value) = .inl X := by rw [e9] at e; exact e
    cases e
    refine xcat1 C hTb (Or.inl rfl) (by decide) (by decide) wl_RL_13 (fun q9 n => ?_)
    show G K 2 12 9 [(0, .ref x), (1, .int p0), (2, .int p1)] [.ref q9] (wSh (wA σ b 1 out) x pss pps phv poo pcu q1.2.1 q1.2.2.1 q1.2.2.2 pkw psc ppn asm sur bud wan tri fou en eh cho at' pa mo le hd nt ct sts6 blo bhi bem glo ghi gem rlo rhi rem rom fnd fc prt lim su op) n
    refine g_astore_n (i := 3) (lv' := [(3, .ref q9), (0, .ref x), (1, .int p0), (2, .int p1)]) C dL_mirror_9 rfl rfl (by rw [hKN]; decide) rfl ?_
    refine g_iconst (v := 1) C (by decide) dL_mirror_10 rfl ?_
    obtain rfl := Option.some.inj hf
    exact g_eiret C hKQ (by decide) (by decide) dL_mirror_11
  · exact absurd hf (by simp)
  · refine g_callXV (st' := []) (as := [.int p0, .int p1]) (k := 2) (mc := 2) (ms := 12) (pc' := 6) C ⟨wm_RL_17, wn_X6_mirror, wv_X6_mirror, wi_RX6, wk_X6_mirror, by decide +kernel⟩ rfl (wL_at0 rfl) (c_X6_mirror (l := kL K) (E := kE K) hl0 q1 hq1) (by rw [hKR]; exact ⟨rfl, rfl, ⟨by decide, by decide⟩, by decide, by decide⟩) rfl rfl (by simp) dL_mirror_3 rfl (fun v e => ?_) (fun X e => absurd e (by rw [e9]; simp [xrV]))
    have e : (Sum.inr (none) : String ⊕ Option Value) = .inr v := by rw [e9] at e; exact e
    cases e
    show G K 2 12 6 [(0, .ref x), (1, .int p0), (2, .int p1)] [] (wSh (wA σ b 1 out) x pss pps phv poo pcu q1.2.1 q1.2.2.1 q1.2.2.2 pkw psc ppn asm sur bud wan tri fou en eh cho at' pa mo le hd nt ct sts6 blo bhi bem glo ghi gem rlo rhi rem rom fnd fc prt lim su op) n
    refine g_goto (pc' := 12) C dL_mirror_6 (by decide) ?_
    refine g_iconst (v := 0) C (by decide) dL_mirror_12 rfl ?_
    obtain rfl := Option.some.inj hf
    exact g_eiret C hKQ (by decide) (by decide) dL_mirror_13
def f_L_shapes (fu : Nat) (pss : Nat → Nat → Int64) (pcu : Nat → Int64) (pmm : Nat → Int32) (psk : Nat → Int32) (psc : Nat → Int32) (out : Nat → Int64) (p0 : Int32) : Option (Int32 × (Nat → Nat → Int64) × (Nat → Int32) × (Nat → Int32) × (Nat → Int64)) := ((f_X6_shapes fu pss pcu pmm psk psc p0).bind fun q1 => xSel x_IAE "" q1.1 (some ((1 : Int32), q1.2.1, q1.2.2.1, q1.2.2.2, out)) none (fun v2 => (if inB (0 : Int32) 1 = true then some ((0 : Int32), q1.2.1, q1.2.2.1, q1.2.2.2, va_up out (0 : Int32).toNatClampNeg v2.toInt64) else none)))
set_option maxHeartbeats 2000000 in
set_option maxRecDepth 20000 in
theorem c_L_shapes {l : Launch} {E : Ex} {n : Nat} {σ : AH} {x b : Nat} (hb : b < x ∨ x + 71 ≤ b) {pss : Nat → Nat → Int64} {pps : Nat → Nat → Int64} {phv : Nat → Nat → Int64} {poo : Nat → Nat → Int64} {pcu : Nat → Int64} {pmm : Nat → Int32} {psk : Nat → Int32} {ppk : Nat → Int32} {pkw : Nat → Int64} {psc : Nat → Int32} {ppn : Nat → Int32} {asm : Nat → Int64} {sur : Int64} {bud : Int32} {wan : Int32} {tri : Int32} {fou : Int32} {en : Int32} {eh : Int32} {cho : Nat → Int64} {at' : Nat → Int32} {pa : Nat → Int32} {mo : Nat → Int32} {le : Nat → Int32} {hd : Nat → Int32} {nt : Nat → Int32} {ct : Int32} {sts6 : Nat → Int64} {blo : Nat → Nat → Int32} {bhi : Nat → Nat → Int32} {bem : Nat → Int32} {glo : Nat → Int32} {ghi : Nat → Int32} {gem : Int32} {rlo : Nat → Int32} {rhi : Nat → Int32} {rem : Int32} {rom : Nat → Int32} {fnd : Nat → Int32} {fc : Int32} {prt : Int32} {lim : Int32} {su : Int64} {op : Int64} {out : Nat → Int64} {p0 : Int32} {fu : Nat} (hl0 : l.stackTraces = false) (res : (Int32 × (Nat → Nat → Int64) × (Nat → Int32) × (Nat → Int32) × (Nat → Int64))) (hf : f_L_shapes fu pss pcu pmm psk psc out p0 = some res) : ConE l E yL_shapes (.codeWith yL_shapes cL_shapes 4 (some .int) [(0, 9, 12, 13)] :: TT) ({ frames := 8, cells := 2, slots := 12, locals := 141 } : Room) 2 12 [.ref x, .int p0, .ref b] (wSh (wA σ b 1 out) x pss pps phv poo pcu pmm psk ppk pkw psc ppn asm sur bud wan tri fou en eh cho at' pa mo le hd nt ct sts6 blo bhi bem glo ghi gem rlo rhi rem rom fnd fc prt lim su op) n (some (.int res.1)) (wSh (wA σ b 1 res.2.2.2.2) x res.2.1 pps phv poo pcu pmm res.2.2.1 ppk pkw res.2.2.2.1 ppn asm sur bud wan tri fou en eh cho at' pa mo le hd nt ct sts6 blo bhi bem glo ghi gem rlo rhi rem rom fnd fc prt lim su op) := by
  refine conE_intro (by decide +kernel) (Nat.le_of_ble_eq_true rfl) ?_
  intro K C hTb hKR hKL hKE hKN hKQ
  subst hKL
  subst hKE
  have C : Cx K RL "shapes" cL_shapes (some .int) := C
  show G K 0 0 0 [(0, .ref x), (1, .int p0), (2, .ref b)] [] (wSh (wA σ b 1 out) x pss pps phv poo pcu pmm psk ppk pkw psc ppn asm sur bud wan tri fou en eh cho at' pa mo le hd nt ct sts6 blo bhi bem glo ghi gem rlo rhi rem rom fnd fc prt lim su op) n
  unfold f_L_shapes at hf
  refine g_aload_n C rfl (q := 2) rfl dL_shapes_0 rfl ?_
  refine g_iconst (v := 0) C (by decide) dL_shapes_1 rfl ?_
  refine g_aload_n C rfl (q := 0) rfl dL_shapes_2 rfl ?_
  refine g_iload_n C rfl (q := 1) rfl dL_shapes_3 rfl ?_
  obtain ⟨q1, hq1, hf⟩ := bd hf
  rcases xsel hf with ⟨e9, hf⟩ | ⟨e9, hf⟩ | ⟨v2, e9, hf⟩
  · refine g_callXV (st' := [.int (0 : Int32), .ref b]) (as := [.int p0]) (k := 1) (mc := 2) (ms := 12) (pc' := 7) C ⟨wm_RL_21, wn_X6_shapes, wv_X6_shapes, wi_RX6, wk_X6_shapes, by decide +kernel⟩ rfl (wL_at0 rfl) (c_X6_shapes (l := kL K) (E := kE K) hl0 q1 hq1) (by rw [hKR]; exact ⟨rfl, rfl, ⟨by decide, by decide⟩, by decide, by decide⟩) rfl rfl (by simp [Value.category]) dL_shapes_4 rfl (fun v e => absurd e (by rw [e9]; simp [xrI])) (fun X e => ?_)
    have e : (Sum.inl x_IAE : String ⊕ Option Value) = .inl X := by rw [e9] at e; exact e
    cases e
    refine xcat1 C hTb (Or.inl rfl) (by decide) (by decide) wl_RL_13 (fun q9 n => ?_)
    show G K 2 12 12 [(0, .ref x), (1, .int p0), (2, .ref b)] [.ref q9] (wSh (wA σ b 1 out) x q1.2.1 pps phv poo pcu pmm q1.2.2.1 ppk pkw q1.2.2.2 ppn asm sur bud wan tri fou en eh cho at' pa mo le hd nt ct sts6 blo bhi bem glo ghi gem rlo rhi rem rom fnd fc prt lim su op) n
    refine g_astore_n (i := 3) (lv' := [(3, .ref q9), (0, .ref x), (1, .int p0), (2, .ref b)]) C dL_shapes_12 rfl rfl (by rw [hKN]; decide) rfl ?_
    refine g_iconst (v := 1) C (by decide) dL_shapes_13 rfl ?_
    obtain rfl := Option.some.inj hf
    exact g_eiret C hKQ (by decide) (by decide) dL_shapes_14
  · exact absurd hf (by simp)
  · refine g_callXV (st' := [.int (0 : Int32), .ref b]) (as := [.int p0]) (k := 1) (mc := 2) (ms := 12) (pc' := 7) C ⟨wm_RL_21, wn_X6_shapes, wv_X6_shapes, wi_RX6, wk_X6_shapes, by decide +kernel⟩ rfl (wL_at0 rfl) (c_X6_shapes (l := kL K) (E := kE K) hl0 q1 hq1) (by rw [hKR]; exact ⟨rfl, rfl, ⟨by decide, by decide⟩, by decide, by decide⟩) rfl rfl (by simp [Value.category]) dL_shapes_4 rfl (fun v e => ?_) (fun X e => absurd e (by rw [e9]; simp [xrI]))
    have e : (Sum.inr (some (.int v2)) : String ⊕ Option Value) = .inr v := by rw [e9] at e; exact e
    cases e
    show G K 2 12 7 [(0, .ref x), (1, .int p0), (2, .ref b)] [.int v2, .int (0 : Int32), .ref b] (wSh (wA σ b 1 out) x q1.2.1 pps phv poo pcu pmm q1.2.2.1 ppk pkw q1.2.2.2 ppn asm sur bud wan tri fou en eh cho at' pa mo le hd nt ct sts6 blo bhi bem glo ghi gem rlo rhi rem rom fnd fc prt lim su op) n
    refine g_i2l C dL_shapes_7 rfl ?_
    obtain ⟨g3, hf⟩ := gd hf
    refine g_last (h' := (wSh (wA σ b 1 (va_up out (0 : Int32).toNatClampNeg v2.toInt64)) x q1.2.1 pps phv poo pcu pmm q1.2.2.1 ppk pkw q1.2.2.2 ppn asm sur bud wan tri fou en eh cho at' pa mo le hd nt ct sts6 blo bhi bem glo ghi gem rlo rhi rem rom fnd fc prt lim su op)) C ((wL_out (by show _ ∨ _ + 71 ≤ _; omega)).trans (wL_at0 rfl)) (inB_in g3) (lw_up hb) dL_shapes_8 rfl ?_
    refine g_goto (pc' := 15) C dL_shapes_9 (by decide) ?_
    refine g_iconst (v := 0) C (by decide) dL_shapes_15 rfl ?_
    obtain rfl := Option.some.inj hf
    exact g_eiret C hKQ (by decide) (by decide) dL_shapes_16
def f_L_shape (fu : Nat) (pss : Nat → Nat → Int64) (pcu : Nat → Int64) (pmm : Nat → Int32) (psk : Nat → Int32) (psc : Nat → Int32) (out : Nat → Int64) (p0 : Int32) (p1 : Int32) : Option (Int32 × (Nat → Nat → Int64) × (Nat → Int32) × (Nat → Int32) × (Nat → Int64)) := ((f_X6_shape fu pss pcu pmm psk psc p0 p1).bind fun q1 => xSel x_IAE x_IOB q1.1 (some ((1 : Int32), q1.2.1, q1.2.2.1, q1.2.2.2, out)) (some ((2 : Int32), q1.2.1, q1.2.2.1, q1.2.2.2, out)) (fun v2 => (if inB (0 : Int32) 1 = true then some ((0 : Int32), q1.2.1, q1.2.2.1, q1.2.2.2, va_up out (0 : Int32).toNatClampNeg v2) else none)))
set_option maxHeartbeats 2000000 in
set_option maxRecDepth 20000 in
theorem c_L_shape {l : Launch} {E : Ex} {n : Nat} {σ : AH} {x b : Nat} (hb : b < x ∨ x + 71 ≤ b) {pss : Nat → Nat → Int64} {pps : Nat → Nat → Int64} {phv : Nat → Nat → Int64} {poo : Nat → Nat → Int64} {pcu : Nat → Int64} {pmm : Nat → Int32} {psk : Nat → Int32} {ppk : Nat → Int32} {pkw : Nat → Int64} {psc : Nat → Int32} {ppn : Nat → Int32} {asm : Nat → Int64} {sur : Int64} {bud : Int32} {wan : Int32} {tri : Int32} {fou : Int32} {en : Int32} {eh : Int32} {cho : Nat → Int64} {at' : Nat → Int32} {pa : Nat → Int32} {mo : Nat → Int32} {le : Nat → Int32} {hd : Nat → Int32} {nt : Nat → Int32} {ct : Int32} {sts6 : Nat → Int64} {blo : Nat → Nat → Int32} {bhi : Nat → Nat → Int32} {bem : Nat → Int32} {glo : Nat → Int32} {ghi : Nat → Int32} {gem : Int32} {rlo : Nat → Int32} {rhi : Nat → Int32} {rem : Int32} {rom : Nat → Int32} {fnd : Nat → Int32} {fc : Int32} {prt : Int32} {lim : Int32} {su : Int64} {op : Int64} {out : Nat → Int64} {p0 : Int32} {p1 : Int32} {fu : Nat} (hl0 : l.stackTraces = false) (res : (Int32 × (Nat → Nat → Int64) × (Nat → Int32) × (Nat → Int32) × (Nat → Int64))) (hf : f_L_shape fu pss pcu pmm psk psc out p0 p1 = some res) : ConE l E yL_shape (.codeWith yL_shape cL_shape 5 (some .int) [(0, 9, 12, 13), (0, 9, 16, 29)] :: TT) ({ frames := 8, cells := 2, slots := 12, locals := 142 } : Room) 2 12 [.ref x, .int p0, .int p1, .ref b] (wSh (wA σ b 1 out) x pss pps phv poo pcu pmm psk ppk pkw psc ppn asm sur bud wan tri fou en eh cho at' pa mo le hd nt ct sts6 blo bhi bem glo ghi gem rlo rhi rem rom fnd fc prt lim su op) n (some (.int res.1)) (wSh (wA σ b 1 res.2.2.2.2) x res.2.1 pps phv poo pcu pmm res.2.2.1 ppk pkw res.2.2.2.1 ppn asm sur bud wan tri fou en eh cho at' pa mo le hd nt ct sts6 blo bhi bem glo ghi gem rlo rhi rem rom fnd fc prt lim su op) := by
  refine conE_intro (by decide +kernel) (Nat.le_of_ble_eq_true rfl) ?_
  intro K C hTb hKR hKL hKE hKN hKQ
  subst hKL
  subst hKE
  have C : Cx K RL "shape" cL_shape (some .int) := C
  show G K 0 0 0 [(0, .ref x), (1, .int p0), (2, .int p1), (3, .ref b)] [] (wSh (wA σ b 1 out) x pss pps phv poo pcu pmm psk ppk pkw psc ppn asm sur bud wan tri fou en eh cho at' pa mo le hd nt ct sts6 blo bhi bem glo ghi gem rlo rhi rem rom fnd fc prt lim su op) n
  unfold f_L_shape at hf
  refine g_aload_n C rfl (q := 3) rfl dL_shape_0 rfl ?_
  refine g_iconst (v := 0) C (by decide) dL_shape_1 rfl ?_
  refine g_aload_n C rfl (q := 0) rfl dL_shape_2 rfl ?_
  refine g_iload_n C rfl (q := 1) rfl dL_shape_3 rfl ?_
  refine g_iload_n C rfl (q := 2) rfl dL_shape_4 rfl ?_
  obtain ⟨q1, hq1, hf⟩ := bd hf
  rcases xsel hf with ⟨e9, hf⟩ | ⟨e9, hf⟩ | ⟨v2, e9, hf⟩
  · refine g_callXV (st' := [.int (0 : Int32), .ref b]) (as := [.int p0, .int p1]) (k := 2) (mc := 2) (ms := 12) (pc' := 8) C ⟨wm_RL_25, wn_X6_shape, wv_X6_shape, wi_RX6, wk_X6_shape, by decide +kernel⟩ rfl (wL_at0 rfl) (c_X6_shape (l := kL K) (E := kE K) hl0 q1 hq1) (by rw [hKR]; exact ⟨rfl, rfl, ⟨by decide, by decide⟩, by decide, by decide⟩) rfl rfl (by simp [Value.category]) dL_shape_5 rfl (fun v e => absurd e (by rw [e9]; simp [xrL])) (fun X e => ?_)
    have e : (Sum.inl x_IAE : String ⊕ Option Value) = .inl X := by rw [e9] at e; exact e
    cases e
    refine xcat1 C hTb (Or.inl rfl) (by decide) (by decide) wl_RL_13 (fun q9 n => ?_)
    show G K 2 12 12 [(0, .ref x), (1, .int p0), (2, .int p1), (3, .ref b)] [.ref q9] (wSh (wA σ b 1 out) x q1.2.1 pps phv poo pcu pmm q1.2.2.1 ppk pkw q1.2.2.2 ppn asm sur bud wan tri fou en eh cho at' pa mo le hd nt ct sts6 blo bhi bem glo ghi gem rlo rhi rem rom fnd fc prt lim su op) n
    refine g_astore (i := 4) (lv' := [(4, .ref q9), (0, .ref x), (1, .int p0), (2, .int p1), (3, .ref b)]) C dL_shape_12 rfl (by rw [hKN]; decide) rfl ?_
    refine g_iconst (v := 1) C (by decide) dL_shape_14 rfl ?_
    obtain rfl := Option.some.inj hf
    exact g_eiret C hKQ (by decide) (by decide) dL_shape_15
  · refine g_callXV (st' := [.int (0 : Int32), .ref b]) (as := [.int p0, .int p1]) (k := 2) (mc := 2) (ms := 12) (pc' := 8) C ⟨wm_RL_25, wn_X6_shape, wv_X6_shape, wi_RX6, wk_X6_shape, by decide +kernel⟩ rfl (wL_at0 rfl) (c_X6_shape (l := kL K) (E := kE K) hl0 q1 hq1) (by rw [hKR]; exact ⟨rfl, rfl, ⟨by decide, by decide⟩, by decide, by decide⟩) rfl rfl (by simp [Value.category]) dL_shape_5 rfl (fun v e => absurd e (by rw [e9]; simp [xrL])) (fun X e => ?_)
    have e : (Sum.inl x_IOB : String ⊕ Option Value) = .inl X := by rw [e9] at e; exact e
    cases e
    refine xcat2 C hTb (Or.inr rfl) (by decide) (by decide) (by decide) wl_RL_13 wl_RL_29 (fun q9 n => ?_)
    show G K 2 12 16 [(0, .ref x), (1, .int p0), (2, .int p1), (3, .ref b)] [.ref q9] (wSh (wA σ b 1 out) x q1.2.1 pps phv poo pcu pmm q1.2.2.1 ppk pkw q1.2.2.2 ppn asm sur bud wan tri fou en eh cho at' pa mo le hd nt ct sts6 blo bhi bem glo ghi gem rlo rhi rem rom fnd fc prt lim su op) n
    refine g_astore (i := 4) (lv' := [(4, .ref q9), (0, .ref x), (1, .int p0), (2, .int p1), (3, .ref b)]) C dL_shape_16 rfl (by rw [hKN]; decide) rfl ?_
    refine g_iconst (v := 2) C (by decide) dL_shape_18 rfl ?_
    obtain rfl := Option.some.inj hf
    exact g_eiret C hKQ (by decide) (by decide) dL_shape_19
  · refine g_callXV (st' := [.int (0 : Int32), .ref b]) (as := [.int p0, .int p1]) (k := 2) (mc := 2) (ms := 12) (pc' := 8) C ⟨wm_RL_25, wn_X6_shape, wv_X6_shape, wi_RX6, wk_X6_shape, by decide +kernel⟩ rfl (wL_at0 rfl) (c_X6_shape (l := kL K) (E := kE K) hl0 q1 hq1) (by rw [hKR]; exact ⟨rfl, rfl, ⟨by decide, by decide⟩, by decide, by decide⟩) rfl rfl (by simp [Value.category]) dL_shape_5 rfl (fun v e => ?_) (fun X e => absurd e (by rw [e9]; simp [xrL]))
    have e : (Sum.inr (some (.long v2)) : String ⊕ Option Value) = .inr v := by rw [e9] at e; exact e
    cases e
    show G K 2 12 8 [(0, .ref x), (1, .int p0), (2, .int p1), (3, .ref b)] [.long v2, .int (0 : Int32), .ref b] (wSh (wA σ b 1 out) x q1.2.1 pps phv poo pcu pmm q1.2.2.1 ppk pkw q1.2.2.2 ppn asm sur bud wan tri fou en eh cho at' pa mo le hd nt ct sts6 blo bhi bem glo ghi gem rlo rhi rem rom fnd fc prt lim su op) n
    obtain ⟨g3, hf⟩ := gd hf
    refine g_last (h' := (wSh (wA σ b 1 (va_up out (0 : Int32).toNatClampNeg v2)) x q1.2.1 pps phv poo pcu pmm q1.2.2.1 ppk pkw q1.2.2.2 ppn asm sur bud wan tri fou en eh cho at' pa mo le hd nt ct sts6 blo bhi bem glo ghi gem rlo rhi rem rom fnd fc prt lim su op)) C ((wL_out (by show _ ∨ _ + 71 ≤ _; omega)).trans (wL_at0 rfl)) (inB_in g3) (lw_up hb) dL_shape_8 rfl ?_
    refine g_goto (pc' := 20) C dL_shape_9 (by decide) ?_
    refine g_iconst (v := 0) C (by decide) dL_shape_20 rfl ?_
    obtain rfl := Option.some.inj hf
    exact g_eiret C hKQ (by decide) (by decide) dL_shape_21
def f_L_target (su : Int64) (op : Int64) (p0 : Int32) (p1 : Int32) : Option (Int32 × Int64 × Int64) := ((f_X6_target su op p0 p1).bind fun q1 => xSel x_IAE "" q1.1 (some ((1 : Int32), q1.2.1, q1.2.2)) none (fun v2 => some ((0 : Int32), q1.2.1, q1.2.2)))
set_option maxHeartbeats 2000000 in
set_option maxRecDepth 20000 in
theorem c_L_target {l : Launch} {E : Ex} {n : Nat} {σ : AH} {x b : Nat} (hb : b < x ∨ x + 71 ≤ b) {pss : Nat → Nat → Int64} {pps : Nat → Nat → Int64} {phv : Nat → Nat → Int64} {poo : Nat → Nat → Int64} {pcu : Nat → Int64} {pmm : Nat → Int32} {psk : Nat → Int32} {ppk : Nat → Int32} {pkw : Nat → Int64} {psc : Nat → Int32} {ppn : Nat → Int32} {asm : Nat → Int64} {sur : Int64} {bud : Int32} {wan : Int32} {tri : Int32} {fou : Int32} {en : Int32} {eh : Int32} {cho : Nat → Int64} {at' : Nat → Int32} {pa : Nat → Int32} {mo : Nat → Int32} {le : Nat → Int32} {hd : Nat → Int32} {nt : Nat → Int32} {ct : Int32} {sts6 : Nat → Int64} {blo : Nat → Nat → Int32} {bhi : Nat → Nat → Int32} {bem : Nat → Int32} {glo : Nat → Int32} {ghi : Nat → Int32} {gem : Int32} {rlo : Nat → Int32} {rhi : Nat → Int32} {rem : Int32} {rom : Nat → Int32} {fnd : Nat → Int32} {fc : Int32} {prt : Int32} {lim : Int32} {su : Int64} {op : Int64} {out : Nat → Int64} {p0 : Int32} {p1 : Int32} (hl0 : l.stackTraces = false) (res : (Int32 × Int64 × Int64)) (hf : f_L_target su op p0 p1 = some res) : ConE l E yL_target (.codeWith yL_target cL_target 4 (some .int) [(0, 6, 9, 13)] :: TT) ({ frames := 8, cells := 2, slots := 12, locals := 144 } : Room) 2 12 [.ref x, .int p0, .int p1] (wSh (wA σ b 1 out) x pss pps phv poo pcu pmm psk ppk pkw psc ppn asm sur bud wan tri fou en eh cho at' pa mo le hd nt ct sts6 blo bhi bem glo ghi gem rlo rhi rem rom fnd fc prt lim su op) n (some (.int res.1)) (wSh (wA σ b 1 out) x pss pps phv poo pcu pmm psk ppk pkw psc ppn asm sur bud wan tri fou en eh cho at' pa mo le hd nt ct sts6 blo bhi bem glo ghi gem rlo rhi rem rom fnd fc prt lim res.2.1 res.2.2) := by
  refine conE_intro (by decide +kernel) (Nat.le_of_ble_eq_true rfl) ?_
  intro K C hTb hKR hKL hKE hKN hKQ
  subst hKL
  subst hKE
  have C : Cx K RL "target" cL_target (some .int) := C
  show G K 0 0 0 [(0, .ref x), (1, .int p0), (2, .int p1)] [] (wSh (wA σ b 1 out) x pss pps phv poo pcu pmm psk ppk pkw psc ppn asm sur bud wan tri fou en eh cho at' pa mo le hd nt ct sts6 blo bhi bem glo ghi gem rlo rhi rem rom fnd fc prt lim su op) n
  unfold f_L_target at hf
  refine g_aload_n C rfl (q := 0) rfl dL_target_0 rfl ?_
  refine g_iload_n C rfl (q := 1) rfl dL_target_1 rfl ?_
  refine g_iload_n C rfl (q := 2) rfl dL_target_2 rfl ?_
  obtain ⟨q1, hq1, hf⟩ := bd hf
  rcases xsel hf with ⟨e9, hf⟩ | ⟨e9, hf⟩ | ⟨v2, e9, hf⟩
  · refine g_callXV (st' := []) (as := [.int p0, .int p1]) (k := 2) (mc := 2) (ms := 12) (pc' := 6) C ⟨wm_RL_31, wn_X6_target, wv_X6_target, wi_RX6, wk_X6_target, by decide +kernel⟩ rfl (wL_at0 rfl) (c_X6_target (l := kL K) (E := kE K) hl0 q1 hq1) (by rw [hKR]; exact ⟨rfl, rfl, ⟨by decide, by decide⟩, by decide, by decide⟩) rfl rfl (by simp) dL_target_3 rfl (fun v e => absurd e (by rw [e9]; simp [xrV])) (fun X e => ?_)
    have e : (Sum.inl x_IAE : String ⊕ Option Value) = .inl X := by rw [e9] at e; exact e
    cases e
    refine xcat1 C hTb (Or.inl rfl) (by decide) (by decide) wl_RL_13 (fun q9 n => ?_)
    show G K 2 12 9 [(0, .ref x), (1, .int p0), (2, .int p1)] [.ref q9] (wSh (wA σ b 1 out) x pss pps phv poo pcu pmm psk ppk pkw psc ppn asm sur bud wan tri fou en eh cho at' pa mo le hd nt ct sts6 blo bhi bem glo ghi gem rlo rhi rem rom fnd fc prt lim q1.2.1 q1.2.2) n
    refine g_astore_n (i := 3) (lv' := [(3, .ref q9), (0, .ref x), (1, .int p0), (2, .int p1)]) C dL_target_9 rfl rfl (by rw [hKN]; decide) rfl ?_
    refine g_iconst (v := 1) C (by decide) dL_target_10 rfl ?_
    obtain rfl := Option.some.inj hf
    exact g_eiret C hKQ (by decide) (by decide) dL_target_11
  · exact absurd hf (by simp)
  · refine g_callXV (st' := []) (as := [.int p0, .int p1]) (k := 2) (mc := 2) (ms := 12) (pc' := 6) C ⟨wm_RL_31, wn_X6_target, wv_X6_target, wi_RX6, wk_X6_target, by decide +kernel⟩ rfl (wL_at0 rfl) (c_X6_target (l := kL K) (E := kE K) hl0 q1 hq1) (by rw [hKR]; exact ⟨rfl, rfl, ⟨by decide, by decide⟩, by decide, by decide⟩) rfl rfl (by simp) dL_target_3 rfl (fun v e => ?_) (fun X e => absurd e (by rw [e9]; simp [xrV]))
    have e : (Sum.inr (none) : String ⊕ Option Value) = .inr v := by rw [e9] at e; exact e
    cases e
    show G K 2 12 6 [(0, .ref x), (1, .int p0), (2, .int p1)] [] (wSh (wA σ b 1 out) x pss pps phv poo pcu pmm psk ppk pkw psc ppn asm sur bud wan tri fou en eh cho at' pa mo le hd nt ct sts6 blo bhi bem glo ghi gem rlo rhi rem rom fnd fc prt lim q1.2.1 q1.2.2) n
    refine g_goto (pc' := 12) C dL_target_6 (by decide) ?_
    refine g_iconst (v := 0) C (by decide) dL_target_12 rfl ?_
    obtain rfl := Option.some.inj hf
    exact g_eiret C hKQ (by decide) (by decide) dL_target_13
def f_L_places (fu : Nat) (pss : Nat → Nat → Int64) (pps : Nat → Nat → Int64) (phv : Nat → Nat → Int64) (poo : Nat → Nat → Int64) (pcu : Nat → Int64) (pmm : Nat → Int32) (psk : Nat → Int32) (ppk : Nat → Int32) (pkw : Nat → Int64) (psc : Nat → Int32) (ppn : Nat → Int32) (su : Int64) (op : Int64) (out : Nat → Int64) (p0 : Int32) : Option (Int32 × (Nat → Nat → Int64) × (Nat → Nat → Int64) × (Nat → Nat → Int64) × (Nat → Nat → Int64) × (Nat → Int32) × (Nat → Int32) × (Nat → Int64) × (Nat → Int32) × (Nat → Int32) × (Nat → Int64)) := ((f_X6_places fu pss pps phv poo pcu pmm psk ppk pkw psc ppn su op p0).bind fun q1 => xSel x_IAE "" q1.1 (some ((1 : Int32), q1.2.1, q1.2.2.1, q1.2.2.2.1, q1.2.2.2.2.1, q1.2.2.2.2.2.1, q1.2.2.2.2.2.2.1, q1.2.2.2.2.2.2.2.1, q1.2.2.2.2.2.2.2.2.1, q1.2.2.2.2.2.2.2.2.2, out)) none (fun v2 => (if inB (0 : Int32) 1 = true then some ((0 : Int32), q1.2.1, q1.2.2.1, q1.2.2.2.1, q1.2.2.2.2.1, q1.2.2.2.2.2.1, q1.2.2.2.2.2.2.1, q1.2.2.2.2.2.2.2.1, q1.2.2.2.2.2.2.2.2.1, q1.2.2.2.2.2.2.2.2.2, va_up out (0 : Int32).toNatClampNeg v2.toInt64) else none)))
set_option maxHeartbeats 2000000 in
set_option maxRecDepth 20000 in
theorem c_L_places {l : Launch} {E : Ex} {n : Nat} {σ : AH} {x b : Nat} (hb : b < x ∨ x + 71 ≤ b) {pss : Nat → Nat → Int64} {pps : Nat → Nat → Int64} {phv : Nat → Nat → Int64} {poo : Nat → Nat → Int64} {pcu : Nat → Int64} {pmm : Nat → Int32} {psk : Nat → Int32} {ppk : Nat → Int32} {pkw : Nat → Int64} {psc : Nat → Int32} {ppn : Nat → Int32} {asm : Nat → Int64} {sur : Int64} {bud : Int32} {wan : Int32} {tri : Int32} {fou : Int32} {en : Int32} {eh : Int32} {cho : Nat → Int64} {at' : Nat → Int32} {pa : Nat → Int32} {mo : Nat → Int32} {le : Nat → Int32} {hd : Nat → Int32} {nt : Nat → Int32} {ct : Int32} {sts6 : Nat → Int64} {blo : Nat → Nat → Int32} {bhi : Nat → Nat → Int32} {bem : Nat → Int32} {glo : Nat → Int32} {ghi : Nat → Int32} {gem : Int32} {rlo : Nat → Int32} {rhi : Nat → Int32} {rem : Int32} {rom : Nat → Int32} {fnd : Nat → Int32} {fc : Int32} {prt : Int32} {lim : Int32} {su : Int64} {op : Int64} {out : Nat → Int64} {p0 : Int32} {fu : Nat} (hl0 : l.stackTraces = false) (res : (Int32 × (Nat → Nat → Int64) × (Nat → Nat → Int64) × (Nat → Nat → Int64) × (Nat → Nat → Int64) × (Nat → Int32) × (Nat → Int32) × (Nat → Int64) × (Nat → Int32) × (Nat → Int32) × (Nat → Int64))) (hf : f_L_places fu pss pps phv poo pcu pmm psk ppk pkw psc ppn su op out p0 = some res) : ConE l E yL_places (.codeWith yL_places cL_places 4 (some .int) [(0, 9, 12, 13)] :: TT) ({ frames := 8, cells := 2, slots := 12, locals := 141 } : Room) 2 12 [.ref x, .int p0, .ref b] (wSh (wA σ b 1 out) x pss pps phv poo pcu pmm psk ppk pkw psc ppn asm sur bud wan tri fou en eh cho at' pa mo le hd nt ct sts6 blo bhi bem glo ghi gem rlo rhi rem rom fnd fc prt lim su op) n (some (.int res.1)) (wSh (wA σ b 1 res.2.2.2.2.2.2.2.2.2.2) x res.2.1 res.2.2.1 res.2.2.2.1 res.2.2.2.2.1 pcu pmm res.2.2.2.2.2.1 res.2.2.2.2.2.2.1 res.2.2.2.2.2.2.2.1 res.2.2.2.2.2.2.2.2.1 res.2.2.2.2.2.2.2.2.2.1 asm sur bud wan tri fou en eh cho at' pa mo le hd nt ct sts6 blo bhi bem glo ghi gem rlo rhi rem rom fnd fc prt lim su op) := by
  refine conE_intro (by decide +kernel) (Nat.le_of_ble_eq_true rfl) ?_
  intro K C hTb hKR hKL hKE hKN hKQ
  subst hKL
  subst hKE
  have C : Cx K RL "places" cL_places (some .int) := C
  show G K 0 0 0 [(0, .ref x), (1, .int p0), (2, .ref b)] [] (wSh (wA σ b 1 out) x pss pps phv poo pcu pmm psk ppk pkw psc ppn asm sur bud wan tri fou en eh cho at' pa mo le hd nt ct sts6 blo bhi bem glo ghi gem rlo rhi rem rom fnd fc prt lim su op) n
  unfold f_L_places at hf
  refine g_aload_n C rfl (q := 2) rfl dL_places_0 rfl ?_
  refine g_iconst (v := 0) C (by decide) dL_places_1 rfl ?_
  refine g_aload_n C rfl (q := 0) rfl dL_places_2 rfl ?_
  refine g_iload_n C rfl (q := 1) rfl dL_places_3 rfl ?_
  obtain ⟨q1, hq1, hf⟩ := bd hf
  rcases xsel hf with ⟨e9, hf⟩ | ⟨e9, hf⟩ | ⟨v2, e9, hf⟩
  · refine g_callXV (st' := [.int (0 : Int32), .ref b]) (as := [.int p0]) (k := 1) (mc := 2) (ms := 12) (pc' := 7) C ⟨wm_RL_35, wn_X6_places, wv_X6_places, wi_RX6, wk_X6_places, by decide +kernel⟩ rfl (wL_at0 rfl) (c_X6_places (l := kL K) (E := kE K) hl0 q1 hq1) (by rw [hKR]; exact ⟨rfl, rfl, ⟨by decide, by decide⟩, by decide, by decide⟩) rfl rfl (by simp [Value.category]) dL_places_4 rfl (fun v e => absurd e (by rw [e9]; simp [xrI])) (fun X e => ?_)
    have e : (Sum.inl x_IAE : String ⊕ Option Value) = .inl X := by rw [e9] at e; exact e
    cases e
    refine xcat1 C hTb (Or.inl rfl) (by decide) (by decide) wl_RL_13 (fun q9 n => ?_)
    show G K 2 12 12 [(0, .ref x), (1, .int p0), (2, .ref b)] [.ref q9] (wSh (wA σ b 1 out) x q1.2.1 q1.2.2.1 q1.2.2.2.1 q1.2.2.2.2.1 pcu pmm q1.2.2.2.2.2.1 q1.2.2.2.2.2.2.1 q1.2.2.2.2.2.2.2.1 q1.2.2.2.2.2.2.2.2.1 q1.2.2.2.2.2.2.2.2.2 asm sur bud wan tri fou en eh cho at' pa mo le hd nt ct sts6 blo bhi bem glo ghi gem rlo rhi rem rom fnd fc prt lim su op) n
    refine g_astore_n (i := 3) (lv' := [(3, .ref q9), (0, .ref x), (1, .int p0), (2, .ref b)]) C dL_places_12 rfl rfl (by rw [hKN]; decide) rfl ?_
    refine g_iconst (v := 1) C (by decide) dL_places_13 rfl ?_
    obtain rfl := Option.some.inj hf
    exact g_eiret C hKQ (by decide) (by decide) dL_places_14
  · exact absurd hf (by simp)
  · refine g_callXV (st' := [.int (0 : Int32), .ref b]) (as := [.int p0]) (k := 1) (mc := 2) (ms := 12) (pc' := 7) C ⟨wm_RL_35, wn_X6_places, wv_X6_places, wi_RX6, wk_X6_places, by decide +kernel⟩ rfl (wL_at0 rfl) (c_X6_places (l := kL K) (E := kE K) hl0 q1 hq1) (by rw [hKR]; exact ⟨rfl, rfl, ⟨by decide, by decide⟩, by decide, by decide⟩) rfl rfl (by simp [Value.category]) dL_places_4 rfl (fun v e => ?_) (fun X e => absurd e (by rw [e9]; simp [xrI]))
    have e : (Sum.inr (some (.int v2)) : String ⊕ Option Value) = .inr v := by rw [e9] at e; exact e
    cases e
    show G K 2 12 7 [(0, .ref x), (1, .int p0), (2, .ref b)] [.int v2, .int (0 : Int32), .ref b] (wSh (wA σ b 1 out) x q1.2.1 q1.2.2.1 q1.2.2.2.1 q1.2.2.2.2.1 pcu pmm q1.2.2.2.2.2.1 q1.2.2.2.2.2.2.1 q1.2.2.2.2.2.2.2.1 q1.2.2.2.2.2.2.2.2.1 q1.2.2.2.2.2.2.2.2.2 asm sur bud wan tri fou en eh cho at' pa mo le hd nt ct sts6 blo bhi bem glo ghi gem rlo rhi rem rom fnd fc prt lim su op) n
    refine g_i2l C dL_places_7 rfl ?_
    obtain ⟨g3, hf⟩ := gd hf
    refine g_last (h' := (wSh (wA σ b 1 (va_up out (0 : Int32).toNatClampNeg v2.toInt64)) x q1.2.1 q1.2.2.1 q1.2.2.2.1 q1.2.2.2.2.1 pcu pmm q1.2.2.2.2.2.1 q1.2.2.2.2.2.2.1 q1.2.2.2.2.2.2.2.1 q1.2.2.2.2.2.2.2.2.1 q1.2.2.2.2.2.2.2.2.2 asm sur bud wan tri fou en eh cho at' pa mo le hd nt ct sts6 blo bhi bem glo ghi gem rlo rhi rem rom fnd fc prt lim su op)) C ((wL_out (by show _ ∨ _ + 71 ≤ _; omega)).trans (wL_at0 rfl)) (inB_in g3) (lw_up hb) dL_places_8 rfl ?_
    refine g_goto (pc' := 15) C dL_places_9 (by decide) ?_
    refine g_iconst (v := 0) C (by decide) dL_places_15 rfl ?_
    obtain rfl := Option.some.inj hf
    exact g_eiret C hKQ (by decide) (by decide) dL_places_16
def f_L_pack (fu : Nat) (pss : Nat → Nat → Int64) (pps : Nat → Nat → Int64) (phv : Nat → Nat → Int64) (poo : Nat → Nat → Int64) (pcu : Nat → Int64) (pmm : Nat → Int32) (psk : Nat → Int32) (ppk : Nat → Int32) (pkw : Nat → Int64) (psc : Nat → Int32) (ppn : Nat → Int32) (sur : Int64) (bud : Int32) (wan : Int32) (tri : Int32) (fou : Int32) (en : Int32) (eh : Int32) (cho : Nat → Int64) (su : Int64) (op : Int64) (out : Nat → Int64) (p0 : Int32) : Option (Int32 × (Nat → Nat → Int64) × (Nat → Nat → Int64) × (Nat → Nat → Int64) × (Nat → Nat → Int64) × (Nat → Int32) × (Nat → Int32) × (Nat → Int64) × (Nat → Int32) × (Nat → Int32) × Int64 × Int32 × Int32 × Int32 × Int32 × Int32 × Int32 × (Nat → Int64) × (Nat → Int64)) := ((f_X6_pack fu pss pps phv poo pcu pmm psk ppk pkw psc ppn sur bud wan tri fou en eh cho su op p0).bind fun q1 => xSel x_IAE "" q1.1 (some ((1 : Int32), q1.2.1, q1.2.2.1, q1.2.2.2.1, q1.2.2.2.2.1, q1.2.2.2.2.2.1, q1.2.2.2.2.2.2.1, q1.2.2.2.2.2.2.2.1, q1.2.2.2.2.2.2.2.2.1, q1.2.2.2.2.2.2.2.2.2.1, q1.2.2.2.2.2.2.2.2.2.2.1, q1.2.2.2.2.2.2.2.2.2.2.2.1, q1.2.2.2.2.2.2.2.2.2.2.2.2.1, q1.2.2.2.2.2.2.2.2.2.2.2.2.2.1, q1.2.2.2.2.2.2.2.2.2.2.2.2.2.2.1, q1.2.2.2.2.2.2.2.2.2.2.2.2.2.2.2.1, q1.2.2.2.2.2.2.2.2.2.2.2.2.2.2.2.2.1, q1.2.2.2.2.2.2.2.2.2.2.2.2.2.2.2.2.2, out)) none (fun v2 => (if inB (0 : Int32) 1 = true then some ((0 : Int32), q1.2.1, q1.2.2.1, q1.2.2.2.1, q1.2.2.2.2.1, q1.2.2.2.2.2.1, q1.2.2.2.2.2.2.1, q1.2.2.2.2.2.2.2.1, q1.2.2.2.2.2.2.2.2.1, q1.2.2.2.2.2.2.2.2.2.1, q1.2.2.2.2.2.2.2.2.2.2.1, q1.2.2.2.2.2.2.2.2.2.2.2.1, q1.2.2.2.2.2.2.2.2.2.2.2.2.1, q1.2.2.2.2.2.2.2.2.2.2.2.2.2.1, q1.2.2.2.2.2.2.2.2.2.2.2.2.2.2.1, q1.2.2.2.2.2.2.2.2.2.2.2.2.2.2.2.1, q1.2.2.2.2.2.2.2.2.2.2.2.2.2.2.2.2.1, q1.2.2.2.2.2.2.2.2.2.2.2.2.2.2.2.2.2, va_up out (0 : Int32).toNatClampNeg v2.toInt64) else none)))
set_option maxHeartbeats 2000000 in
set_option maxRecDepth 20000 in
theorem c_L_pack {l : Launch} {E : Ex} {n : Nat} {σ : AH} {x b : Nat} (hb : b < x ∨ x + 71 ≤ b) {pss : Nat → Nat → Int64} {pps : Nat → Nat → Int64} {phv : Nat → Nat → Int64} {poo : Nat → Nat → Int64} {pcu : Nat → Int64} {pmm : Nat → Int32} {psk : Nat → Int32} {ppk : Nat → Int32} {pkw : Nat → Int64} {psc : Nat → Int32} {ppn : Nat → Int32} {asm : Nat → Int64} {sur : Int64} {bud : Int32} {wan : Int32} {tri : Int32} {fou : Int32} {en : Int32} {eh : Int32} {cho : Nat → Int64} {at' : Nat → Int32} {pa : Nat → Int32} {mo : Nat → Int32} {le : Nat → Int32} {hd : Nat → Int32} {nt : Nat → Int32} {ct : Int32} {sts6 : Nat → Int64} {blo : Nat → Nat → Int32} {bhi : Nat → Nat → Int32} {bem : Nat → Int32} {glo : Nat → Int32} {ghi : Nat → Int32} {gem : Int32} {rlo : Nat → Int32} {rhi : Nat → Int32} {rem : Int32} {rom : Nat → Int32} {fnd : Nat → Int32} {fc : Int32} {prt : Int32} {lim : Int32} {su : Int64} {op : Int64} {out : Nat → Int64} {p0 : Int32} {fu : Nat} (hl0 : l.stackTraces = false) (res : (Int32 × (Nat → Nat → Int64) × (Nat → Nat → Int64) × (Nat → Nat → Int64) × (Nat → Nat → Int64) × (Nat → Int32) × (Nat → Int32) × (Nat → Int64) × (Nat → Int32) × (Nat → Int32) × Int64 × Int32 × Int32 × Int32 × Int32 × Int32 × Int32 × (Nat → Int64) × (Nat → Int64))) (hf : f_L_pack fu pss pps phv poo pcu pmm psk ppk pkw psc ppn sur bud wan tri fou en eh cho su op out p0 = some res) : ConE l E yL_pack (.codeWith yL_pack cL_pack 4 (some .int) [(0, 9, 12, 13)] :: TT) ({ frames := 38, cells := 2, slots := 12, locals := 1477 } : Room) 2 12 [.ref x, .int p0, .ref b] (wSh (wA σ b 1 out) x pss pps phv poo pcu pmm psk ppk pkw psc ppn asm sur bud wan tri fou en eh cho at' pa mo le hd nt ct sts6 blo bhi bem glo ghi gem rlo rhi rem rom fnd fc prt lim su op) n (some (.int res.1)) (wSh (wA σ b 1 res.2.2.2.2.2.2.2.2.2.2.2.2.2.2.2.2.2.2) x res.2.1 res.2.2.1 res.2.2.2.1 res.2.2.2.2.1 pcu pmm res.2.2.2.2.2.1 res.2.2.2.2.2.2.1 res.2.2.2.2.2.2.2.1 res.2.2.2.2.2.2.2.2.1 res.2.2.2.2.2.2.2.2.2.1 asm res.2.2.2.2.2.2.2.2.2.2.1 res.2.2.2.2.2.2.2.2.2.2.2.1 res.2.2.2.2.2.2.2.2.2.2.2.2.1 res.2.2.2.2.2.2.2.2.2.2.2.2.2.1 res.2.2.2.2.2.2.2.2.2.2.2.2.2.2.1 res.2.2.2.2.2.2.2.2.2.2.2.2.2.2.2.1 res.2.2.2.2.2.2.2.2.2.2.2.2.2.2.2.2.1 res.2.2.2.2.2.2.2.2.2.2.2.2.2.2.2.2.2.1 at' pa mo le hd nt ct sts6 blo bhi bem glo ghi gem rlo rhi rem rom fnd fc prt lim su op) := by
  refine conE_intro (by decide +kernel) (Nat.le_of_ble_eq_true rfl) ?_
  intro K C hTb hKR hKL hKE hKN hKQ
  subst hKL
  subst hKE
  have C : Cx K RL "pack" cL_pack (some .int) := C
  show G K 0 0 0 [(0, .ref x), (1, .int p0), (2, .ref b)] [] (wSh (wA σ b 1 out) x pss pps phv poo pcu pmm psk ppk pkw psc ppn asm sur bud wan tri fou en eh cho at' pa mo le hd nt ct sts6 blo bhi bem glo ghi gem rlo rhi rem rom fnd fc prt lim su op) n
  unfold f_L_pack at hf
  refine g_aload_n C rfl (q := 2) rfl dL_pack_0 rfl ?_
  refine g_iconst (v := 0) C (by decide) dL_pack_1 rfl ?_
  refine g_aload_n C rfl (q := 0) rfl dL_pack_2 rfl ?_
  refine g_iload_n C rfl (q := 1) rfl dL_pack_3 rfl ?_
  obtain ⟨q1, hq1, hf⟩ := bd hf
  rcases xsel hf with ⟨e9, hf⟩ | ⟨e9, hf⟩ | ⟨v2, e9, hf⟩
  · refine g_callXV (st' := [.int (0 : Int32), .ref b]) (as := [.int p0]) (k := 1) (mc := 2) (ms := 12) (pc' := 7) C ⟨wm_RL_38, wn_X6_pack, wv_X6_pack, wi_RX6, wk_X6_pack, by decide +kernel⟩ rfl (wL_at0 rfl) (c_X6_pack (l := kL K) (E := kE K) hl0 q1 hq1) (by rw [hKR]; exact ⟨rfl, rfl, ⟨by decide, by decide⟩, by decide, by decide⟩) rfl rfl (by simp [Value.category]) dL_pack_4 rfl (fun v e => absurd e (by rw [e9]; simp [xrI])) (fun X e => ?_)
    have e : (Sum.inl x_IAE : String ⊕ Option Value) = .inl X := by rw [e9] at e; exact e
    cases e
    refine xcat1 C hTb (Or.inl rfl) (by decide) (by decide) wl_RL_13 (fun q9 n => ?_)
    show G K 2 12 12 [(0, .ref x), (1, .int p0), (2, .ref b)] [.ref q9] (wSh (wA σ b 1 out) x q1.2.1 q1.2.2.1 q1.2.2.2.1 q1.2.2.2.2.1 pcu pmm q1.2.2.2.2.2.1 q1.2.2.2.2.2.2.1 q1.2.2.2.2.2.2.2.1 q1.2.2.2.2.2.2.2.2.1 q1.2.2.2.2.2.2.2.2.2.1 asm q1.2.2.2.2.2.2.2.2.2.2.1 q1.2.2.2.2.2.2.2.2.2.2.2.1 q1.2.2.2.2.2.2.2.2.2.2.2.2.1 q1.2.2.2.2.2.2.2.2.2.2.2.2.2.1 q1.2.2.2.2.2.2.2.2.2.2.2.2.2.2.1 q1.2.2.2.2.2.2.2.2.2.2.2.2.2.2.2.1 q1.2.2.2.2.2.2.2.2.2.2.2.2.2.2.2.2.1 q1.2.2.2.2.2.2.2.2.2.2.2.2.2.2.2.2.2 at' pa mo le hd nt ct sts6 blo bhi bem glo ghi gem rlo rhi rem rom fnd fc prt lim su op) n
    refine g_astore_n (i := 3) (lv' := [(3, .ref q9), (0, .ref x), (1, .int p0), (2, .ref b)]) C dL_pack_12 rfl rfl (by rw [hKN]; decide) rfl ?_
    refine g_iconst (v := 1) C (by decide) dL_pack_13 rfl ?_
    obtain rfl := Option.some.inj hf
    exact g_eiret C hKQ (by decide) (by decide) dL_pack_14
  · exact absurd hf (by simp)
  · refine g_callXV (st' := [.int (0 : Int32), .ref b]) (as := [.int p0]) (k := 1) (mc := 2) (ms := 12) (pc' := 7) C ⟨wm_RL_38, wn_X6_pack, wv_X6_pack, wi_RX6, wk_X6_pack, by decide +kernel⟩ rfl (wL_at0 rfl) (c_X6_pack (l := kL K) (E := kE K) hl0 q1 hq1) (by rw [hKR]; exact ⟨rfl, rfl, ⟨by decide, by decide⟩, by decide, by decide⟩) rfl rfl (by simp [Value.category]) dL_pack_4 rfl (fun v e => ?_) (fun X e => absurd e (by rw [e9]; simp [xrI]))
    have e : (Sum.inr (some (.int v2)) : String ⊕ Option Value) = .inr v := by rw [e9] at e; exact e
    cases e
    show G K 2 12 7 [(0, .ref x), (1, .int p0), (2, .ref b)] [.int v2, .int (0 : Int32), .ref b] (wSh (wA σ b 1 out) x q1.2.1 q1.2.2.1 q1.2.2.2.1 q1.2.2.2.2.1 pcu pmm q1.2.2.2.2.2.1 q1.2.2.2.2.2.2.1 q1.2.2.2.2.2.2.2.1 q1.2.2.2.2.2.2.2.2.1 q1.2.2.2.2.2.2.2.2.2.1 asm q1.2.2.2.2.2.2.2.2.2.2.1 q1.2.2.2.2.2.2.2.2.2.2.2.1 q1.2.2.2.2.2.2.2.2.2.2.2.2.1 q1.2.2.2.2.2.2.2.2.2.2.2.2.2.1 q1.2.2.2.2.2.2.2.2.2.2.2.2.2.2.1 q1.2.2.2.2.2.2.2.2.2.2.2.2.2.2.2.1 q1.2.2.2.2.2.2.2.2.2.2.2.2.2.2.2.2.1 q1.2.2.2.2.2.2.2.2.2.2.2.2.2.2.2.2.2 at' pa mo le hd nt ct sts6 blo bhi bem glo ghi gem rlo rhi rem rom fnd fc prt lim su op) n
    refine g_i2l C dL_pack_7 rfl ?_
    obtain ⟨g3, hf⟩ := gd hf
    refine g_last (h' := (wSh (wA σ b 1 (va_up out (0 : Int32).toNatClampNeg v2.toInt64)) x q1.2.1 q1.2.2.1 q1.2.2.2.1 q1.2.2.2.2.1 pcu pmm q1.2.2.2.2.2.1 q1.2.2.2.2.2.2.1 q1.2.2.2.2.2.2.2.1 q1.2.2.2.2.2.2.2.2.1 q1.2.2.2.2.2.2.2.2.2.1 asm q1.2.2.2.2.2.2.2.2.2.2.1 q1.2.2.2.2.2.2.2.2.2.2.2.1 q1.2.2.2.2.2.2.2.2.2.2.2.2.1 q1.2.2.2.2.2.2.2.2.2.2.2.2.2.1 q1.2.2.2.2.2.2.2.2.2.2.2.2.2.2.1 q1.2.2.2.2.2.2.2.2.2.2.2.2.2.2.2.1 q1.2.2.2.2.2.2.2.2.2.2.2.2.2.2.2.2.1 q1.2.2.2.2.2.2.2.2.2.2.2.2.2.2.2.2.2 at' pa mo le hd nt ct sts6 blo bhi bem glo ghi gem rlo rhi rem rom fnd fc prt lim su op)) C ((wL_out (by show _ ∨ _ + 71 ≤ _; omega)).trans (wL_at0 rfl)) (inB_in g3) (lw_up hb) dL_pack_8 rfl ?_
    refine g_goto (pc' := 15) C dL_pack_9 (by decide) ?_
    refine g_iconst (v := 0) C (by decide) dL_pack_15 rfl ?_
    obtain rfl := Option.some.inj hf
    exact g_eiret C hKQ (by decide) (by decide) dL_pack_16
def f_L_assemble (fu : Nat) (pss : Nat → Nat → Int64) (pps : Nat → Nat → Int64) (phv : Nat → Nat → Int64) (poo : Nat → Nat → Int64) (pcu : Nat → Int64) (pmm : Nat → Int32) (psk : Nat → Int32) (ppk : Nat → Int32) (pkw : Nat → Int64) (psc : Nat → Int32) (ppn : Nat → Int32) (asm : Nat → Int64) (sur : Int64) (bud : Int32) (wan : Int32) (tri : Int32) (fou : Int32) (en : Int32) (eh : Int32) (cho : Nat → Int64) (su : Int64) (op : Int64) (out : Nat → Int64) (p0 : Int32) (p1 : Int32) : Option (Int32 × (Nat → Nat → Int64) × (Nat → Nat → Int64) × (Nat → Nat → Int64) × (Nat → Nat → Int64) × (Nat → Int32) × (Nat → Int32) × (Nat → Int64) × (Nat → Int32) × (Nat → Int32) × (Nat → Int64) × Int64 × Int32 × Int32 × Int32 × Int32 × Int32 × Int32 × (Nat → Int64) × (Nat → Int64)) := ((f_X6_assemble fu pss pps phv poo pcu pmm psk ppk pkw psc ppn asm sur bud wan tri fou en eh cho su op p0 p1).bind fun q1 => xSel x_IAE "" q1.1 (some ((1 : Int32), q1.2.1, q1.2.2.1, q1.2.2.2.1, q1.2.2.2.2.1, q1.2.2.2.2.2.1, q1.2.2.2.2.2.2.1, q1.2.2.2.2.2.2.2.1, q1.2.2.2.2.2.2.2.2.1, q1.2.2.2.2.2.2.2.2.2.1, q1.2.2.2.2.2.2.2.2.2.2.1, q1.2.2.2.2.2.2.2.2.2.2.2.1, q1.2.2.2.2.2.2.2.2.2.2.2.2.1, q1.2.2.2.2.2.2.2.2.2.2.2.2.2.1, q1.2.2.2.2.2.2.2.2.2.2.2.2.2.2.1, q1.2.2.2.2.2.2.2.2.2.2.2.2.2.2.2.1, q1.2.2.2.2.2.2.2.2.2.2.2.2.2.2.2.2.1, q1.2.2.2.2.2.2.2.2.2.2.2.2.2.2.2.2.2.1, q1.2.2.2.2.2.2.2.2.2.2.2.2.2.2.2.2.2.2, out)) none (fun v2 => (if inB (0 : Int32) 1 = true then some ((0 : Int32), q1.2.1, q1.2.2.1, q1.2.2.2.1, q1.2.2.2.2.1, q1.2.2.2.2.2.1, q1.2.2.2.2.2.2.1, q1.2.2.2.2.2.2.2.1, q1.2.2.2.2.2.2.2.2.1, q1.2.2.2.2.2.2.2.2.2.1, q1.2.2.2.2.2.2.2.2.2.2.1, q1.2.2.2.2.2.2.2.2.2.2.2.1, q1.2.2.2.2.2.2.2.2.2.2.2.2.1, q1.2.2.2.2.2.2.2.2.2.2.2.2.2.1, q1.2.2.2.2.2.2.2.2.2.2.2.2.2.2.1, q1.2.2.2.2.2.2.2.2.2.2.2.2.2.2.2.1, q1.2.2.2.2.2.2.2.2.2.2.2.2.2.2.2.2.1, q1.2.2.2.2.2.2.2.2.2.2.2.2.2.2.2.2.2.1, q1.2.2.2.2.2.2.2.2.2.2.2.2.2.2.2.2.2.2, va_up out (0 : Int32).toNatClampNeg (if v2 = 0 then (0 : Int64) else (1 : Int64))) else none)))
set_option maxHeartbeats 2000000 in
set_option maxRecDepth 20000 in
theorem c_L_assemble {l : Launch} {E : Ex} {n : Nat} {σ : AH} {x b : Nat} (hb : b < x ∨ x + 71 ≤ b) {pss : Nat → Nat → Int64} {pps : Nat → Nat → Int64} {phv : Nat → Nat → Int64} {poo : Nat → Nat → Int64} {pcu : Nat → Int64} {pmm : Nat → Int32} {psk : Nat → Int32} {ppk : Nat → Int32} {pkw : Nat → Int64} {psc : Nat → Int32} {ppn : Nat → Int32} {asm : Nat → Int64} {sur : Int64} {bud : Int32} {wan : Int32} {tri : Int32} {fou : Int32} {en : Int32} {eh : Int32} {cho : Nat → Int64} {at' : Nat → Int32} {pa : Nat → Int32} {mo : Nat → Int32} {le : Nat → Int32} {hd : Nat → Int32} {nt : Nat → Int32} {ct : Int32} {sts6 : Nat → Int64} {blo : Nat → Nat → Int32} {bhi : Nat → Nat → Int32} {bem : Nat → Int32} {glo : Nat → Int32} {ghi : Nat → Int32} {gem : Int32} {rlo : Nat → Int32} {rhi : Nat → Int32} {rem : Int32} {rom : Nat → Int32} {fnd : Nat → Int32} {fc : Int32} {prt : Int32} {lim : Int32} {su : Int64} {op : Int64} {out : Nat → Int64} {p0 : Int32} {p1 : Int32} {fu : Nat} (hl0 : l.stackTraces = false) (res : (Int32 × (Nat → Nat → Int64) × (Nat → Nat → Int64) × (Nat → Nat → Int64) × (Nat → Nat → Int64) × (Nat → Int32) × (Nat → Int32) × (Nat → Int64) × (Nat → Int32) × (Nat → Int32) × (Nat → Int64) × Int64 × Int32 × Int32 × Int32 × Int32 × Int32 × Int32 × (Nat → Int64) × (Nat → Int64))) (hf : f_L_assemble fu pss pps phv poo pcu pmm psk ppk pkw psc ppn asm sur bud wan tri fou en eh cho su op out p0 p1 = some res) : ConE l E yL_assemble (.codeWith yL_assemble cL_assemble 5 (some .int) [(0, 17, 20, 13)] :: TT) ({ frames := 38, cells := 2, slots := 12, locals := 1479 } : Room) 2 12 [.ref x, .int p0, .int p1, .ref b] (wSh (wA σ b 1 out) x pss pps phv poo pcu pmm psk ppk pkw psc ppn asm sur bud wan tri fou en eh cho at' pa mo le hd nt ct sts6 blo bhi bem glo ghi gem rlo rhi rem rom fnd fc prt lim su op) n (some (.int res.1)) (wSh (wA σ b 1 res.2.2.2.2.2.2.2.2.2.2.2.2.2.2.2.2.2.2.2) x res.2.1 res.2.2.1 res.2.2.2.1 res.2.2.2.2.1 pcu pmm res.2.2.2.2.2.1 res.2.2.2.2.2.2.1 res.2.2.2.2.2.2.2.1 res.2.2.2.2.2.2.2.2.1 res.2.2.2.2.2.2.2.2.2.1 res.2.2.2.2.2.2.2.2.2.2.1 res.2.2.2.2.2.2.2.2.2.2.2.1 res.2.2.2.2.2.2.2.2.2.2.2.2.1 res.2.2.2.2.2.2.2.2.2.2.2.2.2.1 res.2.2.2.2.2.2.2.2.2.2.2.2.2.2.1 res.2.2.2.2.2.2.2.2.2.2.2.2.2.2.2.1 res.2.2.2.2.2.2.2.2.2.2.2.2.2.2.2.2.1 res.2.2.2.2.2.2.2.2.2.2.2.2.2.2.2.2.2.1 res.2.2.2.2.2.2.2.2.2.2.2.2.2.2.2.2.2.2.1 at' pa mo le hd nt ct sts6 blo bhi bem glo ghi gem rlo rhi rem rom fnd fc prt lim su op) := by
  refine conE_intro (by decide +kernel) (Nat.le_of_ble_eq_true rfl) ?_
  intro K C hTb hKR hKL hKE hKN hKQ
  subst hKL
  subst hKE
  have C : Cx K RL "assemble" cL_assemble (some .int) := C
  show G K 0 0 0 [(0, .ref x), (1, .int p0), (2, .int p1), (3, .ref b)] [] (wSh (wA σ b 1 out) x pss pps phv poo pcu pmm psk ppk pkw psc ppn asm sur bud wan tri fou en eh cho at' pa mo le hd nt ct sts6 blo bhi bem glo ghi gem rlo rhi rem rom fnd fc prt lim su op) n
  unfold f_L_assemble at hf
  refine g_aload_n C rfl (q := 3) rfl dL_assemble_0 rfl ?_
  refine g_iconst (v := 0) C (by decide) dL_assemble_1 rfl ?_
  refine g_aload_n C rfl (q := 0) rfl dL_assemble_2 rfl ?_
  refine g_iload_n C rfl (q := 1) rfl dL_assemble_3 rfl ?_
  refine g_iload_n C rfl (q := 2) rfl dL_assemble_4 rfl ?_
  obtain ⟨q1, hq1, hf⟩ := bd hf
  rcases xsel hf with ⟨e9, hf⟩ | ⟨e9, hf⟩ | ⟨v2, e9, hf⟩
  · refine g_callXV (st' := [.int (0 : Int32), .ref b]) (as := [.int p0, .int p1]) (k := 2) (mc := 2) (ms := 12) (pc' := 8) C ⟨wm_RL_41, wn_X6_assemble, wv_X6_assemble, wi_RX6, wk_X6_assemble, by decide +kernel⟩ rfl (wL_at0 rfl) (c_X6_assemble (l := kL K) (E := kE K) hl0 q1 hq1) (by rw [hKR]; exact ⟨rfl, rfl, ⟨by decide, by decide⟩, by decide, by decide⟩) rfl rfl (by simp [Value.category]) dL_assemble_5 rfl (fun v e => absurd e (by rw [e9]; simp [xrI])) (fun X e => ?_)
    have e : (Sum.inl x_IAE : String ⊕ Option Value) = .inl X := by rw [e9] at e; exact e
    cases e
    refine xcat1 C hTb (Or.inl rfl) (by decide) (by decide) wl_RL_13 (fun q9 n => ?_)
    show G K 2 12 20 [(0, .ref x), (1, .int p0), (2, .int p1), (3, .ref b)] [.ref q9] (wSh (wA σ b 1 out) x q1.2.1 q1.2.2.1 q1.2.2.2.1 q1.2.2.2.2.1 pcu pmm q1.2.2.2.2.2.1 q1.2.2.2.2.2.2.1 q1.2.2.2.2.2.2.2.1 q1.2.2.2.2.2.2.2.2.1 q1.2.2.2.2.2.2.2.2.2.1 q1.2.2.2.2.2.2.2.2.2.2.1 q1.2.2.2.2.2.2.2.2.2.2.2.1 q1.2.2.2.2.2.2.2.2.2.2.2.2.1 q1.2.2.2.2.2.2.2.2.2.2.2.2.2.1 q1.2.2.2.2.2.2.2.2.2.2.2.2.2.2.1 q1.2.2.2.2.2.2.2.2.2.2.2.2.2.2.2.1 q1.2.2.2.2.2.2.2.2.2.2.2.2.2.2.2.2.1 q1.2.2.2.2.2.2.2.2.2.2.2.2.2.2.2.2.2.1 q1.2.2.2.2.2.2.2.2.2.2.2.2.2.2.2.2.2.2 at' pa mo le hd nt ct sts6 blo bhi bem glo ghi gem rlo rhi rem rom fnd fc prt lim su op) n
    refine g_astore (i := 4) (lv' := [(4, .ref q9), (0, .ref x), (1, .int p0), (2, .int p1), (3, .ref b)]) C dL_assemble_20 rfl (by rw [hKN]; decide) rfl ?_
    refine g_iconst (v := 1) C (by decide) dL_assemble_22 rfl ?_
    obtain rfl := Option.some.inj hf
    exact g_eiret C hKQ (by decide) (by decide) dL_assemble_23
  · exact absurd hf (by simp)
  · refine g_callXV (st' := [.int (0 : Int32), .ref b]) (as := [.int p0, .int p1]) (k := 2) (mc := 2) (ms := 12) (pc' := 8) C ⟨wm_RL_41, wn_X6_assemble, wv_X6_assemble, wi_RX6, wk_X6_assemble, by decide +kernel⟩ rfl (wL_at0 rfl) (c_X6_assemble (l := kL K) (E := kE K) hl0 q1 hq1) (by rw [hKR]; exact ⟨rfl, rfl, ⟨by decide, by decide⟩, by decide, by decide⟩) rfl rfl (by simp [Value.category]) dL_assemble_5 rfl (fun v e => ?_) (fun X e => absurd e (by rw [e9]; simp [xrI]))
    have e : (Sum.inr (some (.int v2)) : String ⊕ Option Value) = .inr v := by rw [e9] at e; exact e
    cases e
    show G K 2 12 8 [(0, .ref x), (1, .int p0), (2, .int p1), (3, .ref b)] [.int v2, .int (0 : Int32), .ref b] (wSh (wA σ b 1 out) x q1.2.1 q1.2.2.1 q1.2.2.2.1 q1.2.2.2.2.1 pcu pmm q1.2.2.2.2.2.1 q1.2.2.2.2.2.2.1 q1.2.2.2.2.2.2.2.1 q1.2.2.2.2.2.2.2.2.1 q1.2.2.2.2.2.2.2.2.2.1 q1.2.2.2.2.2.2.2.2.2.2.1 q1.2.2.2.2.2.2.2.2.2.2.2.1 q1.2.2.2.2.2.2.2.2.2.2.2.2.1 q1.2.2.2.2.2.2.2.2.2.2.2.2.2.1 q1.2.2.2.2.2.2.2.2.2.2.2.2.2.2.1 q1.2.2.2.2.2.2.2.2.2.2.2.2.2.2.2.1 q1.2.2.2.2.2.2.2.2.2.2.2.2.2.2.2.2.1 q1.2.2.2.2.2.2.2.2.2.2.2.2.2.2.2.2.2.1 q1.2.2.2.2.2.2.2.2.2.2.2.2.2.2.2.2.2.2 at' pa mo le hd nt ct sts6 blo bhi bem glo ghi gem rlo rhi rem rom fnd fc prt lim su op) n
    have j4 : G K 2 12 16 [(0, .ref x), (1, .int p0), (2, .int p1), (3, .ref b)] [.long (if v2 = 0 then (0 : Int64) else (1 : Int64)), .int (0 : Int32), .ref b] (wSh (wA σ b 1 out) x q1.2.1 q1.2.2.1 q1.2.2.2.1 q1.2.2.2.2.1 pcu pmm q1.2.2.2.2.2.1 q1.2.2.2.2.2.2.1 q1.2.2.2.2.2.2.2.1 q1.2.2.2.2.2.2.2.2.1 q1.2.2.2.2.2.2.2.2.2.1 q1.2.2.2.2.2.2.2.2.2.2.1 q1.2.2.2.2.2.2.2.2.2.2.2.1 q1.2.2.2.2.2.2.2.2.2.2.2.2.1 q1.2.2.2.2.2.2.2.2.2.2.2.2.2.1 q1.2.2.2.2.2.2.2.2.2.2.2.2.2.2.1 q1.2.2.2.2.2.2.2.2.2.2.2.2.2.2.2.1 q1.2.2.2.2.2.2.2.2.2.2.2.2.2.2.2.2.1 q1.2.2.2.2.2.2.2.2.2.2.2.2.2.2.2.2.2.1 q1.2.2.2.2.2.2.2.2.2.2.2.2.2.2.2.2.2.2 at' pa mo le hd nt ct sts6 blo bhi bem glo ghi gem rlo rhi rem rom fnd fc prt lim su op) n := by
      obtain ⟨g3, hf⟩ := gd hf
      refine g_last (h' := (wSh (wA σ b 1 (va_up out (0 : Int32).toNatClampNeg (if v2 = 0 then (0 : Int64) else (1 : Int64)))) x q1.2.1 q1.2.2.1 q1.2.2.2.1 q1.2.2.2.2.1 pcu pmm q1.2.2.2.2.2.1 q1.2.2.2.2.2.2.1 q1.2.2.2.2.2.2.2.1 q1.2.2.2.2.2.2.2.2.1 q1.2.2.2.2.2.2.2.2.2.1 q1.2.2.2.2.2.2.2.2.2.2.1 q1.2.2.2.2.2.2.2.2.2.2.2.1 q1.2.2.2.2.2.2.2.2.2.2.2.2.1 q1.2.2.2.2.2.2.2.2.2.2.2.2.2.1 q1.2.2.2.2.2.2.2.2.2.2.2.2.2.2.1 q1.2.2.2.2.2.2.2.2.2.2.2.2.2.2.2.1 q1.2.2.2.2.2.2.2.2.2.2.2.2.2.2.2.2.1 q1.2.2.2.2.2.2.2.2.2.2.2.2.2.2.2.2.2.1 q1.2.2.2.2.2.2.2.2.2.2.2.2.2.2.2.2.2.2 at' pa mo le hd nt ct sts6 blo bhi bem glo ghi gem rlo rhi rem rom fnd fc prt lim su op)) C ((wL_out (by show _ ∨ _ + 71 ≤ _; omega)).trans (wL_at0 rfl)) (inB_in g3) (lw_up hb) dL_assemble_16 rfl ?_
      refine g_goto (pc' := 24) C dL_assemble_17 (by decide) ?_
      refine g_iconst (v := 0) C (by decide) dL_assemble_24 rfl ?_
      obtain rfl := Option.some.inj hf
      exact g_eiret C hKQ (by decide) (by decide) dL_assemble_25
    refine g_if_eq (tgt := 15) C dL_assemble_8 (by decide) rfl (fun c5 => ?_) (fun c5 => ?_)
    · refine g_lconst (v := 0) C (by decide) dL_assemble_15 rfl ?_
      exact g_topL (by rw [if_pos c5]) j4
    · refine g_lconst (v := 1) C (by decide) dL_assemble_11 rfl ?_
      refine g_goto (pc' := 16) C dL_assemble_12 (by decide) ?_
      exact g_topL (by rw [if_neg c5]) j4
def f_L_put (fu : Nat) (pss : Nat → Nat → Int64) (pcu : Nat → Int64) (pmm : Nat → Int32) (psk : Nat → Int32) (psc : Nat → Int32) (asm : Nat → Int64) (p0 : Int32) (p1 : Int64) : Option (Int32 × (Nat → Nat → Int64) × (Nat → Int32) × (Nat → Int32) × (Nat → Int64)) := ((f_X6_put fu pss pcu pmm psk psc asm p0 p1).bind fun q1 => xSel x_IAE x_ISE q1.1 (some ((1 : Int32), q1.2.1, q1.2.2.1, q1.2.2.2.1, q1.2.2.2.2)) (some ((2 : Int32), q1.2.1, q1.2.2.1, q1.2.2.2.1, q1.2.2.2.2)) (fun v2 => some ((0 : Int32), q1.2.1, q1.2.2.1, q1.2.2.2.1, q1.2.2.2.2)))
set_option maxHeartbeats 2000000 in
set_option maxRecDepth 20000 in
theorem c_L_put {l : Launch} {E : Ex} {n : Nat} {σ : AH} {x b : Nat} (hb : b < x ∨ x + 71 ≤ b) {pss : Nat → Nat → Int64} {pps : Nat → Nat → Int64} {phv : Nat → Nat → Int64} {poo : Nat → Nat → Int64} {pcu : Nat → Int64} {pmm : Nat → Int32} {psk : Nat → Int32} {ppk : Nat → Int32} {pkw : Nat → Int64} {psc : Nat → Int32} {ppn : Nat → Int32} {asm : Nat → Int64} {sur : Int64} {bud : Int32} {wan : Int32} {tri : Int32} {fou : Int32} {en : Int32} {eh : Int32} {cho : Nat → Int64} {at' : Nat → Int32} {pa : Nat → Int32} {mo : Nat → Int32} {le : Nat → Int32} {hd : Nat → Int32} {nt : Nat → Int32} {ct : Int32} {sts6 : Nat → Int64} {blo : Nat → Nat → Int32} {bhi : Nat → Nat → Int32} {bem : Nat → Int32} {glo : Nat → Int32} {ghi : Nat → Int32} {gem : Int32} {rlo : Nat → Int32} {rhi : Nat → Int32} {rem : Int32} {rom : Nat → Int32} {fnd : Nat → Int32} {fc : Int32} {prt : Int32} {lim : Int32} {su : Int64} {op : Int64} {out : Nat → Int64} {p0 : Int32} {p1 : Int64} {fu : Nat} (hl0 : l.stackTraces = false) (res : (Int32 × (Nat → Nat → Int64) × (Nat → Int32) × (Nat → Int32) × (Nat → Int64))) (hf : f_L_put fu pss pcu pmm psk psc asm p0 p1 = some res) : ConE l E yL_put (.codeWith yL_put cL_put 5 (some .int) [(0, 6, 9, 13), (0, 6, 13, 15)] :: TT) ({ frames := 8, cells := 2, slots := 12, locals := 164 } : Room) 2 12 [.ref x, .int p0, .long p1] (wSh (wA σ b 1 out) x pss pps phv poo pcu pmm psk ppk pkw psc ppn asm sur bud wan tri fou en eh cho at' pa mo le hd nt ct sts6 blo bhi bem glo ghi gem rlo rhi rem rom fnd fc prt lim su op) n (some (.int res.1)) (wSh (wA σ b 1 out) x res.2.1 pps phv poo pcu pmm res.2.2.1 ppk pkw res.2.2.2.1 ppn res.2.2.2.2 sur bud wan tri fou en eh cho at' pa mo le hd nt ct sts6 blo bhi bem glo ghi gem rlo rhi rem rom fnd fc prt lim su op) := by
  refine conE_intro (by decide +kernel) (Nat.le_of_ble_eq_true rfl) ?_
  intro K C hTb hKR hKL hKE hKN hKQ
  subst hKL
  subst hKE
  have C : Cx K RL "put" cL_put (some .int) := C
  show G K 0 0 0 [(0, .ref x), (1, .int p0), (2, .long p1)] [] (wSh (wA σ b 1 out) x pss pps phv poo pcu pmm psk ppk pkw psc ppn asm sur bud wan tri fou en eh cho at' pa mo le hd nt ct sts6 blo bhi bem glo ghi gem rlo rhi rem rom fnd fc prt lim su op) n
  unfold f_L_put at hf
  refine g_aload_n C rfl (q := 0) rfl dL_put_0 rfl ?_
  refine g_iload_n C rfl (q := 1) rfl dL_put_1 rfl ?_
  refine g_lload_n C rfl (q := 2) rfl dL_put_2 rfl ?_
  obtain ⟨q1, hq1, hf⟩ := bd hf
  rcases xsel hf with ⟨e9, hf⟩ | ⟨e9, hf⟩ | ⟨v2, e9, hf⟩
  · refine g_callXV (st' := []) (as := [.int p0, .long p1]) (k := 2) (mc := 2) (ms := 12) (pc' := 6) C ⟨wm_RL_45, wn_X6_put, wv_X6_put, wi_RX6, wk_X6_put, by decide +kernel⟩ rfl (wL_at0 rfl) (c_X6_put (l := kL K) (E := kE K) hl0 q1 hq1) (by rw [hKR]; exact ⟨rfl, rfl, ⟨by decide, by decide⟩, by decide, by decide⟩) rfl rfl (by simp) dL_put_3 rfl (fun v e => absurd e (by rw [e9]; simp [xrV])) (fun X e => ?_)
    have e : (Sum.inl x_IAE : String ⊕ Option Value) = .inl X := by rw [e9] at e; exact e
    cases e
    refine xcat1 C hTb (Or.inl rfl) (by decide) (by decide) wl_RL_13 (fun q9 n => ?_)
    show G K 2 12 9 [(0, .ref x), (1, .int p0), (2, .long p1)] [.ref q9] (wSh (wA σ b 1 out) x q1.2.1 pps phv poo pcu pmm q1.2.2.1 ppk pkw q1.2.2.2.1 ppn q1.2.2.2.2 sur bud wan tri fou en eh cho at' pa mo le hd nt ct sts6 blo bhi bem glo ghi gem rlo rhi rem rom fnd fc prt lim su op) n
    refine g_astore (i := 4) (lv' := [(4, .ref q9), (0, .ref x), (1, .int p0), (2, .long p1)]) C dL_put_9 rfl (by rw [hKN]; decide) rfl ?_
    refine g_iconst (v := 1) C (by decide) dL_put_11 rfl ?_
    obtain rfl := Option.some.inj hf
    exact g_eiret C hKQ (by decide) (by decide) dL_put_12
  · refine g_callXV (st' := []) (as := [.int p0, .long p1]) (k := 2) (mc := 2) (ms := 12) (pc' := 6) C ⟨wm_RL_45, wn_X6_put, wv_X6_put, wi_RX6, wk_X6_put, by decide +kernel⟩ rfl (wL_at0 rfl) (c_X6_put (l := kL K) (E := kE K) hl0 q1 hq1) (by rw [hKR]; exact ⟨rfl, rfl, ⟨by decide, by decide⟩, by decide, by decide⟩) rfl rfl (by simp) dL_put_3 rfl (fun v e => absurd e (by rw [e9]; simp [xrV])) (fun X e => ?_)
    have e : (Sum.inl x_ISE : String ⊕ Option Value) = .inl X := by rw [e9] at e; exact e
    cases e
    refine xcat2 C hTb (Or.inl rfl) (by decide) (by decide) (by decide) wl_RL_13 wl_RL_15 (fun q9 n => ?_)
    show G K 2 12 13 [(0, .ref x), (1, .int p0), (2, .long p1)] [.ref q9] (wSh (wA σ b 1 out) x q1.2.1 pps phv poo pcu pmm q1.2.2.1 ppk pkw q1.2.2.2.1 ppn q1.2.2.2.2 sur bud wan tri fou en eh cho at' pa mo le hd nt ct sts6 blo bhi bem glo ghi gem rlo rhi rem rom fnd fc prt lim su op) n
    refine g_astore (i := 4) (lv' := [(4, .ref q9), (0, .ref x), (1, .int p0), (2, .long p1)]) C dL_put_13 rfl (by rw [hKN]; decide) rfl ?_
    refine g_iconst (v := 2) C (by decide) dL_put_15 rfl ?_
    obtain rfl := Option.some.inj hf
    exact g_eiret C hKQ (by decide) (by decide) dL_put_16
  · refine g_callXV (st' := []) (as := [.int p0, .long p1]) (k := 2) (mc := 2) (ms := 12) (pc' := 6) C ⟨wm_RL_45, wn_X6_put, wv_X6_put, wi_RX6, wk_X6_put, by decide +kernel⟩ rfl (wL_at0 rfl) (c_X6_put (l := kL K) (E := kE K) hl0 q1 hq1) (by rw [hKR]; exact ⟨rfl, rfl, ⟨by decide, by decide⟩, by decide, by decide⟩) rfl rfl (by simp) dL_put_3 rfl (fun v e => ?_) (fun X e => absurd e (by rw [e9]; simp [xrV]))
    have e : (Sum.inr (none) : String ⊕ Option Value) = .inr v := by rw [e9] at e; exact e
    cases e
    show G K 2 12 6 [(0, .ref x), (1, .int p0), (2, .long p1)] [] (wSh (wA σ b 1 out) x q1.2.1 pps phv poo pcu pmm q1.2.2.1 ppk pkw q1.2.2.2.1 ppn q1.2.2.2.2 sur bud wan tri fou en eh cho at' pa mo le hd nt ct sts6 blo bhi bem glo ghi gem rlo rhi rem rom fnd fc prt lim su op) n
    refine g_goto (pc' := 17) C dL_put_6 (by decide) ?_
    refine g_iconst (v := 0) C (by decide) dL_put_17 rfl ?_
    obtain rfl := Option.some.inj hf
    exact g_eiret C hKQ (by decide) (by decide) dL_put_18
def f_L_take (asm : Nat → Int64) (p0 : Int32) : Option (Int32 × (Nat → Int64)) := ((f_X6_take asm p0).bind fun q1 => xSel x_IAE x_ISE q1.1 (some ((1 : Int32), q1.2)) (some ((2 : Int32), q1.2)) (fun v2 => some ((0 : Int32), q1.2)))
set_option maxHeartbeats 2000000 in
set_option maxRecDepth 20000 in
theorem c_L_take {l : Launch} {E : Ex} {n : Nat} {σ : AH} {x b : Nat} (hb : b < x ∨ x + 71 ≤ b) {pss : Nat → Nat → Int64} {pps : Nat → Nat → Int64} {phv : Nat → Nat → Int64} {poo : Nat → Nat → Int64} {pcu : Nat → Int64} {pmm : Nat → Int32} {psk : Nat → Int32} {ppk : Nat → Int32} {pkw : Nat → Int64} {psc : Nat → Int32} {ppn : Nat → Int32} {asm : Nat → Int64} {sur : Int64} {bud : Int32} {wan : Int32} {tri : Int32} {fou : Int32} {en : Int32} {eh : Int32} {cho : Nat → Int64} {at' : Nat → Int32} {pa : Nat → Int32} {mo : Nat → Int32} {le : Nat → Int32} {hd : Nat → Int32} {nt : Nat → Int32} {ct : Int32} {sts6 : Nat → Int64} {blo : Nat → Nat → Int32} {bhi : Nat → Nat → Int32} {bem : Nat → Int32} {glo : Nat → Int32} {ghi : Nat → Int32} {gem : Int32} {rlo : Nat → Int32} {rhi : Nat → Int32} {rem : Int32} {rom : Nat → Int32} {fnd : Nat → Int32} {fc : Int32} {prt : Int32} {lim : Int32} {su : Int64} {op : Int64} {out : Nat → Int64} {p0 : Int32} (hl0 : l.stackTraces = false) (res : (Int32 × (Nat → Int64))) (hf : f_L_take asm p0 = some res) : ConE l E yL_take (.codeWith yL_take cL_take 3 (some .int) [(0, 5, 8, 13), (0, 5, 11, 15)] :: TT) ({ frames := 8, cells := 2, slots := 12, locals := 141 } : Room) 2 12 [.ref x, .int p0] (wSh (wA σ b 1 out) x pss pps phv poo pcu pmm psk ppk pkw psc ppn asm sur bud wan tri fou en eh cho at' pa mo le hd nt ct sts6 blo bhi bem glo ghi gem rlo rhi rem rom fnd fc prt lim su op) n (some (.int res.1)) (wSh (wA σ b 1 out) x pss pps phv poo pcu pmm psk ppk pkw psc ppn res.2 sur bud wan tri fou en eh cho at' pa mo le hd nt ct sts6 blo bhi bem glo ghi gem rlo rhi rem rom fnd fc prt lim su op) := by
  refine conE_intro (by decide +kernel) (Nat.le_of_ble_eq_true rfl) ?_
  intro K C hTb hKR hKL hKE hKN hKQ
  subst hKL
  subst hKE
  have C : Cx K RL "take" cL_take (some .int) := C
  show G K 0 0 0 [(0, .ref x), (1, .int p0)] [] (wSh (wA σ b 1 out) x pss pps phv poo pcu pmm psk ppk pkw psc ppn asm sur bud wan tri fou en eh cho at' pa mo le hd nt ct sts6 blo bhi bem glo ghi gem rlo rhi rem rom fnd fc prt lim su op) n
  unfold f_L_take at hf
  refine g_aload_n C rfl (q := 0) rfl dL_take_0 rfl ?_
  refine g_iload_n C rfl (q := 1) rfl dL_take_1 rfl ?_
  obtain ⟨q1, hq1, hf⟩ := bd hf
  rcases xsel hf with ⟨e9, hf⟩ | ⟨e9, hf⟩ | ⟨v2, e9, hf⟩
  · refine g_callXV (st' := []) (as := [.int p0]) (k := 1) (mc := 2) (ms := 12) (pc' := 5) C ⟨wm_RL_49, wn_X6_take, wv_X6_take, wi_RX6, wk_X6_take, by decide +kernel⟩ rfl (wL_at0 rfl) (c_X6_take (l := kL K) (E := kE K) hl0 q1 hq1) (by rw [hKR]; exact ⟨rfl, rfl, ⟨by decide, by decide⟩, by decide, by decide⟩) rfl rfl (by simp) dL_take_2 rfl (fun v e => absurd e (by rw [e9]; simp [xrV])) (fun X e => ?_)
    have e : (Sum.inl x_IAE : String ⊕ Option Value) = .inl X := by rw [e9] at e; exact e
    cases e
    refine xcat1 C hTb (Or.inl rfl) (by decide) (by decide) wl_RL_13 (fun q9 n => ?_)
    show G K 2 12 8 [(0, .ref x), (1, .int p0)] [.ref q9] (wSh (wA σ b 1 out) x pss pps phv poo pcu pmm psk ppk pkw psc ppn q1.2 sur bud wan tri fou en eh cho at' pa mo le hd nt ct sts6 blo bhi bem glo ghi gem rlo rhi rem rom fnd fc prt lim su op) n
    refine g_astore_n (i := 2) (lv' := [(2, .ref q9), (0, .ref x), (1, .int p0)]) C dL_take_8 rfl rfl (by rw [hKN]; decide) rfl ?_
    refine g_iconst (v := 1) C (by decide) dL_take_9 rfl ?_
    obtain rfl := Option.some.inj hf
    exact g_eiret C hKQ (by decide) (by decide) dL_take_10
  · refine g_callXV (st' := []) (as := [.int p0]) (k := 1) (mc := 2) (ms := 12) (pc' := 5) C ⟨wm_RL_49, wn_X6_take, wv_X6_take, wi_RX6, wk_X6_take, by decide +kernel⟩ rfl (wL_at0 rfl) (c_X6_take (l := kL K) (E := kE K) hl0 q1 hq1) (by rw [hKR]; exact ⟨rfl, rfl, ⟨by decide, by decide⟩, by decide, by decide⟩) rfl rfl (by simp) dL_take_2 rfl (fun v e => absurd e (by rw [e9]; simp [xrV])) (fun X e => ?_)
    have e : (Sum.inl x_ISE : String ⊕ Option Value) = .inl X := by rw [e9] at e; exact e
    cases e
    refine xcat2 C hTb (Or.inl rfl) (by decide) (by decide) (by decide) wl_RL_13 wl_RL_15 (fun q9 n => ?_)
    show G K 2 12 11 [(0, .ref x), (1, .int p0)] [.ref q9] (wSh (wA σ b 1 out) x pss pps phv poo pcu pmm psk ppk pkw psc ppn q1.2 sur bud wan tri fou en eh cho at' pa mo le hd nt ct sts6 blo bhi bem glo ghi gem rlo rhi rem rom fnd fc prt lim su op) n
    refine g_astore_n (i := 2) (lv' := [(2, .ref q9), (0, .ref x), (1, .int p0)]) C dL_take_11 rfl rfl (by rw [hKN]; decide) rfl ?_
    refine g_iconst (v := 2) C (by decide) dL_take_12 rfl ?_
    obtain rfl := Option.some.inj hf
    exact g_eiret C hKQ (by decide) (by decide) dL_take_13
  · refine g_callXV (st' := []) (as := [.int p0]) (k := 1) (mc := 2) (ms := 12) (pc' := 5) C ⟨wm_RL_49, wn_X6_take, wv_X6_take, wi_RX6, wk_X6_take, by decide +kernel⟩ rfl (wL_at0 rfl) (c_X6_take (l := kL K) (E := kE K) hl0 q1 hq1) (by rw [hKR]; exact ⟨rfl, rfl, ⟨by decide, by decide⟩, by decide, by decide⟩) rfl rfl (by simp) dL_take_2 rfl (fun v e => ?_) (fun X e => absurd e (by rw [e9]; simp [xrV]))
    have e : (Sum.inr (none) : String ⊕ Option Value) = .inr v := by rw [e9] at e; exact e
    cases e
    show G K 2 12 5 [(0, .ref x), (1, .int p0)] [] (wSh (wA σ b 1 out) x pss pps phv poo pcu pmm psk ppk pkw psc ppn q1.2 sur bud wan tri fou en eh cho at' pa mo le hd nt ct sts6 blo bhi bem glo ghi gem rlo rhi rem rom fnd fc prt lim su op) n
    refine g_goto (pc' := 14) C dL_take_5 (by decide) ?_
    refine g_iconst (v := 0) C (by decide) dL_take_14 rfl ?_
    obtain rfl := Option.some.inj hf
    exact g_eiret C hKQ (by decide) (by decide) dL_take_15
def f_L_cells (asm : Nat → Int64) (out : Nat → Int64) (p0 : Int32) : Option (Int32 × (Nat → Int64)) := ((f_X6_cells asm p0).bind fun q1 => xSel x_IAE "" q1 (some ((1 : Int32), out)) none (fun v2 => (if inB (0 : Int32) 1 = true then some ((0 : Int32), va_up out (0 : Int32).toNatClampNeg v2) else none)))
set_option maxHeartbeats 2000000 in
set_option maxRecDepth 20000 in
theorem c_L_cells {l : Launch} {E : Ex} {n : Nat} {σ : AH} {x b : Nat} (hb : b < x ∨ x + 71 ≤ b) {pss : Nat → Nat → Int64} {pps : Nat → Nat → Int64} {phv : Nat → Nat → Int64} {poo : Nat → Nat → Int64} {pcu : Nat → Int64} {pmm : Nat → Int32} {psk : Nat → Int32} {ppk : Nat → Int32} {pkw : Nat → Int64} {psc : Nat → Int32} {ppn : Nat → Int32} {asm : Nat → Int64} {sur : Int64} {bud : Int32} {wan : Int32} {tri : Int32} {fou : Int32} {en : Int32} {eh : Int32} {cho : Nat → Int64} {at' : Nat → Int32} {pa : Nat → Int32} {mo : Nat → Int32} {le : Nat → Int32} {hd : Nat → Int32} {nt : Nat → Int32} {ct : Int32} {sts6 : Nat → Int64} {blo : Nat → Nat → Int32} {bhi : Nat → Nat → Int32} {bem : Nat → Int32} {glo : Nat → Int32} {ghi : Nat → Int32} {gem : Int32} {rlo : Nat → Int32} {rhi : Nat → Int32} {rem : Int32} {rom : Nat → Int32} {fnd : Nat → Int32} {fc : Int32} {prt : Int32} {lim : Int32} {su : Int64} {op : Int64} {out : Nat → Int64} {p0 : Int32} (hl0 : l.stackTraces = false) (res : (Int32 × (Nat → Int64))) (hf : f_L_cells asm out p0 = some res) : ConE l E yL_cells (.codeWith yL_cells cL_cells 4 (some .int) [(0, 8, 11, 13)] :: TT) ({ frames := 8, cells := 2, slots := 12, locals := 141 } : Room) 2 12 [.ref x, .int p0, .ref b] (wSh (wA σ b 1 out) x pss pps phv poo pcu pmm psk ppk pkw psc ppn asm sur bud wan tri fou en eh cho at' pa mo le hd nt ct sts6 blo bhi bem glo ghi gem rlo rhi rem rom fnd fc prt lim su op) n (some (.int res.1)) (wSh (wA σ b 1 res.2) x pss pps phv poo pcu pmm psk ppk pkw psc ppn asm sur bud wan tri fou en eh cho at' pa mo le hd nt ct sts6 blo bhi bem glo ghi gem rlo rhi rem rom fnd fc prt lim su op) := by
  refine conE_intro (by decide +kernel) (Nat.le_of_ble_eq_true rfl) ?_
  intro K C hTb hKR hKL hKE hKN hKQ
  subst hKL
  subst hKE
  have C : Cx K RL "cells" cL_cells (some .int) := C
  show G K 0 0 0 [(0, .ref x), (1, .int p0), (2, .ref b)] [] (wSh (wA σ b 1 out) x pss pps phv poo pcu pmm psk ppk pkw psc ppn asm sur bud wan tri fou en eh cho at' pa mo le hd nt ct sts6 blo bhi bem glo ghi gem rlo rhi rem rom fnd fc prt lim su op) n
  unfold f_L_cells at hf
  refine g_aload_n C rfl (q := 2) rfl dL_cells_0 rfl ?_
  refine g_iconst (v := 0) C (by decide) dL_cells_1 rfl ?_
  refine g_aload_n C rfl (q := 0) rfl dL_cells_2 rfl ?_
  refine g_iload_n C rfl (q := 1) rfl dL_cells_3 rfl ?_
  obtain ⟨q1, hq1, hf⟩ := bd hf
  rcases xsel hf with ⟨e9, hf⟩ | ⟨e9, hf⟩ | ⟨v2, e9, hf⟩
  · refine g_callXV (st' := [.int (0 : Int32), .ref b]) (as := [.int p0]) (k := 1) (mc := 2) (ms := 12) (pc' := 7) C ⟨wm_RL_53, wn_X6_cells, wv_X6_cells, wi_RX6, wk_X6_cells, by decide +kernel⟩ rfl (wL_at0 rfl) (c_X6_cells (l := kL K) (E := kE K) hl0 q1 hq1) (by rw [hKR]; exact ⟨rfl, rfl, ⟨by decide, by decide⟩, by decide, by decide⟩) rfl rfl (by simp [Value.category]) dL_cells_4 rfl (fun v e => absurd e (by rw [e9]; simp [xrL])) (fun X e => ?_)
    have e : (Sum.inl x_IAE : String ⊕ Option Value) = .inl X := by rw [e9] at e; exact e
    cases e
    refine xcat1 C hTb (Or.inl rfl) (by decide) (by decide) wl_RL_13 (fun q9 n => ?_)
    show G K 2 12 11 [(0, .ref x), (1, .int p0), (2, .ref b)] [.ref q9] (wSh (wA σ b 1 out) x pss pps phv poo pcu pmm psk ppk pkw psc ppn asm sur bud wan tri fou en eh cho at' pa mo le hd nt ct sts6 blo bhi bem glo ghi gem rlo rhi rem rom fnd fc prt lim su op) n
    refine g_astore_n (i := 3) (lv' := [(3, .ref q9), (0, .ref x), (1, .int p0), (2, .ref b)]) C dL_cells_11 rfl rfl (by rw [hKN]; decide) rfl ?_
    refine g_iconst (v := 1) C (by decide) dL_cells_12 rfl ?_
    obtain rfl := Option.some.inj hf
    exact g_eiret C hKQ (by decide) (by decide) dL_cells_13
  · exact absurd hf (by simp)
  · refine g_callXV (st' := [.int (0 : Int32), .ref b]) (as := [.int p0]) (k := 1) (mc := 2) (ms := 12) (pc' := 7) C ⟨wm_RL_53, wn_X6_cells, wv_X6_cells, wi_RX6, wk_X6_cells, by decide +kernel⟩ rfl (wL_at0 rfl) (c_X6_cells (l := kL K) (E := kE K) hl0 q1 hq1) (by rw [hKR]; exact ⟨rfl, rfl, ⟨by decide, by decide⟩, by decide, by decide⟩) rfl rfl (by simp [Value.category]) dL_cells_4 rfl (fun v e => ?_) (fun X e => absurd e (by rw [e9]; simp [xrL]))
    have e : (Sum.inr (some (.long v2)) : String ⊕ Option Value) = .inr v := by rw [e9] at e; exact e
    cases e
    show G K 2 12 7 [(0, .ref x), (1, .int p0), (2, .ref b)] [.long v2, .int (0 : Int32), .ref b] (wSh (wA σ b 1 out) x pss pps phv poo pcu pmm psk ppk pkw psc ppn asm sur bud wan tri fou en eh cho at' pa mo le hd nt ct sts6 blo bhi bem glo ghi gem rlo rhi rem rom fnd fc prt lim su op) n
    obtain ⟨g3, hf⟩ := gd hf
    refine g_last (h' := (wSh (wA σ b 1 (va_up out (0 : Int32).toNatClampNeg v2)) x pss pps phv poo pcu pmm psk ppk pkw psc ppn asm sur bud wan tri fou en eh cho at' pa mo le hd nt ct sts6 blo bhi bem glo ghi gem rlo rhi rem rom fnd fc prt lim su op)) C ((wL_out (by show _ ∨ _ + 71 ≤ _; omega)).trans (wL_at0 rfl)) (inB_in g3) (lw_up hb) dL_cells_7 rfl ?_
    refine g_goto (pc' := 14) C dL_cells_8 (by decide) ?_
    refine g_iconst (v := 0) C (by decide) dL_cells_14 rfl ?_
    obtain rfl := Option.some.inj hf
    exact g_eiret C hKQ (by decide) (by decide) dL_cells_15
def f_L_plan (fu : Nat) (asm : Nat → Int64) (at' : Nat → Int32) (pa : Nat → Int32) (mo : Nat → Int32) (le : Nat → Int32) (hd : Nat → Int32) (nt : Nat → Int32) (ct : Int32) (sts6 : Nat → Int64) (blo : Nat → Nat → Int32) (bhi : Nat → Nat → Int32) (bem : Nat → Int32) (glo : Nat → Int32) (ghi : Nat → Int32) (gem : Int32) (rlo : Nat → Int32) (rhi : Nat → Int32) (rem : Int32) (rom : Nat → Int32) (fnd : Nat → Int32) (fc : Int32) (prt : Int32) (lim : Int32) (out : Nat → Int64) (p0 : Int32) (p1 : Int32) : Option (Int32 × (Nat → Int32) × (Nat → Int32) × (Nat → Int32) × (Nat → Int32) × (Nat → Int32) × (Nat → Int32) × Int32 × (Nat → Int64) × (Nat → Nat → Int32) × (Nat → Nat → Int32) × (Nat → Int32) × (Nat → Int32) × (Nat → Int32) × Int32 × (Nat → Int32) × (Nat → Int32) × Int32 × (Nat → Int32) × (Nat → Int32) × Int32 × Int32 × Int32 × (Nat → Int64)) := ((f_X6_plan fu asm at' pa mo le hd nt ct sts6 blo bhi bem glo ghi gem rlo rhi rem rom fnd fc prt lim p0 p1).bind fun q1 => xSel x_IAE "" q1.1 (some ((1 : Int32), q1.2.1, q1.2.2.1, q1.2.2.2.1, q1.2.2.2.2.1, q1.2.2.2.2.2.1, q1.2.2.2.2.2.2.1, q1.2.2.2.2.2.2.2.1, q1.2.2.2.2.2.2.2.2.1, q1.2.2.2.2.2.2.2.2.2.1, q1.2.2.2.2.2.2.2.2.2.2.1, q1.2.2.2.2.2.2.2.2.2.2.2.1, q1.2.2.2.2.2.2.2.2.2.2.2.2.1, q1.2.2.2.2.2.2.2.2.2.2.2.2.2.1, q1.2.2.2.2.2.2.2.2.2.2.2.2.2.2.1, q1.2.2.2.2.2.2.2.2.2.2.2.2.2.2.2.1, q1.2.2.2.2.2.2.2.2.2.2.2.2.2.2.2.2.1, q1.2.2.2.2.2.2.2.2.2.2.2.2.2.2.2.2.2.1, q1.2.2.2.2.2.2.2.2.2.2.2.2.2.2.2.2.2.2.1, q1.2.2.2.2.2.2.2.2.2.2.2.2.2.2.2.2.2.2.2.1, q1.2.2.2.2.2.2.2.2.2.2.2.2.2.2.2.2.2.2.2.2.1, q1.2.2.2.2.2.2.2.2.2.2.2.2.2.2.2.2.2.2.2.2.2.1, q1.2.2.2.2.2.2.2.2.2.2.2.2.2.2.2.2.2.2.2.2.2.2, out)) none (fun v2 => (if inB (0 : Int32) 1 = true then some ((0 : Int32), q1.2.1, q1.2.2.1, q1.2.2.2.1, q1.2.2.2.2.1, q1.2.2.2.2.2.1, q1.2.2.2.2.2.2.1, q1.2.2.2.2.2.2.2.1, q1.2.2.2.2.2.2.2.2.1, q1.2.2.2.2.2.2.2.2.2.1, q1.2.2.2.2.2.2.2.2.2.2.1, q1.2.2.2.2.2.2.2.2.2.2.2.1, q1.2.2.2.2.2.2.2.2.2.2.2.2.1, q1.2.2.2.2.2.2.2.2.2.2.2.2.2.1, q1.2.2.2.2.2.2.2.2.2.2.2.2.2.2.1, q1.2.2.2.2.2.2.2.2.2.2.2.2.2.2.2.1, q1.2.2.2.2.2.2.2.2.2.2.2.2.2.2.2.2.1, q1.2.2.2.2.2.2.2.2.2.2.2.2.2.2.2.2.2.1, q1.2.2.2.2.2.2.2.2.2.2.2.2.2.2.2.2.2.2.1, q1.2.2.2.2.2.2.2.2.2.2.2.2.2.2.2.2.2.2.2.1, q1.2.2.2.2.2.2.2.2.2.2.2.2.2.2.2.2.2.2.2.2.1, q1.2.2.2.2.2.2.2.2.2.2.2.2.2.2.2.2.2.2.2.2.2.1, q1.2.2.2.2.2.2.2.2.2.2.2.2.2.2.2.2.2.2.2.2.2.2, va_up out (0 : Int32).toNatClampNeg v2.toInt64) else none)))
set_option maxHeartbeats 2000000 in
set_option maxRecDepth 20000 in
theorem c_L_plan {l : Launch} {E : Ex} {n : Nat} {σ : AH} {x b : Nat} (hb : b < x ∨ x + 71 ≤ b) {pss : Nat → Nat → Int64} {pps : Nat → Nat → Int64} {phv : Nat → Nat → Int64} {poo : Nat → Nat → Int64} {pcu : Nat → Int64} {pmm : Nat → Int32} {psk : Nat → Int32} {ppk : Nat → Int32} {pkw : Nat → Int64} {psc : Nat → Int32} {ppn : Nat → Int32} {asm : Nat → Int64} {sur : Int64} {bud : Int32} {wan : Int32} {tri : Int32} {fou : Int32} {en : Int32} {eh : Int32} {cho : Nat → Int64} {at' : Nat → Int32} {pa : Nat → Int32} {mo : Nat → Int32} {le : Nat → Int32} {hd : Nat → Int32} {nt : Nat → Int32} {ct : Int32} {sts6 : Nat → Int64} {blo : Nat → Nat → Int32} {bhi : Nat → Nat → Int32} {bem : Nat → Int32} {glo : Nat → Int32} {ghi : Nat → Int32} {gem : Int32} {rlo : Nat → Int32} {rhi : Nat → Int32} {rem : Int32} {rom : Nat → Int32} {fnd : Nat → Int32} {fc : Int32} {prt : Int32} {lim : Int32} {su : Int64} {op : Int64} {out : Nat → Int64} {p0 : Int32} {p1 : Int32} {fu : Nat} (hl0 : l.stackTraces = false) (res : (Int32 × (Nat → Int32) × (Nat → Int32) × (Nat → Int32) × (Nat → Int32) × (Nat → Int32) × (Nat → Int32) × Int32 × (Nat → Int64) × (Nat → Nat → Int32) × (Nat → Nat → Int32) × (Nat → Int32) × (Nat → Int32) × (Nat → Int32) × Int32 × (Nat → Int32) × (Nat → Int32) × Int32 × (Nat → Int32) × (Nat → Int32) × Int32 × Int32 × Int32 × (Nat → Int64))) (hf : f_L_plan fu asm at' pa mo le hd nt ct sts6 blo bhi bem glo ghi gem rlo rhi rem rom fnd fc prt lim out p0 p1 = some res) : ConE l E yL_plan (.codeWith yL_plan cL_plan 5 (some .int) [(0, 10, 13, 13)] :: TT) ({ frames := 7, cells := 1, slots := 6, locals := 244 } : Room) 1 6 [.ref x, .int p0, .int p1, .ref b] (wSh (wA σ b 1 out) x pss pps phv poo pcu pmm psk ppk pkw psc ppn asm sur bud wan tri fou en eh cho at' pa mo le hd nt ct sts6 blo bhi bem glo ghi gem rlo rhi rem rom fnd fc prt lim su op) n (some (.int res.1)) (wSh (wA σ b 1 res.2.2.2.2.2.2.2.2.2.2.2.2.2.2.2.2.2.2.2.2.2.2.2) x pss pps phv poo pcu pmm psk ppk pkw psc ppn asm sur bud wan tri fou en eh cho res.2.1 res.2.2.1 res.2.2.2.1 res.2.2.2.2.1 res.2.2.2.2.2.1 res.2.2.2.2.2.2.1 res.2.2.2.2.2.2.2.1 res.2.2.2.2.2.2.2.2.1 res.2.2.2.2.2.2.2.2.2.1 res.2.2.2.2.2.2.2.2.2.2.1 res.2.2.2.2.2.2.2.2.2.2.2.1 res.2.2.2.2.2.2.2.2.2.2.2.2.1 res.2.2.2.2.2.2.2.2.2.2.2.2.2.1 res.2.2.2.2.2.2.2.2.2.2.2.2.2.2.1 res.2.2.2.2.2.2.2.2.2.2.2.2.2.2.2.1 res.2.2.2.2.2.2.2.2.2.2.2.2.2.2.2.2.1 res.2.2.2.2.2.2.2.2.2.2.2.2.2.2.2.2.2.1 res.2.2.2.2.2.2.2.2.2.2.2.2.2.2.2.2.2.2.1 res.2.2.2.2.2.2.2.2.2.2.2.2.2.2.2.2.2.2.2.1 res.2.2.2.2.2.2.2.2.2.2.2.2.2.2.2.2.2.2.2.2.1 res.2.2.2.2.2.2.2.2.2.2.2.2.2.2.2.2.2.2.2.2.2.1 res.2.2.2.2.2.2.2.2.2.2.2.2.2.2.2.2.2.2.2.2.2.2.1 su op) := by
  refine conE_intro (by decide +kernel) (Nat.le_of_ble_eq_true rfl) ?_
  intro K C hTb hKR hKL hKE hKN hKQ
  subst hKL
  subst hKE
  have C : Cx K RL "plan" cL_plan (some .int) := C
  show G K 0 0 0 [(0, .ref x), (1, .int p0), (2, .int p1), (3, .ref b)] [] (wSh (wA σ b 1 out) x pss pps phv poo pcu pmm psk ppk pkw psc ppn asm sur bud wan tri fou en eh cho at' pa mo le hd nt ct sts6 blo bhi bem glo ghi gem rlo rhi rem rom fnd fc prt lim su op) n
  unfold f_L_plan at hf
  refine g_aload_n C rfl (q := 3) rfl dL_plan_0 rfl ?_
  refine g_iconst (v := 0) C (by decide) dL_plan_1 rfl ?_
  refine g_aload_n C rfl (q := 0) rfl dL_plan_2 rfl ?_
  refine g_iload_n C rfl (q := 1) rfl dL_plan_3 rfl ?_
  refine g_iload_n C rfl (q := 2) rfl dL_plan_4 rfl ?_
  obtain ⟨q1, hq1, hf⟩ := bd hf
  rcases xsel hf with ⟨e9, hf⟩ | ⟨e9, hf⟩ | ⟨v2, e9, hf⟩
  · refine g_callXV (st' := [.int (0 : Int32), .ref b]) (as := [.int p0, .int p1]) (k := 2) (mc := 1) (ms := 6) (pc' := 8) C ⟨wm_RL_57, wn_X6_plan, wv_X6_plan, wi_RX6, wk_X6_plan, by decide +kernel⟩ rfl (wL_at0 rfl) (c_X6_plan (l := kL K) (E := kE K) hl0 q1 hq1) (by rw [hKR]; exact ⟨rfl, rfl, ⟨by decide, by decide⟩, by decide, by decide⟩) rfl rfl (by simp [Value.category]) dL_plan_5 rfl (fun v e => absurd e (by rw [e9]; simp [xrI])) (fun X e => ?_)
    have e : (Sum.inl x_IAE : String ⊕ Option Value) = .inl X := by rw [e9] at e; exact e
    cases e
    refine xcat1 C hTb (Or.inl rfl) (by decide) (by decide) wl_RL_13 (fun q9 n => ?_)
    show G K 1 6 13 [(0, .ref x), (1, .int p0), (2, .int p1), (3, .ref b)] [.ref q9] (wSh (wA σ b 1 out) x pss pps phv poo pcu pmm psk ppk pkw psc ppn asm sur bud wan tri fou en eh cho q1.2.1 q1.2.2.1 q1.2.2.2.1 q1.2.2.2.2.1 q1.2.2.2.2.2.1 q1.2.2.2.2.2.2.1 q1.2.2.2.2.2.2.2.1 q1.2.2.2.2.2.2.2.2.1 q1.2.2.2.2.2.2.2.2.2.1 q1.2.2.2.2.2.2.2.2.2.2.1 q1.2.2.2.2.2.2.2.2.2.2.2.1 q1.2.2.2.2.2.2.2.2.2.2.2.2.1 q1.2.2.2.2.2.2.2.2.2.2.2.2.2.1 q1.2.2.2.2.2.2.2.2.2.2.2.2.2.2.1 q1.2.2.2.2.2.2.2.2.2.2.2.2.2.2.2.1 q1.2.2.2.2.2.2.2.2.2.2.2.2.2.2.2.2.1 q1.2.2.2.2.2.2.2.2.2.2.2.2.2.2.2.2.2.1 q1.2.2.2.2.2.2.2.2.2.2.2.2.2.2.2.2.2.2.1 q1.2.2.2.2.2.2.2.2.2.2.2.2.2.2.2.2.2.2.2.1 q1.2.2.2.2.2.2.2.2.2.2.2.2.2.2.2.2.2.2.2.2.1 q1.2.2.2.2.2.2.2.2.2.2.2.2.2.2.2.2.2.2.2.2.2.1 q1.2.2.2.2.2.2.2.2.2.2.2.2.2.2.2.2.2.2.2.2.2.2 su op) n
    refine g_astore (i := 4) (lv' := [(4, .ref q9), (0, .ref x), (1, .int p0), (2, .int p1), (3, .ref b)]) C dL_plan_13 rfl (by rw [hKN]; decide) rfl ?_
    refine g_iconst (v := 1) C (by decide) dL_plan_15 rfl ?_
    obtain rfl := Option.some.inj hf
    exact g_eiret C hKQ (by decide) (by decide) dL_plan_16
  · exact absurd hf (by simp)
  · refine g_callXV (st' := [.int (0 : Int32), .ref b]) (as := [.int p0, .int p1]) (k := 2) (mc := 1) (ms := 6) (pc' := 8) C ⟨wm_RL_57, wn_X6_plan, wv_X6_plan, wi_RX6, wk_X6_plan, by decide +kernel⟩ rfl (wL_at0 rfl) (c_X6_plan (l := kL K) (E := kE K) hl0 q1 hq1) (by rw [hKR]; exact ⟨rfl, rfl, ⟨by decide, by decide⟩, by decide, by decide⟩) rfl rfl (by simp [Value.category]) dL_plan_5 rfl (fun v e => ?_) (fun X e => absurd e (by rw [e9]; simp [xrI]))
    have e : (Sum.inr (some (.int v2)) : String ⊕ Option Value) = .inr v := by rw [e9] at e; exact e
    cases e
    show G K 1 6 8 [(0, .ref x), (1, .int p0), (2, .int p1), (3, .ref b)] [.int v2, .int (0 : Int32), .ref b] (wSh (wA σ b 1 out) x pss pps phv poo pcu pmm psk ppk pkw psc ppn asm sur bud wan tri fou en eh cho q1.2.1 q1.2.2.1 q1.2.2.2.1 q1.2.2.2.2.1 q1.2.2.2.2.2.1 q1.2.2.2.2.2.2.1 q1.2.2.2.2.2.2.2.1 q1.2.2.2.2.2.2.2.2.1 q1.2.2.2.2.2.2.2.2.2.1 q1.2.2.2.2.2.2.2.2.2.2.1 q1.2.2.2.2.2.2.2.2.2.2.2.1 q1.2.2.2.2.2.2.2.2.2.2.2.2.1 q1.2.2.2.2.2.2.2.2.2.2.2.2.2.1 q1.2.2.2.2.2.2.2.2.2.2.2.2.2.2.1 q1.2.2.2.2.2.2.2.2.2.2.2.2.2.2.2.1 q1.2.2.2.2.2.2.2.2.2.2.2.2.2.2.2.2.1 q1.2.2.2.2.2.2.2.2.2.2.2.2.2.2.2.2.2.1 q1.2.2.2.2.2.2.2.2.2.2.2.2.2.2.2.2.2.2.1 q1.2.2.2.2.2.2.2.2.2.2.2.2.2.2.2.2.2.2.2.1 q1.2.2.2.2.2.2.2.2.2.2.2.2.2.2.2.2.2.2.2.2.1 q1.2.2.2.2.2.2.2.2.2.2.2.2.2.2.2.2.2.2.2.2.2.1 q1.2.2.2.2.2.2.2.2.2.2.2.2.2.2.2.2.2.2.2.2.2.2 su op) n
    refine g_i2l C dL_plan_8 rfl ?_
    obtain ⟨g3, hf⟩ := gd hf
    refine g_last (h' := (wSh (wA σ b 1 (va_up out (0 : Int32).toNatClampNeg v2.toInt64)) x pss pps phv poo pcu pmm psk ppk pkw psc ppn asm sur bud wan tri fou en eh cho q1.2.1 q1.2.2.1 q1.2.2.2.1 q1.2.2.2.2.1 q1.2.2.2.2.2.1 q1.2.2.2.2.2.2.1 q1.2.2.2.2.2.2.2.1 q1.2.2.2.2.2.2.2.2.1 q1.2.2.2.2.2.2.2.2.2.1 q1.2.2.2.2.2.2.2.2.2.2.1 q1.2.2.2.2.2.2.2.2.2.2.2.1 q1.2.2.2.2.2.2.2.2.2.2.2.2.1 q1.2.2.2.2.2.2.2.2.2.2.2.2.2.1 q1.2.2.2.2.2.2.2.2.2.2.2.2.2.2.1 q1.2.2.2.2.2.2.2.2.2.2.2.2.2.2.2.1 q1.2.2.2.2.2.2.2.2.2.2.2.2.2.2.2.2.1 q1.2.2.2.2.2.2.2.2.2.2.2.2.2.2.2.2.2.1 q1.2.2.2.2.2.2.2.2.2.2.2.2.2.2.2.2.2.2.1 q1.2.2.2.2.2.2.2.2.2.2.2.2.2.2.2.2.2.2.2.1 q1.2.2.2.2.2.2.2.2.2.2.2.2.2.2.2.2.2.2.2.2.1 q1.2.2.2.2.2.2.2.2.2.2.2.2.2.2.2.2.2.2.2.2.2.1 q1.2.2.2.2.2.2.2.2.2.2.2.2.2.2.2.2.2.2.2.2.2.2 su op)) C ((wL_out (by show _ ∨ _ + 71 ≤ _; omega)).trans (wL_at0 rfl)) (inB_in g3) (lw_up hb) dL_plan_9 rfl ?_
    refine g_goto (pc' := 17) C dL_plan_10 (by decide) ?_
    refine g_iconst (v := 0) C (by decide) dL_plan_17 rfl ?_
    obtain rfl := Option.some.inj hf
    exact g_eiret C hKQ (by decide) (by decide) dL_plan_18
def f_L_move (fnd : Nat → Int32) (fc : Int32) (out : Nat → Int64) (p0 : Int32) : Option (Int32 × (Nat → Int64)) := ((f_X6_move fnd fc p0).bind fun q1 => xSel x_IOB "" q1 (some ((1 : Int32), out)) none (fun v2 => (if inB (0 : Int32) 1 = true then some ((0 : Int32), va_up out (0 : Int32).toNatClampNeg v2.toInt64) else none)))
set_option maxHeartbeats 2000000 in
set_option maxRecDepth 20000 in
theorem c_L_move {l : Launch} {E : Ex} {n : Nat} {σ : AH} {x b : Nat} (hb : b < x ∨ x + 71 ≤ b) {pss : Nat → Nat → Int64} {pps : Nat → Nat → Int64} {phv : Nat → Nat → Int64} {poo : Nat → Nat → Int64} {pcu : Nat → Int64} {pmm : Nat → Int32} {psk : Nat → Int32} {ppk : Nat → Int32} {pkw : Nat → Int64} {psc : Nat → Int32} {ppn : Nat → Int32} {asm : Nat → Int64} {sur : Int64} {bud : Int32} {wan : Int32} {tri : Int32} {fou : Int32} {en : Int32} {eh : Int32} {cho : Nat → Int64} {at' : Nat → Int32} {pa : Nat → Int32} {mo : Nat → Int32} {le : Nat → Int32} {hd : Nat → Int32} {nt : Nat → Int32} {ct : Int32} {sts6 : Nat → Int64} {blo : Nat → Nat → Int32} {bhi : Nat → Nat → Int32} {bem : Nat → Int32} {glo : Nat → Int32} {ghi : Nat → Int32} {gem : Int32} {rlo : Nat → Int32} {rhi : Nat → Int32} {rem : Int32} {rom : Nat → Int32} {fnd : Nat → Int32} {fc : Int32} {prt : Int32} {lim : Int32} {su : Int64} {op : Int64} {out : Nat → Int64} {p0 : Int32} (hl0 : l.stackTraces = false) (res : (Int32 × (Nat → Int64))) (hf : f_L_move fnd fc out p0 = some res) : ConE l E yL_move (.codeWith yL_move cL_move 4 (some .int) [(0, 9, 12, 29)] :: TT) ({ frames := 7, cells := 1, slots := 6, locals := 121 } : Room) 1 6 [.ref x, .int p0, .ref b] (wSh (wA σ b 1 out) x pss pps phv poo pcu pmm psk ppk pkw psc ppn asm sur bud wan tri fou en eh cho at' pa mo le hd nt ct sts6 blo bhi bem glo ghi gem rlo rhi rem rom fnd fc prt lim su op) n (some (.int res.1)) (wSh (wA σ b 1 res.2) x pss pps phv poo pcu pmm psk ppk pkw psc ppn asm sur bud wan tri fou en eh cho at' pa mo le hd nt ct sts6 blo bhi bem glo ghi gem rlo rhi rem rom fnd fc prt lim su op) := by
  refine conE_intro (by decide +kernel) (Nat.le_of_ble_eq_true rfl) ?_
  intro K C hTb hKR hKL hKE hKN hKQ
  subst hKL
  subst hKE
  have C : Cx K RL "move" cL_move (some .int) := C
  show G K 0 0 0 [(0, .ref x), (1, .int p0), (2, .ref b)] [] (wSh (wA σ b 1 out) x pss pps phv poo pcu pmm psk ppk pkw psc ppn asm sur bud wan tri fou en eh cho at' pa mo le hd nt ct sts6 blo bhi bem glo ghi gem rlo rhi rem rom fnd fc prt lim su op) n
  unfold f_L_move at hf
  refine g_aload_n C rfl (q := 2) rfl dL_move_0 rfl ?_
  refine g_iconst (v := 0) C (by decide) dL_move_1 rfl ?_
  refine g_aload_n C rfl (q := 0) rfl dL_move_2 rfl ?_
  refine g_iload_n C rfl (q := 1) rfl dL_move_3 rfl ?_
  obtain ⟨q1, hq1, hf⟩ := bd hf
  rcases xsel hf with ⟨e9, hf⟩ | ⟨e9, hf⟩ | ⟨v2, e9, hf⟩
  · refine g_callXV (st' := [.int (0 : Int32), .ref b]) (as := [.int p0]) (k := 1) (mc := 1) (ms := 6) (pc' := 7) C ⟨wm_RL_61, wn_X6_move, wv_X6_move, wi_RX6, wk_X6_move, by decide +kernel⟩ rfl (wL_at0 rfl) (c_X6_move (l := kL K) (E := kE K) hl0 q1 hq1) (by rw [hKR]; exact ⟨rfl, rfl, ⟨by decide, by decide⟩, by decide, by decide⟩) rfl rfl (by simp [Value.category]) dL_move_4 rfl (fun v e => absurd e (by rw [e9]; simp [xrI])) (fun X e => ?_)
    have e : (Sum.inl x_IOB : String ⊕ Option Value) = .inl X := by rw [e9] at e; exact e
    cases e
    refine xcat1 C hTb (Or.inr (Or.inr rfl)) (by decide) (by decide) wl_RL_29 (fun q9 n => ?_)
    show G K 1 6 12 [(0, .ref x), (1, .int p0), (2, .ref b)] [.ref q9] (wSh (wA σ b 1 out) x pss pps phv poo pcu pmm psk ppk pkw psc ppn asm sur bud wan tri fou en eh cho at' pa mo le hd nt ct sts6 blo bhi bem glo ghi gem rlo rhi rem rom fnd fc prt lim su op) n
    refine g_astore_n (i := 3) (lv' := [(3, .ref q9), (0, .ref x), (1, .int p0), (2, .ref b)]) C dL_move_12 rfl rfl (by rw [hKN]; decide) rfl ?_
    refine g_iconst (v := 1) C (by decide) dL_move_13 rfl ?_
    obtain rfl := Option.some.inj hf
    exact g_eiret C hKQ (by decide) (by decide) dL_move_14
  · exact absurd hf (by simp)
  · refine g_callXV (st' := [.int (0 : Int32), .ref b]) (as := [.int p0]) (k := 1) (mc := 1) (ms := 6) (pc' := 7) C ⟨wm_RL_61, wn_X6_move, wv_X6_move, wi_RX6, wk_X6_move, by decide +kernel⟩ rfl (wL_at0 rfl) (c_X6_move (l := kL K) (E := kE K) hl0 q1 hq1) (by rw [hKR]; exact ⟨rfl, rfl, ⟨by decide, by decide⟩, by decide, by decide⟩) rfl rfl (by simp [Value.category]) dL_move_4 rfl (fun v e => ?_) (fun X e => absurd e (by rw [e9]; simp [xrI]))
    have e : (Sum.inr (some (.int v2)) : String ⊕ Option Value) = .inr v := by rw [e9] at e; exact e
    cases e
    show G K 1 6 7 [(0, .ref x), (1, .int p0), (2, .ref b)] [.int v2, .int (0 : Int32), .ref b] (wSh (wA σ b 1 out) x pss pps phv poo pcu pmm psk ppk pkw psc ppn asm sur bud wan tri fou en eh cho at' pa mo le hd nt ct sts6 blo bhi bem glo ghi gem rlo rhi rem rom fnd fc prt lim su op) n
    refine g_i2l C dL_move_7 rfl ?_
    obtain ⟨g3, hf⟩ := gd hf
    refine g_last (h' := (wSh (wA σ b 1 (va_up out (0 : Int32).toNatClampNeg v2.toInt64)) x pss pps phv poo pcu pmm psk ppk pkw psc ppn asm sur bud wan tri fou en eh cho at' pa mo le hd nt ct sts6 blo bhi bem glo ghi gem rlo rhi rem rom fnd fc prt lim su op)) C ((wL_out (by show _ ∨ _ + 71 ≤ _; omega)).trans (wL_at0 rfl)) (inB_in g3) (lw_up hb) dL_move_8 rfl ?_
    refine g_goto (pc' := 15) C dL_move_9 (by decide) ?_
    refine g_iconst (v := 0) C (by decide) dL_move_15 rfl ?_
    obtain rfl := Option.some.inj hf
    exact g_eiret C hKQ (by decide) (by decide) dL_move_16
