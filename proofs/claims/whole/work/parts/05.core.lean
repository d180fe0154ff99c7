/-! THE CORE: a heap of the system's own cells by a function, and one judgement of the walk over it (G); each instruction turns G at one place into G at the next -/
def TT : List Cond := lw_tbl.filter goodWord
theorem tt_mem {w : Cond} (i : Nat) (h : lw_tbl[i]? = some w) (g : goodWord w = true) : w ∈ TT := List.mem_filter.mpr ⟨List.mem_of_getElem? h, g⟩
theorem tt_good {w : Cond} (h : w ∈ TT) : goodWord w = true := (List.mem_filter.mp h).2
theorem tt_in {c d : Cond} (h : d ∈ TT) : GoodIn (c :: TT) (d :: TT) := fun w hw => by
  rcases List.mem_cons.mp hw with e | e
  · subst e; exact ⟨List.mem_cons_of_mem _ h, good_of_word (tt_good h)⟩
  · exact ⟨List.mem_cons_of_mem _ e, good_of_word (tt_good e)⟩
theorem tt_in0 {d : Cond} (h : d ∈ TT) : GoodIn TT (d :: TT) := fun w hw => by
  rcases List.mem_cons.mp hw with e | e
  · subst e; exact ⟨h, good_of_word (tt_good h)⟩
  · exact ⟨e, good_of_word (tt_good e)⟩
/-- a cell: an array of a kind (0 int, 1 long, 2 boolean, 3 of pieces, 4 of spans), its length, its contents; or an object of a class, its fields -/
abbrev CE : Type := (Nat × vp_A) ⊕ (Nat × List Value)
abbrev AH : Type := Nat → Option CE
/-- what the machine says of the classes; the classes of the arrays; where the static arrays lie; from where on the system's cells lie -/
abbrev Ex : Type := va_G × (Nat → ClassId) × (Nat → Nat) × Nat
abbrev xA (E : Ex) : Nat → Prop := fun q => E.2.2.2 ≤ q
def ceE (E : Ex) (e : CE) : va_E := match e with
  | .inl x => .inl (E.2.1 x.1, x.2)
  | .inr o => .inr o
def hR (E : Ex) (h : AH) (H : Heap) : Prop := ∀ (a : Nat) (e : CE), h a = some e → va_at E.1 vwCl (a, ceE E e) H ∧ E.2.2.2 ≤ a
def hU (h : AH) (a : Nat) (e : CE) : AH := fun b => if b = a then some e else h b
abbrev tyL (E : Ex) : List (ClassId × FieldType) := [(E.2.1 0, .int), (E.2.1 1, .long), (E.2.1 2, .boolean), (E.2.1 3, .object RX1), (E.2.1 4, .object RX3)]
def z_STRIDE (j : Nat) : Int32 := ([1, 4, 16] : List Int32).getD j 0
def z_FLOOR (j : Nat) : Int64 := ([1229782938247303441, 4222189076152335, 65535] : List Int64).getD j 0
def z_STAYS (j : Nat) : Int64 := ([-1, 8608480567731124087, 3689348814741910323, 1229782938247303441, -1, 1152657617789587455, 71777214294589695, 4222189076152335, -1, 281474976710655, 4294967295, 65535] : List Int64).getD j 0
def z_ORDERS (j : Nat) : Int32 := ([0, 1, 2, 1, 2, 0, 2, 0, 1, 0, 2, 1, 2, 1, 0, 1, 0, 2] : List Int32).getD j 0
def zOk (E : Ex) (U : State) (H : Heap) : Prop :=
  (va_Z RX0 "STRIDE" "[I" (.ref (E.2.2.1 0)) (xA E) U H ∧ va_T .int (E.2.2.1 0) 3 (fun j => .int (z_STRIDE j)) (xA E) U H) ∧
  (va_Z RX0 "FLOOR" "[J" (.ref (E.2.2.1 1)) (xA E) U H ∧ va_T .long (E.2.2.1 1) 3 (fun j => .long (z_FLOOR j)) (xA E) U H) ∧
  (va_Z RX0 "STAYS" "[J" (.ref (E.2.2.1 2)) (xA E) U H ∧ va_T .long (E.2.2.1 2) 12 (fun j => .long (z_STAYS j)) (xA E) U H) ∧
  (va_Z RX0 "ORDERS" "[I" (.ref (E.2.2.1 3)) (xA E) U H ∧ va_T .int (E.2.2.1 3) 18 (fun j => .int (z_ORDERS j)) (xA E) U H)
def xStr (U : State) (q : String × Nat × String) : Prop := ∃ a, vk_R q.1 q.2.1 q.2.2 a U
def xNest (U : State) : Prop := va_Nw (.methodLinkNest RX2 62 yX6_lowestPiece RX6) U ∧ va_Nw (.methodLinkNest RX5 146 yX6_lowestPiece RX6) U
def xStrs (U : State) : Prop := ∀ q ∈ ([(RX6, 117, "no such packing"), (RX6, 135, "the set is none of its shapes moved"), (RX6, 137, "another piece has one of the cells"), (RX6, 139, "the piece is not in the assembly"), (RX6, 150, "no such part"), (RX6, 152, "no such limit"), (RX6, 164, "no such move"), (RX6, 169, "no such piece"), (RX6, 171, "no such cell"), (RX6, 174, "no such budget"), (RX6, 49, "the cube is so already"), (RX6, 58, "a piece has 10 cubes at the most"), (RX6, 72, "no such shape"), (RX6, 81, "no such kind")] : List (String × Nat × String)), xStr U q
def x_IAE : String := "java/lang/IllegalArgumentException"
def x_ISE : String := "java/lang/IllegalStateException"
def x_IOB : String := "java/lang/IndexOutOfBoundsException"
def xThr (U : State) : Prop := va_Nw (.declares (Bundle.initS "java/lang/RuntimeException")) U ∧ va_Nw (.declares (Bundle.initS "java/lang/Exception")) U ∧ va_Nw (.declares (Bundle.initS Bundle.tN)) U ∧ va_Nw (.castable x_IAE x_IAE) U ∧ va_Nw (.castable x_ISE x_ISE) U ∧ va_Nw (.castable x_IOB x_IOB) U ∧ va_Nc x_ISE x_IAE U ∧ va_Nc x_IOB x_IAE U
/-- what every method's start has beside its own cells -/
def En (E : Ex) (U : State) (H : Heap) : Prop :=
  va_K E.1 vwCl (tyL E) U ∧ zOk E U H ∧ (vx_Zq Bundle.tN "UNASSIGNED_STACK" Bundle.steD (xA E) U H ∧ vx_Zq Bundle.tN "SUPPRESSED_SENTINEL" Bundle.listD (xA E) U H) ∧ xNest U ∧ xStrs U ∧ va_AO RX1 U ∧ va_AO RX3 U ∧ E.2.2.2 ≤ H.size ∧ xThr U
theorem En.at {E : Ex} {s U : State} {H : Heap} {locs : List Loc} (h : En E s s.heap) (hS : va_S (xA E) s.heap H locs) (hW : s.WarmedH U.vm) (hU : U.heap = H) : En E U U.heap := by
  have hk : ∀ a : Nat, a < s.heap.size → ¬ xA E a → U.heap[a]? = s.heap[a]? := fun a h1 h2 => by rw [hU]; exact hS.2.1 a h1 h2
  obtain ⟨h1, ⟨⟨a1, a2⟩, ⟨a3, a4⟩, ⟨a5, a6⟩, ⟨a7, a8⟩⟩, ⟨b1, b2⟩, ⟨n1, n2⟩, h5, o1, o2, h6, t1, t2, t3, t4, t5, t6, t7, t8⟩ := h
  have hv := hW.alike
  refine ⟨va_K.moved hv h1, ⟨⟨(a1.moved hv).kept hk, (a2.moved hv).kept hk⟩, ⟨(a3.moved hv).kept hk, (a4.moved hv).kept hk⟩, ⟨(a5.moved hv).kept hk, (a6.moved hv).kept hk⟩, ⟨(a7.moved hv).kept hk, (a8.moved hv).kept hk⟩⟩, ⟨(b1.moved hv).kept hk, (b2.moved hv).kept hk⟩, ⟨va_Nw.warmM hW n1, va_Nw.warmM hW n2⟩, fun q hq => ?_, ?_, ?_, ?_, va_Nw.warmD hW t1, va_Nw.warmD hW t2, va_Nw.warmD hW t3, va_Nw.warmC hW t4, va_Nw.warmC hW t5, va_Nw.warmC hW t6, t7.moved hv, t8.moved hv⟩
  · obtain ⟨a, ha⟩ := h5 q hq
    exact ⟨a, vk_R.warm hW ha⟩
  · exact va_AO.moved hv o1
  · exact va_AO.moved hv o2
  · rw [hU]; exact Nat.le_trans h6 hS.1
theorem En.blind {E : Ex} {U : State} {g : JFrame} {mk : MethodId} {a : Array Value} (h : En E U U.heap) : En E (U.calling g mk a) (U.calling g mk a).heap := by
  exact En.at (s := U) (U := U.calling g mk a) (H := U.heap) (locs := []) h va_S.rf (State.WarmedH.refl U) rfl
theorem hR.kept {E : Ex} {h : AH} {H H1 : Heap} (hh : hR E h H) (hq : ∀ q : Nat, q < H.size → H1[q]? = H[q]?) : hR E h H1 := fun a e ha => ⟨(hh a e ha).1.kept (hq a (hh a e ha).1.lt), (hh a e ha).2⟩
theorem hR.set {E : Ex} {h : AH} {H H1 : Heap} {a : Nat} {e : CE} (hh : hR E h H) (h0 : E.2.2.2 ≤ a) (he : va_at E.1 vwCl (a, ceE E e) H1) (hq : ∀ q : Nat, q ≠ a → H1[q]? = H[q]?) : hR E (hU h a e) H1 := fun b x hb => by
  unfold hU at hb
  by_cases e1 : b = a
  · subst e1
    rw [if_pos rfl] at hb
    cases hb
    exact ⟨he, h0⟩
  · rw [if_neg e1] at hb
    exact ⟨(hh b x hb).1.kept (hq b e1), (hh b x hb).2⟩
theorem hR.new {E : Ex} {h : AH} {H H1 : Heap} {e : CE} (hh : hR E h H) (h0 : E.2.2.2 ≤ H.size) (he : va_at E.1 vwCl (H.size, ceE E e) H1) (hq : ∀ q : Nat, q < H.size → H1[q]? = H[q]?) : hR E (hU h H.size e) H1 := fun b x hb => by
  unfold hU at hb
  by_cases e1 : b = H.size
  · subst e1
    rw [if_pos rfl] at hb
    cases hb
    exact ⟨he, h0⟩
  · rw [if_neg e1] at hb
    exact ⟨(hh b x hb).1.kept (hq b (hh b x hb).1.lt), (hh b x hb).2⟩
theorem va_S.push {A : Nat → Prop} {H0 H H1 : Heap} {locs : List Loc} (h : va_S A H0 H locs) (z : H1.size = H.size + 1) (o : ∀ q : Nat, q < H.size → H1[q]? = H[q]?) : va_S A H0 H1 locs := ⟨Nat.le_trans h.1 (by omega), fun x h1 h2 => (o x (Nat.lt_of_lt_of_le h1 h.1)).trans (h.2.1 x h1 h2), h.2.2⟩
/-- everything that stays the same over a walk: the machine, the method, what it must end in -/
abbrev KX : Type := Program × Launch × Env × Room × State × MethodId × Array Value × List Frame × Method × Code × Nat × Ex × (State → Prop)
def G (K : KX) (cells slots pc : Nat) (lv : List (Nat × Value)) (st : List Value) (h : AH) (n : Nat) : Prop := match K with
  | (p, l, e, R, s, m, args, below, meth, c, nL, E, Q) => ∀ (ls : Array Slot) (H : Heap) (locs : List Loc), lv_has ls nL lv → hR E h H → H.size = n → va_S (xA E) s.heap H locs → W p l e R s m args below meth c H locs cells slots Q (F0 m pc ls st)
def Cx (K : KX) (own : String) (nm : String) (cc : ByteArray) (ret : Option FieldType) : Prop := match K with
  | (p, _, _, _, s, m, args, _, meth, c, nL, E, _) => p.tables.exec = Jvm.exec ∧ c.code = cc ∧ c.maxLocals = nL ∧ s.vm.findClass own = some m.cls ∧ (∀ w ∈ TT, w.before args s = true) ∧ En E s s.heap ∧ meth.sig.returnType = ret ∧ meth.locks = false ∧ meth.name = nm
abbrev kL (K : KX) : Launch := K.2.1
abbrev kR (K : KX) : Room := K.2.2.2.1
abbrev kE (K : KX) : Ex := K.2.2.2.2.2.2.2.2.2.2.2.1
abbrev kN (K : KX) : Nat := K.2.2.2.2.2.2.2.2.2.2.1
section Rows
variable {K : KX} {own nm : String} {cc : ByteArray} {ret : Option FieldType} {cells slots pc pc' : Nat} {lv : List (Nat × Value)} {st : List Value} {h : AH} {n : Nat}
theorem g_iconst (C : Cx K own nm cc ret) {i : Int} {v : Int32} (hv : Int32.ofInt i = v) (d : decode cc pc = .ok (.iconst i, 1)) (hp : pc + 1 = pc') (k : G K cells slots pc' lv (.int v :: st) h n) : G K cells slots pc lv (st) h n := by
  obtain ⟨p, l, e, R, s, m, args, below, meth, c, nL, E, Q⟩ := K
  intro ls H locs hl hR hn hS
  subst hp
  exact lv_iconst C.1 C.2.1 d hv (k ls H locs hl hR hn hS)
theorem g_bipush (C : Cx K own nm cc ret) {i : Int} {v : Int32} (hv : (Int8.ofInt i).toInt32 = v) (d : decode cc pc = .ok (.bipush i, 2)) (hp : pc + 2 = pc') (k : G K cells slots pc' lv (.int v :: st) h n) : G K cells slots pc lv (st) h n := by
  obtain ⟨p, l, e, R, s, m, args, below, meth, c, nL, E, Q⟩ := K
  intro ls H locs hl hR hn hS
  subst hp
  exact lv_bipush C.1 C.2.1 d hv (k ls H locs hl hR hn hS)
theorem g_sipush (C : Cx K own nm cc ret) {i : Int} {v : Int32} (hv : (Int16.ofInt i).toInt32 = v) (d : decode cc pc = .ok (.sipush i, 3)) (hp : pc + 3 = pc') (k : G K cells slots pc' lv (.int v :: st) h n) : G K cells slots pc lv (st) h n := by
  obtain ⟨p, l, e, R, s, m, args, below, meth, c, nL, E, Q⟩ := K
  intro ls H locs hl hR hn hS
  subst hp
  exact lv_sipush C.1 C.2.1 d hv (k ls H locs hl hR hn hS)
theorem g_lconst (C : Cx K own nm cc ret) {i : Fin 2} {v : Int64} (hv : Int64.ofNat (i : Nat) = v) (d : decode cc pc = .ok (.lconst i, 1)) (hp : pc + 1 = pc') (k : G K cells slots pc' lv (.long v :: st) h n) : G K cells slots pc lv (st) h n := by
  obtain ⟨p, l, e, R, s, m, args, below, meth, c, nL, E, Q⟩ := K
  intro ls H locs hl hR hn hS
  subst hp
  exact lv_lconst C.1 C.2.1 d hv (k ls H locs hl hR hn hS)
theorem g_iload_n (C : Cx K own nm cc ret) {k4 : Fin 4} {i q : Nat} {x : Int32} (hi : (k4 : Nat) = i) (hq : lv[q]? = some (i, .int x)) (d : decode cc pc = .ok (.iload_n k4, 1)) (hp : pc + 1 = pc') (k : G K cells slots pc' lv (.int x :: st) h n) : G K cells slots pc lv (st) h n := by
  obtain ⟨p, l, e, R, s, m, args, below, meth, c, nL, E, Q⟩ := K
  intro ls H locs hl hR hn hS
  subst hp
  exact lv_iload_n C.1 C.2.1 d hi (lv_at hl q hq) (k ls H locs hl hR hn hS)
theorem g_iload (C : Cx K own nm cc ret) {i q : Nat} {x : Int32} (hq : lv[q]? = some (i, .int x)) (d : decode cc pc = .ok (.iload i, 2)) (hp : pc + 2 = pc') (k : G K cells slots pc' lv (.int x :: st) h n) : G K cells slots pc lv (st) h n := by
  obtain ⟨p, l, e, R, s, m, args, below, meth, c, nL, E, Q⟩ := K
  intro ls H locs hl hR hn hS
  subst hp
  exact lv_iload C.1 C.2.1 d (lv_at hl q hq) (k ls H locs hl hR hn hS)
theorem g_lload_n (C : Cx K own nm cc ret) {k4 : Fin 4} {i q : Nat} {x : Int64} (hi : (k4 : Nat) = i) (hq : lv[q]? = some (i, .long x)) (d : decode cc pc = .ok (.lload_n k4, 1)) (hp : pc + 1 = pc') (k : G K cells slots pc' lv (.long x :: st) h n) : G K cells slots pc lv (st) h n := by
  obtain ⟨p, l, e, R, s, m, args, below, meth, c, nL, E, Q⟩ := K
  intro ls H locs hl hR hn hS
  subst hp
  exact lv_lload_n C.1 C.2.1 d hi (lv_at hl q hq) (k ls H locs hl hR hn hS)
theorem g_lload (C : Cx K own nm cc ret) {i q : Nat} {x : Int64} (hq : lv[q]? = some (i, .long x)) (d : decode cc pc = .ok (.lload i, 2)) (hp : pc + 2 = pc') (k : G K cells slots pc' lv (.long x :: st) h n) : G K cells slots pc lv (st) h n := by
  obtain ⟨p, l, e, R, s, m, args, below, meth, c, nL, E, Q⟩ := K
  intro ls H locs hl hR hn hS
  subst hp
  exact lv_lload C.1 C.2.1 d (lv_at hl q hq) (k ls H locs hl hR hn hS)
theorem g_aload_n (C : Cx K own nm cc ret) {k4 : Fin 4} {i q : Nat} {x : Nat} (hi : (k4 : Nat) = i) (hq : lv[q]? = some (i, .ref x)) (d : decode cc pc = .ok (.aload_n k4, 1)) (hp : pc + 1 = pc') (k : G K cells slots pc' lv (.ref x :: st) h n) : G K cells slots pc lv (st) h n := by
  obtain ⟨p, l, e, R, s, m, args, below, meth, c, nL, E, Q⟩ := K
  intro ls H locs hl hR hn hS
  subst hp
  exact lv_aload_n C.1 C.2.1 d hi (lv_at hl q hq) (k ls H locs hl hR hn hS)
theorem g_aload (C : Cx K own nm cc ret) {i q : Nat} {x : Nat} (hq : lv[q]? = some (i, .ref x)) (d : decode cc pc = .ok (.aload i, 2)) (hp : pc + 2 = pc') (k : G K cells slots pc' lv (.ref x :: st) h n) : G K cells slots pc lv (st) h n := by
  obtain ⟨p, l, e, R, s, m, args, below, meth, c, nL, E, Q⟩ := K
  intro ls H locs hl hR hn hS
  subst hp
  exact lv_aload C.1 C.2.1 d (lv_at hl q hq) (k ls H locs hl hR hn hS)
theorem g_iadd (C : Cx K own nm cc ret) {x y : Int32} (d : decode cc pc = .ok (.iadd, 1)) (hp : pc + 1 = pc') (k : G K cells slots pc' lv (.int (x + y) :: st) h n) : G K cells slots pc lv (.int y :: .int x :: st) h n := by
  obtain ⟨p, l, e, R, s, m, args, below, meth, c, nL, E, Q⟩ := K
  intro ls H locs hl hR hn hS
  subst hp
  exact lv_iadd C.1 C.2.1 d (k ls H locs hl hR hn hS)
theorem g_isub (C : Cx K own nm cc ret) {x y : Int32} (d : decode cc pc = .ok (.isub, 1)) (hp : pc + 1 = pc') (k : G K cells slots pc' lv (.int (x - y) :: st) h n) : G K cells slots pc lv (.int y :: .int x :: st) h n := by
  obtain ⟨p, l, e, R, s, m, args, below, meth, c, nL, E, Q⟩ := K
  intro ls H locs hl hR hn hS
  subst hp
  exact lv_isub C.1 C.2.1 d (k ls H locs hl hR hn hS)
theorem g_imul (C : Cx K own nm cc ret) {x y : Int32} (d : decode cc pc = .ok (.imul, 1)) (hp : pc + 1 = pc') (k : G K cells slots pc' lv (.int (x * y) :: st) h n) : G K cells slots pc lv (.int y :: .int x :: st) h n := by
  obtain ⟨p, l, e, R, s, m, args, below, meth, c, nL, E, Q⟩ := K
  intro ls H locs hl hR hn hS
  subst hp
  exact lv_imul C.1 C.2.1 d (k ls H locs hl hR hn hS)
theorem g_iand (C : Cx K own nm cc ret) {x y : Int32} (d : decode cc pc = .ok (.iand, 1)) (hp : pc + 1 = pc') (k : G K cells slots pc' lv (.int (x &&& y) :: st) h n) : G K cells slots pc lv (.int y :: .int x :: st) h n := by
  obtain ⟨p, l, e, R, s, m, args, below, meth, c, nL, E, Q⟩ := K
  intro ls H locs hl hR hn hS
  subst hp
  exact lv_iand C.1 C.2.1 d (k ls H locs hl hR hn hS)
theorem g_ior (C : Cx K own nm cc ret) {x y : Int32} (d : decode cc pc = .ok (.ior, 1)) (hp : pc + 1 = pc') (k : G K cells slots pc' lv (.int (x ||| y) :: st) h n) : G K cells slots pc lv (.int y :: .int x :: st) h n := by
  obtain ⟨p, l, e, R, s, m, args, below, meth, c, nL, E, Q⟩ := K
  intro ls H locs hl hR hn hS
  subst hp
  exact lv_ior C.1 C.2.1 d (k ls H locs hl hR hn hS)
theorem g_ixor (C : Cx K own nm cc ret) {x y : Int32} (d : decode cc pc = .ok (.ixor, 1)) (hp : pc + 1 = pc') (k : G K cells slots pc' lv (.int (x ^^^ y) :: st) h n) : G K cells slots pc lv (.int y :: .int x :: st) h n := by
  obtain ⟨p, l, e, R, s, m, args, below, meth, c, nL, E, Q⟩ := K
  intro ls H locs hl hR hn hS
  subst hp
  exact lv_ixor C.1 C.2.1 d (k ls H locs hl hR hn hS)
theorem g_ladd (C : Cx K own nm cc ret) {x y : Int64} (d : decode cc pc = .ok (.ladd, 1)) (hp : pc + 1 = pc') (k : G K cells slots pc' lv (.long (x + y) :: st) h n) : G K cells slots pc lv (.long y :: .long x :: st) h n := by
  obtain ⟨p, l, e, R, s, m, args, below, meth, c, nL, E, Q⟩ := K
  intro ls H locs hl hR hn hS
  subst hp
  exact lv_ladd C.1 C.2.1 d (k ls H locs hl hR hn hS)
theorem g_lsub (C : Cx K own nm cc ret) {x y : Int64} (d : decode cc pc = .ok (.lsub, 1)) (hp : pc + 1 = pc') (k : G K cells slots pc' lv (.long (x - y) :: st) h n) : G K cells slots pc lv (.long y :: .long x :: st) h n := by
  obtain ⟨p, l, e, R, s, m, args, below, meth, c, nL, E, Q⟩ := K
  intro ls H locs hl hR hn hS
  subst hp
  exact lv_lsub C.1 C.2.1 d (k ls H locs hl hR hn hS)
theorem g_land (C : Cx K own nm cc ret) {x y : Int64} (d : decode cc pc = .ok (.land, 1)) (hp : pc + 1 = pc') (k : G K cells slots pc' lv (.long (x &&& y) :: st) h n) : G K cells slots pc lv (.long y :: .long x :: st) h n := by
  obtain ⟨p, l, e, R, s, m, args, below, meth, c, nL, E, Q⟩ := K
  intro ls H locs hl hR hn hS
  subst hp
  exact lv_land C.1 C.2.1 d (k ls H locs hl hR hn hS)
theorem g_lor (C : Cx K own nm cc ret) {x y : Int64} (d : decode cc pc = .ok (.lor, 1)) (hp : pc + 1 = pc') (k : G K cells slots pc' lv (.long (x ||| y) :: st) h n) : G K cells slots pc lv (.long y :: .long x :: st) h n := by
  obtain ⟨p, l, e, R, s, m, args, below, meth, c, nL, E, Q⟩ := K
  intro ls H locs hl hR hn hS
  subst hp
  exact lv_lor C.1 C.2.1 d (k ls H locs hl hR hn hS)
theorem g_lxor (C : Cx K own nm cc ret) {x y : Int64} (d : decode cc pc = .ok (.lxor, 1)) (hp : pc + 1 = pc') (k : G K cells slots pc' lv (.long (x ^^^ y) :: st) h n) : G K cells slots pc lv (.long y :: .long x :: st) h n := by
  obtain ⟨p, l, e, R, s, m, args, below, meth, c, nL, E, Q⟩ := K
  intro ls H locs hl hR hn hS
  subst hp
  exact lv_lxor C.1 C.2.1 d (k ls H locs hl hR hn hS)
theorem g_idiv (C : Cx K own nm cc ret) {x y : Int32} (hne : ¬ y = 0) (d : decode cc pc = .ok (.idiv, 1)) (hp : pc + 1 = pc') (k : G K cells slots pc' lv (.int (x / y) :: st) h n) : G K cells slots pc lv (.int y :: .int x :: st) h n := by
  obtain ⟨p, l, e, R, s, m, args, below, meth, c, nL, E, Q⟩ := K
  intro ls H locs hl hR hn hS
  subst hp
  exact lv_idiv C.1 C.2.1 d hne (k ls H locs hl hR hn hS)
theorem g_irem (C : Cx K own nm cc ret) {x y : Int32} (hne : ¬ y = 0) (d : decode cc pc = .ok (.irem, 1)) (hp : pc + 1 = pc') (k : G K cells slots pc' lv (.int (x - x / y * y) :: st) h n) : G K cells slots pc lv (.int y :: .int x :: st) h n := by
  obtain ⟨p, l, e, R, s, m, args, below, meth, c, nL, E, Q⟩ := K
  intro ls H locs hl hR hn hS
  subst hp
  exact lv_irem C.1 C.2.1 d hne (k ls H locs hl hR hn hS)
theorem g_ineg (C : Cx K own nm cc ret) {x : Int32} (d : decode cc pc = .ok (.ineg, 1)) (hp : pc + 1 = pc') (k : G K cells slots pc' lv (.int (-x) :: st) h n) : G K cells slots pc lv (.int x :: st) h n := by
  obtain ⟨p, l, e, R, s, m, args, below, meth, c, nL, E, Q⟩ := K
  intro ls H locs hl hR hn hS
  subst hp
  exact lv_ineg C.1 C.2.1 d (k ls H locs hl hR hn hS)
theorem g_lneg (C : Cx K own nm cc ret) {x : Int64} (d : decode cc pc = .ok (.lneg, 1)) (hp : pc + 1 = pc') (k : G K cells slots pc' lv (.long (-x) :: st) h n) : G K cells slots pc lv (.long x :: st) h n := by
  obtain ⟨p, l, e, R, s, m, args, below, meth, c, nL, E, Q⟩ := K
  intro ls H locs hl hR hn hS
  subst hp
  exact lv_lneg C.1 C.2.1 d (k ls H locs hl hR hn hS)
theorem g_ishl (C : Cx K own nm cc ret) {x y : Int32} (d : decode cc pc = .ok (.ishl, 1)) (hp : pc + 1 = pc') (k : G K cells slots pc' lv (.int (x <<< (y &&& 31)) :: st) h n) : G K cells slots pc lv (.int y :: .int x :: st) h n := by
  obtain ⟨p, l, e, R, s, m, args, below, meth, c, nL, E, Q⟩ := K
  intro ls H locs hl hR hn hS
  subst hp
  exact lv_ishl C.1 C.2.1 d (k ls H locs hl hR hn hS)
theorem g_ishr (C : Cx K own nm cc ret) {x y : Int32} (d : decode cc pc = .ok (.ishr, 1)) (hp : pc + 1 = pc') (k : G K cells slots pc' lv (.int (x >>> (y &&& 31)) :: st) h n) : G K cells slots pc lv (.int y :: .int x :: st) h n := by
  obtain ⟨p, l, e, R, s, m, args, below, meth, c, nL, E, Q⟩ := K
  intro ls H locs hl hR hn hS
  subst hp
  exact lv_ishr C.1 C.2.1 d (k ls H locs hl hR hn hS)
theorem g_iushr (C : Cx K own nm cc ret) {x y : Int32} (d : decode cc pc = .ok (.iushr, 1)) (hp : pc + 1 = pc') (k : G K cells slots pc' lv (.int ((x.toUInt32 >>> (y.toUInt32 &&& Int32.toUInt32 31)).toInt32) :: st) h n) : G K cells slots pc lv (.int y :: .int x :: st) h n := by
  obtain ⟨p, l, e, R, s, m, args, below, meth, c, nL, E, Q⟩ := K
  intro ls H locs hl hR hn hS
  subst hp
  exact lv_iushr C.1 C.2.1 d rfl (k ls H locs hl hR hn hS)
theorem g_lushr (C : Cx K own nm cc ret) {x : Int64} {y : Int32} (d : decode cc pc = .ok (.lushr, 1)) (hp : pc + 1 = pc') (k : G K cells slots pc' lv (.long ((x.toUInt64 >>> (y.toInt64.toUInt64 &&& Int64.toUInt64 63)).toInt64) :: st) h n) : G K cells slots pc lv (.int y :: .long x :: st) h n := by
  obtain ⟨p, l, e, R, s, m, args, below, meth, c, nL, E, Q⟩ := K
  intro ls H locs hl hR hn hS
  subst hp
  exact lv_lushr C.1 C.2.1 d rfl (k ls H locs hl hR hn hS)
theorem g_lshl (C : Cx K own nm cc ret) {x : Int64} {y : Int32} (d : decode cc pc = .ok (.lshl, 1)) (hp : pc + 1 = pc') (k : G K cells slots pc' lv (.long (x <<< (y.toInt64 &&& 63)) :: st) h n) : G K cells slots pc lv (.int y :: .long x :: st) h n := by
  obtain ⟨p, l, e, R, s, m, args, below, meth, c, nL, E, Q⟩ := K
  intro ls H locs hl hR hn hS
  subst hp
  exact lv_lshl C.1 C.2.1 d rfl (k ls H locs hl hR hn hS)
theorem g_i2l (C : Cx K own nm cc ret) {x : Int32} (d : decode cc pc = .ok (.i2l, 1)) (hp : pc + 1 = pc') (k : G K cells slots pc' lv (.long (x.toInt64) :: st) h n) : G K cells slots pc lv (.int x :: st) h n := by
  obtain ⟨p, l, e, R, s, m, args, below, meth, c, nL, E, Q⟩ := K
  intro ls H locs hl hR hn hS
  subst hp
  exact lv_i2l C.1 C.2.1 d rfl (k ls H locs hl hR hn hS)
theorem g_l2i (C : Cx K own nm cc ret) {x : Int64} (d : decode cc pc = .ok (.l2i, 1)) (hp : pc + 1 = pc') (k : G K cells slots pc' lv (.int (x.toInt32) :: st) h n) : G K cells slots pc lv (.long x :: st) h n := by
  obtain ⟨p, l, e, R, s, m, args, below, meth, c, nL, E, Q⟩ := K
  intro ls H locs hl hR hn hS
  subst hp
  exact lv_l2i C.1 C.2.1 d rfl (k ls H locs hl hR hn hS)
theorem g_dup (C : Cx K own nm cc ret) {v : Value} (hv : v.category = 1) (d : decode cc pc = .ok (.dup, 1)) (hp : pc + 1 = pc') (k : G K cells slots pc' lv (v :: v :: st) h n) : G K cells slots pc lv (v :: st) h n := by
  obtain ⟨p, l, e, R, s, m, args, below, meth, c, nL, E, Q⟩ := K
  intro ls H locs hl hR hn hS
  subst hp
  exact lv_dup C.1 C.2.1 d hv (k ls H locs hl hR hn hS)
theorem g_dup2 (C : Cx K own nm cc ret) {v w : Value} (hv : v.category = 1) (hw : w.category = 1) (d : decode cc pc = .ok (.dup2, 1)) (hp : pc + 1 = pc') (k : G K cells slots pc' lv (v :: w :: v :: w :: st) h n) : G K cells slots pc lv (v :: w :: st) h n := by
  obtain ⟨p, l, e, R, s, m, args, below, meth, c, nL, E, Q⟩ := K
  intro ls H locs hl hR hn hS
  subst hp
  exact lv_dup2_11 C.1 C.2.1 d hv hw (k ls H locs hl hR hn hS)
theorem g_lcmp (C : Cx K own nm cc ret) {x y : Int64} (d : decode cc pc = .ok (.lcmp, 1)) (hp : pc + 1 = pc') (k : G K cells slots pc' lv (.int (lg_cmp x y) :: st) h n) : G K cells slots pc lv (.long y :: .long x :: st) h n := by
  obtain ⟨p, l, e, R, s, m, args, below, meth, c, nL, E, Q⟩ := K
  intro ls H locs hl hR hn hS
  subst hp
  exact W.lcmp C.1 C.2.1 d (k ls H locs hl hR hn hS)
theorem g_istore_n (C : Cx K own nm cc ret) {k4 : Fin 4} {i : Nat} {x : Int32} {lv' : List (Nat × Value)} (d : decode cc pc = .ok (.istore_n k4, 1)) (hp : pc + 1 = pc') (hi : (k4 : Nat) = i) (hn0 : i < kN K) (hl0 : (i, Value.int x) :: lv.filter (fun q => !(q.1 == i) && !(q.1 + 1 == i && q.2.category == 2)) = lv') (k : G K cells slots pc' lv' st h n) : G K cells slots pc lv (.int x :: st) h n := by
  obtain ⟨p, l, e, R, s, m, args, below, meth, c, nL, E, Q⟩ := K
  intro ls H locs hl hR hn hS
  subst hp
  exact lv_istore_n (lv' := lv') C.1 C.2.1 d hi hl hn0 hl0 (fun ls1 hl1 => k ls1 H locs hl1 hR hn hS)
theorem g_istore (C : Cx K own nm cc ret)  {i : Nat} {x : Int32} {lv' : List (Nat × Value)} (d : decode cc pc = .ok (.istore i, 2)) (hp : pc + 2 = pc')  (hn0 : i < kN K) (hl0 : (i, Value.int x) :: lv.filter (fun q => !(q.1 == i) && !(q.1 + 1 == i && q.2.category == 2)) = lv') (k : G K cells slots pc' lv' st h n) : G K cells slots pc lv (.int x :: st) h n := by
  obtain ⟨p, l, e, R, s, m, args, below, meth, c, nL, E, Q⟩ := K
  intro ls H locs hl hR hn hS
  subst hp
  exact lv_istore (lv' := lv') C.1 C.2.1 d hl hn0 hl0 (fun ls1 hl1 => k ls1 H locs hl1 hR hn hS)
theorem g_astore_n (C : Cx K own nm cc ret) {k4 : Fin 4} {i : Nat} {x : Nat} {lv' : List (Nat × Value)} (d : decode cc pc = .ok (.astore_n k4, 1)) (hp : pc + 1 = pc') (hi : (k4 : Nat) = i) (hn0 : i < kN K) (hl0 : (i, Value.ref x) :: lv.filter (fun q => !(q.1 == i) && !(q.1 + 1 == i && q.2.category == 2)) = lv') (k : G K cells slots pc' lv' st h n) : G K cells slots pc lv (.ref x :: st) h n := by
  obtain ⟨p, l, e, R, s, m, args, below, meth, c, nL, E, Q⟩ := K
  intro ls H locs hl hR hn hS
  subst hp
  exact lv_astore_n (lv' := lv') C.1 C.2.1 d hi hl hn0 hl0 (fun ls1 hl1 => k ls1 H locs hl1 hR hn hS)
theorem g_astore (C : Cx K own nm cc ret)  {i : Nat} {x : Nat} {lv' : List (Nat × Value)} (d : decode cc pc = .ok (.astore i, 2)) (hp : pc + 2 = pc')  (hn0 : i < kN K) (hl0 : (i, Value.ref x) :: lv.filter (fun q => !(q.1 == i) && !(q.1 + 1 == i && q.2.category == 2)) = lv') (k : G K cells slots pc' lv' st h n) : G K cells slots pc lv (.ref x :: st) h n := by
  obtain ⟨p, l, e, R, s, m, args, below, meth, c, nL, E, Q⟩ := K
  intro ls H locs hl hR hn hS
  subst hp
  exact lv_astore (lv' := lv') C.1 C.2.1 d hl hn0 hl0 (fun ls1 hl1 => k ls1 H locs hl1 hR hn hS)
theorem g_lstore_n (C : Cx K own nm cc ret) {k4 : Fin 4} {i : Nat} {x : Int64} {lv' : List (Nat × Value)} (d : decode cc pc = .ok (.lstore_n k4, 1)) (hp : pc + 1 = pc') (hi : (k4 : Nat) = i) (hn0 : i + 1 < kN K) (hl0 : (i, Value.long x) :: lv.filter (fun q => !(q.1 == i) && (!(q.1 == i + 1) && !(q.1 + 1 == i && q.2.category == 2))) = lv') (k : G K cells slots pc' lv' st h n) : G K cells slots pc lv (.long x :: st) h n := by
  obtain ⟨p, l, e, R, s, m, args, below, meth, c, nL, E, Q⟩ := K
  intro ls H locs hl hR hn hS
  subst hp
  exact lv_lstore_n (lv' := lv') C.1 C.2.1 d hi hl hn0 hl0 (fun ls1 hl1 => k ls1 H locs hl1 hR hn hS)
theorem g_lstore (C : Cx K own nm cc ret)  {i : Nat} {x : Int64} {lv' : List (Nat × Value)} (d : decode cc pc = .ok (.lstore i, 2)) (hp : pc + 2 = pc')  (hn0 : i + 1 < kN K) (hl0 : (i, Value.long x) :: lv.filter (fun q => !(q.1 == i) && (!(q.1 == i + 1) && !(q.1 + 1 == i && q.2.category == 2))) = lv') (k : G K cells slots pc' lv' st h n) : G K cells slots pc lv (.long x :: st) h n := by
  obtain ⟨p, l, e, R, s, m, args, below, meth, c, nL, E, Q⟩ := K
  intro ls H locs hl hR hn hS
  subst hp
  exact lv_lstore (lv' := lv') C.1 C.2.1 d hl hn0 hl0 (fun ls1 hl1 => k ls1 H locs hl1 hR hn hS)
theorem g_iinc (C : Cx K own nm cc ret) {i q : Nat} {z : Int} {x v : Int32} {lv' : List (Nat × Value)} (d : decode cc pc = .ok (.iinc i z, 3)) (hp : pc + 3 = pc') (hq : lv[q]? = some (i, .int x)) (hv : x + Int32.ofInt z = v) (hn0 : i < kN K) (hl0 : (i, Value.int v) :: lv.filter (fun q => !(q.1 == i) && !(q.1 + 1 == i && q.2.category == 2)) = lv') (k : G K cells slots pc' lv' st h n) : G K cells slots pc lv st h n := by
  obtain ⟨p, l, e, R, s, m, args, below, meth, c, nL, E, Q⟩ := K
  intro ls H locs hl hR hn hS
  subst hp
  exact lv_iinc (v := v) (lv' := lv') C.1 C.2.1 d hl hq hv hn0 hl0 (fun ls1 hl1 => k ls1 H locs hl1 hR hn hS)
theorem g_goto (C : Cx K own nm cc ret) {off : Int} (d : decode cc pc = .ok (.goto off, 3)) (hp : (pc : Int) + off = (pc' : Int)) (k : G K cells slots pc' lv st h n) : G K cells slots pc lv st h n := by
  obtain ⟨p, l, e, R, s, m, args, below, meth, c, nL, E, Q⟩ := K
  intro ls H locs hl hR hn hS
  exact lv_goto C.1 C.2.1 d hp (k ls H locs hl hR hn hS)
theorem g_if_eq (C : Cx K own nm cc ret) {x : Int32} {off : Int} {tgt : Nat} (d : decode cc pc = .ok (.ifCond .eq off, 3)) (ht : (pc : Int) + off = (tgt : Int)) (hp : pc + 3 = pc') (k1 : x = 0 → G K cells slots tgt lv st h n) (k2 : ¬ (x = 0) → G K cells slots pc' lv st h n) : G K cells slots pc lv (.int x :: st) h n := by
  obtain ⟨p, l, e, R, s, m, args, below, meth, c, nL, E, Q⟩ := K
  intro ls H locs hl hR hn hS
  subst hp
  exact lv_if_eq C.1 C.2.1 d ht (fun z => k1 z ls H locs hl hR hn hS) (fun z => k2 z ls H locs hl hR hn hS)
theorem g_icmp_eq (C : Cx K own nm cc ret) {x y : Int32} {off : Int} {tgt : Nat} (d : decode cc pc = .ok (.if_icmp .eq off, 3)) (ht : (pc : Int) + off = (tgt : Int)) (hp : pc + 3 = pc') (k1 : x = y → G K cells slots tgt lv st h n) (k2 : ¬ (x = y) → G K cells slots pc' lv st h n) : G K cells slots pc lv (.int y :: .int x :: st) h n := by
  obtain ⟨p, l, e, R, s, m, args, below, meth, c, nL, E, Q⟩ := K
  intro ls H locs hl hR hn hS
  subst hp
  exact lv_icmp_eq C.1 C.2.1 d ht (fun z => k1 z ls H locs hl hR hn hS) (fun z => k2 z ls H locs hl hR hn hS)
theorem g_if_ne (C : Cx K own nm cc ret) {x : Int32} {off : Int} {tgt : Nat} (d : decode cc pc = .ok (.ifCond .ne off, 3)) (ht : (pc : Int) + off = (tgt : Int)) (hp : pc + 3 = pc') (k1 : ¬ x = 0 → G K cells slots tgt lv st h n) (k2 : x = 0 → G K cells slots pc' lv st h n) : G K cells slots pc lv (.int x :: st) h n := by
  obtain ⟨p, l, e, R, s, m, args, below, meth, c, nL, E, Q⟩ := K
  intro ls H locs hl hR hn hS
  subst hp
  exact lv_if_ne C.1 C.2.1 d ht (fun z => k1 z ls H locs hl hR hn hS) (fun z => k2 z ls H locs hl hR hn hS)
theorem g_icmp_ne (C : Cx K own nm cc ret) {x y : Int32} {off : Int} {tgt : Nat} (d : decode cc pc = .ok (.if_icmp .ne off, 3)) (ht : (pc : Int) + off = (tgt : Int)) (hp : pc + 3 = pc') (k1 : ¬ x = y → G K cells slots tgt lv st h n) (k2 : x = y → G K cells slots pc' lv st h n) : G K cells slots pc lv (.int y :: .int x :: st) h n := by
  obtain ⟨p, l, e, R, s, m, args, below, meth, c, nL, E, Q⟩ := K
  intro ls H locs hl hR hn hS
  subst hp
  exact lv_icmp_ne C.1 C.2.1 d ht (fun z => k1 z ls H locs hl hR hn hS) (fun z => k2 z ls H locs hl hR hn hS)
theorem g_if_lt (C : Cx K own nm cc ret) {x : Int32} {off : Int} {tgt : Nat} (d : decode cc pc = .ok (.ifCond .lt off, 3)) (ht : (pc : Int) + off = (tgt : Int)) (hp : pc + 3 = pc') (k1 : x < 0 → G K cells slots tgt lv st h n) (k2 : ¬ (x < 0) → G K cells slots pc' lv st h n) : G K cells slots pc lv (.int x :: st) h n := by
  obtain ⟨p, l, e, R, s, m, args, below, meth, c, nL, E, Q⟩ := K
  intro ls H locs hl hR hn hS
  subst hp
  exact lv_if_lt C.1 C.2.1 d ht (fun z => k1 z ls H locs hl hR hn hS) (fun z => k2 z ls H locs hl hR hn hS)
theorem g_icmp_lt (C : Cx K own nm cc ret) {x y : Int32} {off : Int} {tgt : Nat} (d : decode cc pc = .ok (.if_icmp .lt off, 3)) (ht : (pc : Int) + off = (tgt : Int)) (hp : pc + 3 = pc') (k1 : x < y → G K cells slots tgt lv st h n) (k2 : ¬ (x < y) → G K cells slots pc' lv st h n) : G K cells slots pc lv (.int y :: .int x :: st) h n := by
  obtain ⟨p, l, e, R, s, m, args, below, meth, c, nL, E, Q⟩ := K
  intro ls H locs hl hR hn hS
  subst hp
  exact lv_icmp_lt C.1 C.2.1 d ht (fun z => k1 z ls H locs hl hR hn hS) (fun z => k2 z ls H locs hl hR hn hS)
theorem g_if_ge (C : Cx K own nm cc ret) {x : Int32} {off : Int} {tgt : Nat} (d : decode cc pc = .ok (.ifCond .ge off, 3)) (ht : (pc : Int) + off = (tgt : Int)) (hp : pc + 3 = pc') (k1 : 0 ≤ x → G K cells slots tgt lv st h n) (k2 : ¬ (0 ≤ x) → G K cells slots pc' lv st h n) : G K cells slots pc lv (.int x :: st) h n := by
  obtain ⟨p, l, e, R, s, m, args, below, meth, c, nL, E, Q⟩ := K
  intro ls H locs hl hR hn hS
  subst hp
  exact lv_if_ge C.1 C.2.1 d ht (fun z => k1 z ls H locs hl hR hn hS) (fun z => k2 z ls H locs hl hR hn hS)
theorem g_icmp_ge (C : Cx K own nm cc ret) {x y : Int32} {off : Int} {tgt : Nat} (d : decode cc pc = .ok (.if_icmp .ge off, 3)) (ht : (pc : Int) + off = (tgt : Int)) (hp : pc + 3 = pc') (k1 : y ≤ x → G K cells slots tgt lv st h n) (k2 : ¬ (y ≤ x) → G K cells slots pc' lv st h n) : G K cells slots pc lv (.int y :: .int x :: st) h n := by
  obtain ⟨p, l, e, R, s, m, args, below, meth, c, nL, E, Q⟩ := K
  intro ls H locs hl hR hn hS
  subst hp
  exact lv_icmp_ge C.1 C.2.1 d ht (fun z => k1 z ls H locs hl hR hn hS) (fun z => k2 z ls H locs hl hR hn hS)
theorem g_if_gt (C : Cx K own nm cc ret) {x : Int32} {off : Int} {tgt : Nat} (d : decode cc pc = .ok (.ifCond .gt off, 3)) (ht : (pc : Int) + off = (tgt : Int)) (hp : pc + 3 = pc') (k1 : 0 < x → G K cells slots tgt lv st h n) (k2 : ¬ (0 < x) → G K cells slots pc' lv st h n) : G K cells slots pc lv (.int x :: st) h n := by
  obtain ⟨p, l, e, R, s, m, args, below, meth, c, nL, E, Q⟩ := K
  intro ls H locs hl hR hn hS
  subst hp
  exact lv_if_gt C.1 C.2.1 d ht (fun z => k1 z ls H locs hl hR hn hS) (fun z => k2 z ls H locs hl hR hn hS)
theorem g_icmp_gt (C : Cx K own nm cc ret) {x y : Int32} {off : Int} {tgt : Nat} (d : decode cc pc = .ok (.if_icmp .gt off, 3)) (ht : (pc : Int) + off = (tgt : Int)) (hp : pc + 3 = pc') (k1 : y < x → G K cells slots tgt lv st h n) (k2 : ¬ (y < x) → G K cells slots pc' lv st h n) : G K cells slots pc lv (.int y :: .int x :: st) h n := by
  obtain ⟨p, l, e, R, s, m, args, below, meth, c, nL, E, Q⟩ := K
  intro ls H locs hl hR hn hS
  subst hp
  exact lv_icmp_gt C.1 C.2.1 d ht (fun z => k1 z ls H locs hl hR hn hS) (fun z => k2 z ls H locs hl hR hn hS)
theorem g_if_le (C : Cx K own nm cc ret) {x : Int32} {off : Int} {tgt : Nat} (d : decode cc pc = .ok (.ifCond .le off, 3)) (ht : (pc : Int) + off = (tgt : Int)) (hp : pc + 3 = pc') (k1 : x ≤ 0 → G K cells slots tgt lv st h n) (k2 : ¬ (x ≤ 0) → G K cells slots pc' lv st h n) : G K cells slots pc lv (.int x :: st) h n := by
  obtain ⟨p, l, e, R, s, m, args, below, meth, c, nL, E, Q⟩ := K
  intro ls H locs hl hR hn hS
  subst hp
  exact lv_if_le C.1 C.2.1 d ht (fun z => k1 z ls H locs hl hR hn hS) (fun z => k2 z ls H locs hl hR hn hS)
theorem g_icmp_le (C : Cx K own nm cc ret) {x y : Int32} {off : Int} {tgt : Nat} (d : decode cc pc = .ok (.if_icmp .le off, 3)) (ht : (pc : Int) + off = (tgt : Int)) (hp : pc + 3 = pc') (k1 : x ≤ y → G K cells slots tgt lv st h n) (k2 : ¬ (x ≤ y) → G K cells slots pc' lv st h n) : G K cells slots pc lv (.int y :: .int x :: st) h n := by
  obtain ⟨p, l, e, R, s, m, args, below, meth, c, nL, E, Q⟩ := K
  intro ls H locs hl hR hn hS
  subst hp
  exact lv_icmp_le C.1 C.2.1 d ht (fun z => k1 z ls H locs hl hR hn hS) (fun z => k2 z ls H locs hl hR hn hS)
theorem g_ldc (C : Cx K own nm cc ret) {ix : Nat} {v : Int32} (hw : Cond.constant own ix v ∈ TT) (d : decode cc pc = .ok (.ldc ix, 2)) (hp : pc + 2 = pc') (k : G K cells slots pc' lv (.int v :: st) h n) : G K cells slots pc lv st h n := by
  obtain ⟨p, l, e, R, s, m, args, below, meth, c, nL, E, Q⟩ := K
  intro ls H locs hl hR hn hS
  subst hp
  exact lv_ldc C.1 C.2.1 C.2.2.2.1 (C.2.2.2.2.1 _ hw) d (k ls H locs hl hR hn hS)
theorem g_ldcw (C : Cx K own nm cc ret) {ix : Nat} {v : Int32} (hw : Cond.constant own ix v ∈ TT) (d : decode cc pc = .ok (.ldc_w ix, 3)) (hp : pc + 3 = pc') (k : G K cells slots pc' lv (.int v :: st) h n) : G K cells slots pc lv st h n := by
  obtain ⟨p, l, e, R, s, m, args, below, meth, c, nL, E, Q⟩ := K
  intro ls H locs hl hR hn hS
  subst hp
  exact lv_ldcw C.1 C.2.1 C.2.2.2.1 (C.2.2.2.2.1 _ hw) d (k ls H locs hl hR hn hS)
theorem g_ldc2 (C : Cx K own nm cc ret) {ix : Nat} {v : Int64} (hw : Cond.constantLong own ix v ∈ TT) (d : decode cc pc = .ok (.ldc2_w ix, 3)) (hp : pc + 3 = pc') (k : G K cells slots pc' lv (.long v :: st) h n) : G K cells slots pc lv st h n := by
  obtain ⟨p, l, e, R, s, m, args, below, meth, c, nL, E, Q⟩ := K
  intro ls H locs hl hR hn hS
  subst hp
  exact lv_ldc2 C.1 C.2.1 C.2.2.2.1 (C.2.2.2.2.1 _ hw) d (k ls H locs hl hR hn hS)
/-- other names for the locals -/
theorem g_sub {lv' : List (Nat × Value)} (ks : List Nat) (hl0 : lv_pick lv ks = lv') (k : G K cells slots pc lv' st h n) : G K cells slots pc lv st h n := by
  obtain ⟨p, l, e, R, s, m, args, below, meth, c, nL, E, Q⟩ := K
  intro ls H locs hl hR hn hS
  exact k ls H locs (lv_sub hl ks hl0) hR hn hS
theorem g_heap {h' : AH} (e : h = h') (k : G K cells slots pc lv st h' n) : G K cells slots pc lv st h n := e ▸ k
end Rows
