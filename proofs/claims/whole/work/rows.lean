section
-- ===== PART A: goes FIRST, ahead of the names: the tables' words, and 'selects' of the private methods out of them =====
/-- a private method of a class that the tables say can be made, by its rows of tables_1 -/
def lw_okq (q : MethodName × Nat) : Prop := (q.1.cls ≠ "java/lang/invoke/MethodHandle" ∧ q.1.cls ≠ "java/lang/invoke/VarHandle") ∧ Cond.instantiable q.1.cls q.2 ∈ tables_1 ∧ Cond.privateMethod q.1 ∈ tables_1 ∧ Cond.instanceMethod q.1 ∈ tables_1
theorem lw_p0 : lw_okq (⟨"java/lang/Throwable", "fillInStackTrace", "(I)Ljava/lang/Throwable;"⟩, 6) := ⟨⟨by decide +kernel, by decide +kernel⟩, List.mem_of_getElem? (i := 277) (by decide +kernel), List.mem_of_getElem? (i := 275) (by decide +kernel), List.mem_of_getElem? (i := 276) (by decide +kernel)⟩
theorem lw_p1 : lw_okq (⟨"BlockWorkshop$Piece", "forget", "()V"⟩, 11) := ⟨⟨by decide +kernel, by decide +kernel⟩, List.mem_of_getElem? (i := 30) (by decide +kernel), List.mem_of_getElem? (i := 346) (by decide +kernel), List.mem_of_getElem? (i := 347) (by decide +kernel)⟩
theorem lw_p2 : lw_okq (⟨"BlockWorkshop$Piece", "learnShapes", "()V"⟩, 11) := ⟨⟨by decide +kernel, by decide +kernel⟩, List.mem_of_getElem? (i := 30) (by decide +kernel), List.mem_of_getElem? (i := 372) (by decide +kernel), List.mem_of_getElem? (i := 373) (by decide +kernel)⟩
theorem lw_p3 : lw_okq (⟨"BlockWorkshop$Piece", "addShape", "(J)V"⟩, 11) := ⟨⟨by decide +kernel, by decide +kernel⟩, List.mem_of_getElem? (i := 30) (by decide +kernel), List.mem_of_getElem? (i := 415) (by decide +kernel), List.mem_of_getElem? (i := 416) (by decide +kernel)⟩
theorem lw_p4 : lw_okq (⟨"BlockWorkshop$Piece", "placeOneShape", "(JJ)I"⟩, 11) := ⟨⟨by decide +kernel, by decide +kernel⟩, List.mem_of_getElem? (i := 30) (by decide +kernel), List.mem_of_getElem? (i := 471) (by decide +kernel), List.mem_of_getElem? (i := 472) (by decide +kernel)⟩
theorem lw_p5 : lw_okq (⟨"BlockWorkshop$Piece", "mergeIn", "(I)V"⟩, 11) := ⟨⟨by decide +kernel, by decide +kernel⟩, List.mem_of_getElem? (i := 30) (by decide +kernel), List.mem_of_getElem? (i := 479) (by decide +kernel), List.mem_of_getElem? (i := 480) (by decide +kernel)⟩
theorem lw_p6 : lw_okq (⟨"BlockWorkshop$Piece", "indexPlaces", "()V"⟩, 11) := ⟨⟨by decide +kernel, by decide +kernel⟩, List.mem_of_getElem? (i := 30) (by decide +kernel), List.mem_of_getElem? (i := 483) (by decide +kernel), List.mem_of_getElem? (i := 484) (by decide +kernel)⟩
theorem lw_p7 : lw_okq (⟨"BlockWorkshop$Search", "goOn", "(IJI)V"⟩, 9) := ⟨⟨by decide +kernel, by decide +kernel⟩, List.mem_of_getElem? (i := 71) (by decide +kernel), List.mem_of_getElem? (i := 513) (by decide +kernel), List.mem_of_getElem? (i := 514) (by decide +kernel)⟩
theorem lw_p8 : lw_okq (⟨"BlockWorkshop$Search", "countPacking", "()V"⟩, 9) := ⟨⟨by decide +kernel, by decide +kernel⟩, List.mem_of_getElem? (i := 71) (by decide +kernel), List.mem_of_getElem? (i := 518) (by decide +kernel), List.mem_of_getElem? (i := 519) (by decide +kernel)⟩
theorem lw_p9 : lw_okq (⟨"BlockWorkshop$Search", "tryPiece", "(IIIJI)V"⟩, 9) := ⟨⟨by decide +kernel, by decide +kernel⟩, List.mem_of_getElem? (i := 71) (by decide +kernel), List.mem_of_getElem? (i := 526) (by decide +kernel), List.mem_of_getElem? (i := 527) (by decide +kernel)⟩
theorem lw_p10 : lw_okq (⟨"BlockWorkshop", "assembledPieces", "()I"⟩, 6) := ⟨⟨by decide +kernel, by decide +kernel⟩, List.mem_of_getElem? (i := 21) (by decide +kernel), List.mem_of_getElem? (i := 604) (by decide +kernel), List.mem_of_getElem? (i := 605) (by decide +kernel)⟩
theorem lw_p11 : lw_okq (⟨"BlockWorkshop$StateBook", "hashOfDraft", "()I"⟩, 7) := ⟨⟨by decide +kernel, by decide +kernel⟩, List.mem_of_getElem? (i := 111) (by decide +kernel), List.mem_of_getElem? (i := 631) (by decide +kernel), List.mem_of_getElem? (i := 632) (by decide +kernel)⟩
theorem lw_p12 : lw_okq (⟨"BlockWorkshop$Unlocker", "expand", "(I)I"⟩, 10) := ⟨⟨by decide +kernel, by decide +kernel⟩, List.mem_of_getElem? (i := 105) (by decide +kernel), List.mem_of_getElem? (i := 635) (by decide +kernel), List.mem_of_getElem? (i := 636) (by decide +kernel)⟩
theorem lw_p13 : lw_okq (⟨"BlockWorkshop$Unlocker", "measureRoom", "(I)V"⟩, 10) := ⟨⟨by decide +kernel, by decide +kernel⟩, List.mem_of_getElem? (i := 105) (by decide +kernel), List.mem_of_getElem? (i := 639) (by decide +kernel), List.mem_of_getElem? (i := 640) (by decide +kernel)⟩
theorem lw_p14 : lw_okq (⟨"BlockWorkshop$Unlocker", "roomOfPair", "(IIII)I"⟩, 10) := ⟨⟨by decide +kernel, by decide +kernel⟩, List.mem_of_getElem? (i := 105) (by decide +kernel), List.mem_of_getElem? (i := 643) (by decide +kernel), List.mem_of_getElem? (i := 644) (by decide +kernel)⟩
theorem lw_p15 : lw_okq (⟨"BlockWorkshop$Unlocker", "gap", "(IIII)I"⟩, 10) := ⟨⟨by decide +kernel, by decide +kernel⟩, List.mem_of_getElem? (i := 105) (by decide +kernel), List.mem_of_getElem? (i := 647) (by decide +kernel), List.mem_of_getElem? (i := 648) (by decide +kernel)⟩
def lw_privs_1 : List (MethodName × Nat) := [(⟨"java/lang/Throwable", "fillInStackTrace", "(I)Ljava/lang/Throwable;"⟩, 6), (⟨"BlockWorkshop$Piece", "forget", "()V"⟩, 11), (⟨"BlockWorkshop$Piece", "learnShapes", "()V"⟩, 11), (⟨"BlockWorkshop$Piece", "addShape", "(J)V"⟩, 11), (⟨"BlockWorkshop$Piece", "placeOneShape", "(JJ)I"⟩, 11), (⟨"BlockWorkshop$Piece", "mergeIn", "(I)V"⟩, 11), (⟨"BlockWorkshop$Piece", "indexPlaces", "()V"⟩, 11), (⟨"BlockWorkshop$Search", "goOn", "(IJI)V"⟩, 9), (⟨"BlockWorkshop$Search", "countPacking", "()V"⟩, 9), (⟨"BlockWorkshop$Search", "tryPiece", "(IIIJI)V"⟩, 9), (⟨"BlockWorkshop", "assembledPieces", "()I"⟩, 6), (⟨"BlockWorkshop$StateBook", "hashOfDraft", "()I"⟩, 7), (⟨"BlockWorkshop$Unlocker", "expand", "(I)I"⟩, 10), (⟨"BlockWorkshop$Unlocker", "measureRoom", "(I)V"⟩, 10), (⟨"BlockWorkshop$Unlocker", "roomOfPair", "(IIII)I"⟩, 10), (⟨"BlockWorkshop$Unlocker", "gap", "(IIII)I"⟩, 10)]
theorem lw_r1 : ∀ q ∈ lw_privs_1, lw_okq q := List.forall_mem_cons.mpr ⟨lw_p0, List.forall_mem_cons.mpr ⟨lw_p1, List.forall_mem_cons.mpr ⟨lw_p2, List.forall_mem_cons.mpr ⟨lw_p3, List.forall_mem_cons.mpr ⟨lw_p4, List.forall_mem_cons.mpr ⟨lw_p5, List.forall_mem_cons.mpr ⟨lw_p6, List.forall_mem_cons.mpr ⟨lw_p7, List.forall_mem_cons.mpr ⟨lw_p8, List.forall_mem_cons.mpr ⟨lw_p9, List.forall_mem_cons.mpr ⟨lw_p10, List.forall_mem_cons.mpr ⟨lw_p11, List.forall_mem_cons.mpr ⟨lw_p12, List.forall_mem_cons.mpr ⟨lw_p13, List.forall_mem_cons.mpr ⟨lw_p14, List.forall_mem_cons.mpr ⟨lw_p15, fun _ h => absurd h List.not_mem_nil⟩⟩⟩⟩⟩⟩⟩⟩⟩⟩⟩⟩⟩⟩⟩⟩
theorem lw_p16 : lw_okq (⟨"BlockWorkshop$Unlocker", "measureBoxes", "(II)V"⟩, 10) := ⟨⟨by decide +kernel, by decide +kernel⟩, List.mem_of_getElem? (i := 105) (by decide +kernel), List.mem_of_getElem? (i := 666) (by decide +kernel), List.mem_of_getElem? (i := 667) (by decide +kernel)⟩
theorem lw_p17 : lw_okq (⟨"BlockWorkshop$Unlocker", "tryRuns", "(III)I"⟩, 10) := ⟨⟨by decide +kernel, by decide +kernel⟩, List.mem_of_getElem? (i := 105) (by decide +kernel), List.mem_of_getElem? (i := 682) (by decide +kernel), List.mem_of_getElem? (i := 683) (by decide +kernel)⟩
theorem lw_p18 : lw_okq (⟨"BlockWorkshop$Unlocker", "roomOfGroup", "(II)I"⟩, 10) := ⟨⟨by decide +kernel, by decide +kernel⟩, List.mem_of_getElem? (i := 105) (by decide +kernel), List.mem_of_getElem? (i := 686) (by decide +kernel), List.mem_of_getElem? (i := 687) (by decide +kernel)⟩
theorem lw_p19 : lw_okq (⟨"BlockWorkshop$Unlocker", "writePlan", "(II)I"⟩, 10) := ⟨⟨by decide +kernel, by decide +kernel⟩, List.mem_of_getElem? (i := 105) (by decide +kernel), List.mem_of_getElem? (i := 696) (by decide +kernel), List.mem_of_getElem? (i := 697) (by decide +kernel)⟩
theorem lw_p20 : lw_okq (⟨"BlockWorkshop$StateBook", "isDraft", "(I)Z"⟩, 7) := ⟨⟨by decide +kernel, by decide +kernel⟩, List.mem_of_getElem? (i := 111) (by decide +kernel), List.mem_of_getElem? (i := 724) (by decide +kernel), List.mem_of_getElem? (i := 725) (by decide +kernel)⟩
theorem lw_p21 : lw_okq (⟨"BlockWorkshopModel", "says", "(Z)Z"⟩, 26) := ⟨⟨by decide +kernel, by decide +kernel⟩, List.mem_of_getElem? (i := 745) (by decide +kernel), List.mem_of_getElem? (i := 852) (by decide +kernel), List.mem_of_getElem? (i := 853) (by decide +kernel)⟩
theorem lw_p22 : lw_okq (⟨"BlockWorkshopModel", "shapesOf", "(I)V"⟩, 26) := ⟨⟨by decide +kernel, by decide +kernel⟩, List.mem_of_getElem? (i := 745) (by decide +kernel), List.mem_of_getElem? (i := 860) (by decide +kernel), List.mem_of_getElem? (i := 861) (by decide +kernel)⟩
theorem lw_p23 : lw_okq (⟨"BlockWorkshopModel", "placesOf", "(I)V"⟩, 26) := ⟨⟨by decide +kernel, by decide +kernel⟩, List.mem_of_getElem? (i := 745) (by decide +kernel), List.mem_of_getElem? (i := 895) (by decide +kernel), List.mem_of_getElem? (i := 896) (by decide +kernel)⟩
theorem lw_p24 : lw_okq (⟨"BlockWorkshopModel", "search", "(II)I"⟩, 26) := ⟨⟨by decide +kernel, by decide +kernel⟩, List.mem_of_getElem? (i := 745) (by decide +kernel), List.mem_of_getElem? (i := 907) (by decide +kernel), List.mem_of_getElem? (i := 908) (by decide +kernel)⟩
theorem lw_p25 : lw_okq (⟨"BlockWorkshopModel", "begins", "(II)V"⟩, 26) := ⟨⟨by decide +kernel, by decide +kernel⟩, List.mem_of_getElem? (i := 745) (by decide +kernel), List.mem_of_getElem? (i := 911) (by decide +kernel), List.mem_of_getElem? (i := 912) (by decide +kernel)⟩
theorem lw_p26 : lw_okq (⟨"BlockWorkshopModel", "run", "(IIIII)I"⟩, 26) := ⟨⟨by decide +kernel, by decide +kernel⟩, List.mem_of_getElem? (i := 745) (by decide +kernel), List.mem_of_getElem? (i := 940) (by decide +kernel), List.mem_of_getElem? (i := 941) (by decide +kernel)⟩
theorem lw_p27 : lw_okq (⟨"BlockWorkshopModel", "hits", "(II)Z"⟩, 26) := ⟨⟨by decide +kernel, by decide +kernel⟩, List.mem_of_getElem? (i := 745) (by decide +kernel), List.mem_of_getElem? (i := 944) (by decide +kernel), List.mem_of_getElem? (i := 945) (by decide +kernel)⟩
theorem lw_p28 : lw_okq (⟨"BlockWorkshopModel", "at", "(III)I"⟩, 26) := ⟨⟨by decide +kernel, by decide +kernel⟩, List.mem_of_getElem? (i := 745) (by decide +kernel), List.mem_of_getElem? (i := 948) (by decide +kernel), List.mem_of_getElem? (i := 949) (by decide +kernel)⟩
theorem lw_p29 : lw_okq (⟨"BlockWorkshopModel", "isFree", "(II)Z"⟩, 26) := ⟨⟨by decide +kernel, by decide +kernel⟩, List.mem_of_getElem? (i := 745) (by decide +kernel), List.mem_of_getElem? (i := 952) (by decide +kernel), List.mem_of_getElem? (i := 953) (by decide +kernel)⟩
theorem lw_p30 : lw_okq (⟨"BlockWorkshopModel", "edge", "(IIZ)I"⟩, 26) := ⟨⟨by decide +kernel, by decide +kernel⟩, List.mem_of_getElem? (i := 745) (by decide +kernel), List.mem_of_getElem? (i := 956) (by decide +kernel), List.mem_of_getElem? (i := 957) (by decide +kernel)⟩
theorem lw_p31 : lw_okq (⟨"BlockWorkshopModel", "finish", "(II)V"⟩, 26) := ⟨⟨by decide +kernel, by decide +kernel⟩, List.mem_of_getElem? (i := 745) (by decide +kernel), List.mem_of_getElem? (i := 962) (by decide +kernel), List.mem_of_getElem? (i := 963) (by decide +kernel)⟩
def lw_privs_2 : List (MethodName × Nat) := [(⟨"BlockWorkshop$Unlocker", "measureBoxes", "(II)V"⟩, 10), (⟨"BlockWorkshop$Unlocker", "tryRuns", "(III)I"⟩, 10), (⟨"BlockWorkshop$Unlocker", "roomOfGroup", "(II)I"⟩, 10), (⟨"BlockWorkshop$Unlocker", "writePlan", "(II)I"⟩, 10), (⟨"BlockWorkshop$StateBook", "isDraft", "(I)Z"⟩, 7), (⟨"BlockWorkshopModel", "says", "(Z)Z"⟩, 26), (⟨"BlockWorkshopModel", "shapesOf", "(I)V"⟩, 26), (⟨"BlockWorkshopModel", "placesOf", "(I)V"⟩, 26), (⟨"BlockWorkshopModel", "search", "(II)I"⟩, 26), (⟨"BlockWorkshopModel", "begins", "(II)V"⟩, 26), (⟨"BlockWorkshopModel", "run", "(IIIII)I"⟩, 26), (⟨"BlockWorkshopModel", "hits", "(II)Z"⟩, 26), (⟨"BlockWorkshopModel", "at", "(III)I"⟩, 26), (⟨"BlockWorkshopModel", "isFree", "(II)Z"⟩, 26), (⟨"BlockWorkshopModel", "edge", "(IIZ)I"⟩, 26), (⟨"BlockWorkshopModel", "finish", "(II)V"⟩, 26)]
theorem lw_r2 : ∀ q ∈ lw_privs_2, lw_okq q := List.forall_mem_cons.mpr ⟨lw_p16, List.forall_mem_cons.mpr ⟨lw_p17, List.forall_mem_cons.mpr ⟨lw_p18, List.forall_mem_cons.mpr ⟨lw_p19, List.forall_mem_cons.mpr ⟨lw_p20, List.forall_mem_cons.mpr ⟨lw_p21, List.forall_mem_cons.mpr ⟨lw_p22, List.forall_mem_cons.mpr ⟨lw_p23, List.forall_mem_cons.mpr ⟨lw_p24, List.forall_mem_cons.mpr ⟨lw_p25, List.forall_mem_cons.mpr ⟨lw_p26, List.forall_mem_cons.mpr ⟨lw_p27, List.forall_mem_cons.mpr ⟨lw_p28, List.forall_mem_cons.mpr ⟨lw_p29, List.forall_mem_cons.mpr ⟨lw_p30, List.forall_mem_cons.mpr ⟨lw_p31, fun _ h => absurd h List.not_mem_nil⟩⟩⟩⟩⟩⟩⟩⟩⟩⟩⟩⟩⟩⟩⟩⟩
theorem lw_p32 : lw_okq (⟨"BlockWorkshopModel", "isKnown", "(I)Z"⟩, 26) := ⟨⟨by decide +kernel, by decide +kernel⟩, List.mem_of_getElem? (i := 745) (by decide +kernel), List.mem_of_getElem? (i := 966) (by decide +kernel), List.mem_of_getElem? (i := 967) (by decide +kernel)⟩
def lw_privs_3 : List (MethodName × Nat) := [(⟨"BlockWorkshopModel", "isKnown", "(I)Z"⟩, 26)]
theorem lw_r3 : ∀ q ∈ lw_privs_3, lw_okq q := List.forall_mem_cons.mpr ⟨lw_p32, fun _ h => absurd h List.not_mem_nil⟩
def lw_privs : List (MethodName × Nat) := lw_privs_1 ++ (lw_privs_2 ++ (lw_privs_3))
def lw_tbl : List Cond := k2_sels lw_privs ++ tables_1
theorem lw_privs_ok : ∀ q ∈ lw_privs, lw_okq q := by
  show ∀ q ∈ lw_privs_1 ++ (lw_privs_2 ++ (lw_privs_3)), lw_okq q
  exact List.forall_mem_append.mpr ⟨lw_r1, List.forall_mem_append.mpr ⟨lw_r2, lw_r3⟩⟩
-- ===== end of PART A; then your names; then what follows =====
end
section
/-! ===== BEGIN words of one list among another's, by their places ===== -/
theorem goodIn_r {big : List Cond} (ws : List Cond) (ps : List Nat) (hp : ws = ps.filterMap (fun i => big[i]?)) (h : ws.all goodWord = true) : GoodIn big ws := by
  intro w hw
  have h1 := List.all_eq_true.mp h w hw
  rw [hp] at hw
  obtain ⟨i, -, hi⟩ := List.mem_filterMap.mp hw
  have hm : w ∈ big := by first | exact List.mem_of_getElem? hi | exact List.getElem?_mem hi
  exact ⟨hm, good_of_word h1⟩
theorem goodIn_app {big a b : List Cond} (ha : GoodIn big a) (hb : GoodIn big b) : GoodIn big (a ++ b) := fun w h => (List.mem_append.mp h).elim (ha w) (hb w)
theorem goodIn_ca {big a b : List Cond} {c : Cond} (ha : GoodIn big (c :: a)) (hb : GoodIn big b) : GoodIn big (c :: (a ++ b)) := fun w h => (List.mem_cons.mp h).elim (fun e => ha w (List.mem_cons.mpr (Or.inl e))) (fun h => (List.mem_append.mp h).elim (fun h => ha w (List.mem_cons.mpr (Or.inr h))) (hb w))
theorem goodIn_sub {big ws : List Cond} (hm : ∀ w ∈ ws, w ∈ big) (h : ws.all goodWord = true) : GoodIn big ws := fun w hw => ⟨hm w hw, good_of_word (List.all_eq_true.mp h w hw)⟩
/-! ===== END ===== -/

/-! catching an exception in a method's own table, where the row's entry may be linked only now -/
section CT
def ct_F (e : Env) (u : State) (f : JFrame) (a : Addr) (h : Handler) (vm' : Vm) : Prop :=
  ∀ (Q : Handler → Jvm.Pre) (E : CtlPost) (d : Bool) (acts : List Action), wp (findHandler f a) Q E e d acts u ↔ Q h d acts (u.setVm vm')
def ct_pass (pl : Platform) (s0 : State) (d : ClassId) (pc : Nat) (k : ClassId) (y : ExceptionTableEntry) : Prop :=
  covers y pc = false ∨ (y.catchType ≠ 0 ∧ ∃ c, s0.vm.ClassLinks pl d y.catchType c ∧ s0.vm.assignable k c = false)
theorem ct_row {Q : Handler → Jvm.Pre} {E : CtlPost} {e : Env} {d : Bool} {acts : List Action} {u : State} {f : JFrame} {a : Addr} {x : ExceptionTableEntry} {t : List ExceptionTableEntry} {c : ClassId} {cell : Cell} (hx : covers x f.pc = true) (h0 : x.catchType ≠ 0)
    (hl : u.vm.ClassLinks e.platform f.method.cls x.catchType c) (hcell : u.heap[a]? = some cell) (hobj : ∀ k, cell.vm ≠ .statics k)
    (hk : ∃ k, u.vm.classes[cell.cls]? = some k) (hc : ∃ k, u.vm.classes[c]? = some k) :
    (u.vm.assignable cell.cls c = true → (wp (findHandler.go f a (x :: t)) Q E e d acts u ↔ Q (.found x.handlerPc) d acts (u.setVm (u.vm.noted f.method.cls x.catchType (.cls c))))) ∧
    (u.vm.assignable cell.cls c = false → (wp (findHandler.go f a (x :: t)) Q E e d acts u ↔ wp (findHandler.go f a t) Q E e d acts (u.setVm (u.vm.noted f.method.cls x.catchType (.cls c))))) := by
  simp only [covers] at hx
  obtain ⟨ha, ht⟩ := (resolveClass_links e.toSetting hl).op (op := VmOp.resolveClass f.method.cls x.catchType) rfl
  have hal : u.vm.Alike (u.vm.noted f.method.cls x.catchType (.cls c)) := (Vm.Alike.refl u.vm).noted _ _ _
  obtain ⟨k1, hk1⟩ := hk
  obtain ⟨k2, hk2⟩ := hc
  obtain ⟨k3, hk3, -⟩ := hal.2.2 _ _ hk1
  obtain ⟨k4, hk4, -⟩ := hal.2.2 _ _ hk2
  constructor <;> intro hf
  · have hf' : (u.vm.noted f.method.cls x.catchType (.cls c)).assignable cell.cls c = true := by rw [hal.assignable]; exact hf
    simp [findHandler.go, hx, h0, ha, ht, hcell, hobj, hk3, hk4, hf', VmOp.dirties, VmOp.acts]
  · have hf' : (u.vm.noted f.method.cls x.catchType (.cls c)).assignable cell.cls c = false := by rw [hal.assignable]; exact hf
    simp [findHandler.go, hx, h0, ha, ht, hcell, hobj, hk3, hk4, hf', VmOp.dirties, VmOp.acts]
theorem ct_rows {e : Env} {s0 : State} {f : JFrame} {a : Addr} {cell : Cell} (hobj : ∀ k, cell.vm ≠ .statics k) (hk0 : ∃ k, s0.vm.classes[cell.cls]? = some k)
    (x : ExceptionTableEntry) (rest : List ExceptionTableEntry) (hx : covers x f.pc = true) (h0 : x.catchType ≠ 0) {c : ClassId} (hl : s0.vm.ClassLinks e.platform f.method.cls x.catchType c) (hfit : s0.vm.assignable cell.cls c = true) :
    ∀ (pr : List ExceptionTableEntry) (u : State), s0.WarmedH u.vm → u.heap[a]? = some cell → (∀ y ∈ pr, ct_pass e.platform s0 f.method.cls f.pc cell.cls y) →
      ∃ vm', s0.WarmedH vm' ∧ ∀ (Q : Handler → Jvm.Pre) (E : CtlPost) (d : Bool) (acts : List Action), wp (findHandler.go f a (pr ++ x :: rest)) Q E e d acts u ↔ Q (.found x.handlerPc) d acts (u.setVm vm') := by
  obtain ⟨k0, hk0⟩ := hk0
  intro pr
  induction pr with
  | nil =>
    intro u hW hcell _
    obtain ⟨k5, hk5, -⟩ := hW.alike.2.2 _ _ hk0
    obtain ⟨dk, _, _, kt, hd, _, _, _, _, hkt, _, hop⟩ := hl.here
    obtain ⟨k6, hk6, -⟩ := hW.alike.2.2 _ _ hkt
    exact ⟨_, hW.noted hd hop (State.rightAt_cls hl), fun Q E d acts => (ct_row (t := rest) hx h0 (hW.classLinks hl) hcell hobj ⟨k5, hk5⟩ ⟨k6, hk6⟩).1 (by rw [hW.alike.assignable]; exact hfit)⟩
  | cons y ys ih =>
    intro u hW hcell hp
    obtain ⟨k5, hk5, -⟩ := hW.alike.2.2 _ _ hk0
    have hr : ∀ z ∈ ys, ct_pass e.platform s0 f.method.cls f.pc cell.cls z := fun z hz => hp z (List.mem_cons_of_mem _ hz)
    by_cases hcov : covers y f.pc = true
    · rcases hp y (List.mem_cons_self ..) with h | ⟨h1, c1, hl1, hno⟩
      · rw [h] at hcov; cases hcov
      · obtain ⟨dk, _, _, kt, hd, _, _, _, _, hkt, _, hop⟩ := hl1.here
        obtain ⟨k6, hk6, -⟩ := hW.alike.2.2 _ _ hkt
        obtain ⟨vm', hW', hq⟩ := ih (u.setVm (u.vm.noted f.method.cls y.catchType (.cls c1))) (hW.noted hd hop (State.rightAt_cls hl1)) hcell hr
        exact ⟨vm', hW', fun Q E d acts => by
          rw [List.cons_append, (ct_row (t := ys ++ x :: rest) hcov h1 (hW.classLinks hl1) hcell hobj ⟨k5, hk5⟩ ⟨k6, hk6⟩).2 (by rw [hW.alike.assignable]; exact hno)]
          exact hq Q E d acts⟩
    · obtain ⟨vm', hW', hq⟩ := ih u hW hcell hr
      exact ⟨vm', hW', fun Q E d acts => by
        rw [List.cons_append, W.findHandler_go_skip (by simpa using hcov)]
        exact hq Q E d acts⟩
theorem ct_step {e : Env} {u : State} {a : Addr} {f : JFrame} {r : List Frame} {pc : Nat} {vm' : Vm} (hf : ct_F e u f a (.found pc) vm') :
    (stepThrowing e u a (.java f :: r)).Is ((u.setVm vm').setFrames (.java { f with pc := pc, stack := [.ref a] } :: r)) [] := by
  simp only [stepThrowing, searchFrame, vmDo]
  generalize hr : Sem.go _ e false [] u = res
  obtain ⟨as, rfl, ha⟩ := Sem.eq_ok_of hr (a := Handler.found pc) (s' := u.setVm vm') (acts' := []) (by simp [hf _ _ _ _])
  exact ⟨rfl, ha⟩
theorem ct_fr (u : State) (vm' : Vm) (F G : List Frame) : ((u.setFrames F).setVm vm').setFrames G = (u.setVm vm').setFrames G := by
  rw [show (u.setFrames F).setVm vm' = (u.setVm vm').setFrames F from rfl, State.setFrames_setFrames]
theorem ct_steps {tb : Tables} {e : Env} {u target : State} {g : JFrame} {c : Code} {below : List Frame} {a : Addr} (h : At u g.method c below) {pc : Nat} {vm' : Vm}
    (hf : ct_F e ((u.setTop g).pushFrame (.throwing a)) g a (.found pc) vm') (hrest : Steps tb e below ((u.setVm vm').setTop { g with pc := pc, stack := [.ref a] }) target) :
    Steps tb e below ((u.setTop g).pushFrame (.throwing a)) target := by
  obtain ⟨hgo, hw⟩ := h.throwing a
  refine Steps.head hgo hw ?_
  rw [stepThread_throwing (frames_entered h.top _), (ct_step (u := (u.setTop g).pushFrame (.throwing a)) hf).1]
  obtain ⟨g0, hg⟩ := Option.isSome_iff_exists.mp h.top
  obtain ⟨r, hr⟩ := State.topJava?_eq_some.mp hg
  have hr1 : (u.setVm vm').frames = .java g0 :: r := hr
  rw [State.setTop_of_frames _ hr1] at hrest
  rw [hr, List.tail_cons, State.pushFrame, ct_fr, State.setTop_of_frames _ hr, ct_fr]
  exact hrest
theorem ct_thru {p : Program} {l : Launch} {e : Env} {R : Room} {s : State} {m : MethodId} {args : Array Value} {below : List Frame} {meth : Method} {c : Code} {T : State} {locs : List Loc} {cells slots : Nat} (X : Stand p l e R s m args below meth c T locs cells slots) (a : Addr) {g : JFrame} (hg : g.method = m) {cell : Cell} (hcell : T.heap[a]? = some cell) (hobj : cell.vm.isStatics = false)
    (hk0 : ∃ k, s.vm.classes[cell.cls]? = some k)
    (pr : List ExceptionTableEntry) (x : ExceptionTableEntry) (rest : List ExceptionTableEntry) (hsplit : c.exceptionTable.toList = pr ++ x :: rest)
    (hpass : ∀ y ∈ pr, ct_pass e.platform s m.cls g.pc cell.cls y) (hx : covers x g.pc = true) (h0 : x.catchType ≠ 0) {c4 : ClassId} (hl : s.vm.ClassLinks e.platform m.cls x.catchType c4) (hfit : s.vm.assignable cell.cls c4 = true) :
    ∃ vm', Stand p l e R s m args below meth c (T.setVm vm') locs cells slots ∧ Steps p.tables e below ((T.setTop g).pushFrame (.throwing a)) ((T.setVm vm').setTop { g with pc := x.handlerPc, stack := [.ref a] }) := by
  subst hg
  obtain ⟨vm', hW', hq⟩ := ct_rows (e := e) (f := g) (a := a) (VmData.ne_statics_of hobj) hk0 x rest hx h0 hl hfit pr ((T.setTop g).pushFrame (.throwing a)) X.warmed hcell hpass
  have hm : ((T.setTop g).pushFrame (.throwing a)).vm.method? g.method = some meth := X.method'
  exact ⟨vm', X.noted hW', ct_steps X.here (fun Q E d acts => by rw [W.findHandler_eq hm X.code, hsplit]; exact hq Q E d acts) (Steps.refl _)⟩
end CT
/-! ===== BEGIN exceptions that leave a method, and their catching by the caller (launches without stack traces) ===== -/
section VXA
/-! The laws vx_back, vx_callV, vx_callS, vx_callSW, vx_throw0, vx_throwS follow proofs of the library, with one case more: JvmDerived/Free/Laws.lean (Back.of_free), Shelf42/LK1.lean (callV, callS), Shelf/KitTraced.lean (throwNew0V, throwNewS). -/
/-- where a method has thrown q: the class by its name, the cell, what was written, the world -/
def vx_T (XC : String → State → State → Prop) (st : State) (q : Addr) (t : State) (mc ms : Nat) (free : Addr → Prop) : Prop :=
  ∃ (E : String) (ce : Cell) (L : List Loc), XC E st t ∧ t.heap[q]? = some ce ∧ ce.vm = .none ∧ st.vm.findClass E = some ce.cls ∧ st.WarmedH t.vm ∧ st.sameButNew ({ t with vm := st.vm } : State) L mc ms ∧ ∀ z ∈ L, free z.base
def vx_Q (Qc : Array Value → State → Outcome → State → Prop) (XC : String → State → State → Prop) (mc ms : Nat) (free : Addr → Prop) : Array Value → State → Outcome → State → Prop := fun a st o t =>
  (Qc a st o t ∧ ∃ L, FrameEnd st o t L mc ms ∧ ∀ q ∈ L, free q.base) ∨ ∃ q, o = .threw q ∧ vx_T XC st q t mc ms free
/-- a callee that returns or throws -/
def vx_Met (l : Launch) (y : MethodName) (ws : List Cond) (rm : Room) (Pc : Array Value → State → Prop) (Qc : Array Value → State → Outcome → State → Prop) (XC : String → State → State → Prop) (mc ms : Nat) (free : Addr → Prop) : Prop :=
  MetFree l y (headSpec ws rm) Pc (fun _ _ _ _ _ => True) (vx_Q Qc XC mc ms free)
def vx_Post (XC : String → State → State → Prop) (mc ms : Nat) (free : Addr → Prop) : Pt → Array Value → Addr → Pt → Prop := fun A a q B =>
  ∃ (g : JFrame) (mk : MethodId) (t : State) (L : List Loc) (E : String) (ce : Cell), B.U.heap = t.heap ∧ B.U.vm = t.vm ∧ XC E (A.U.calling g mk a) t ∧ t.heap[q]? = some ce ∧ ce.vm = .none ∧ A.U.vm.findClass E = some ce.cls ∧ B.locs = A.locs ++ L ∧ (∀ z ∈ L, free z.base) ∧ B.cells = A.cells + mc ∧ B.slots = A.slots + ms
def vx_Back (l : Launch) (R : Room) (p : Program) (e : Env) (below : List Frame) (s : State) (sargs : Array Value) (y : MethodName) (len W9 : Nat)
    (Pre : Pt → Array Value → Prop) (Post : Pt → Array Value → Option Value → Pt → Prop) (PostX : Pt → Array Value → Addr → Pt → Prop) : Prop :=
  ∀ (m : MethodId) (meth : Method) (c : Code) (A : Pt) (g : JFrame) (ig : Instr) (mk : MethodId) (a : Array Value),
    Stand p l e R s m sargs below meth c A.U A.locs A.cells A.slots → g.method = m → g.locals.size = c.maxLocals → decode c.code g.pc = .ok (ig, len) →
    2 * g.monitorRoom + (g.stack.map fun v => v.category).sum ≤ W9 → A.U.methodNamed? y = some mk → Pre A a →
    (∃ (v : Option Value) (B : Pt), Stand p l e R s m sargs below meth c B.U B.locs B.cells B.slots ∧ Post A a v B ∧
      Steps p.tables e below (doInvoke e (A.U.setTop g) [] mk a).1 (B.U.setTop { g with pc := g.pc + len, stack := v.toList ++ g.stack })) ∨
    (∃ (q : Addr) (B : Pt), Stand p l e R s m sargs below meth c B.U B.locs B.cells B.slots ∧ PostX A a q B ∧
      Steps p.tables e below (doInvoke e (A.U.setTop g) [] mk a).1 ((B.U.setTop g).pushFrame (.throwing q)))
section Payer
variable {l : Launch} {R : Room} {p : Program} {e : Env} {below : List Frame} {s : State} {sargs : Array Value} {y : MethodName} {len W9 : Nat}
theorem vx_back {ws : List Cond} {rm : Room} {Pc : Array Value → State → Prop} {Qc : Array Value → State → Outcome → State → Prop} {XC : String → State → State → Prop} {mc ms : Nat} {free : Addr → Prop} {bytes : ByteArray} {maxL : Nat} {ret : Option FieldType}
    (hM : vx_Met l y ws rm Pc Qc XC mc ms free) (hblind : FrameBlind Pc) (hrc : rm.cells = mc) (hrs : rm.slots = ms)
    (hframes : rm.frames + 1 ≤ R.frames) (hlocals : W9 + (maxL + 11) + rm.locals ≤ R.locals)
    (hws : ∀ w ∈ ws, ∀ a' U, s.WarmedH U.vm → w.before a' U = true) (hcode : Cond.code y bytes maxL ret ∈ ws) (hinit : ∀ a' U, s.WarmedH U.vm → (Cond.initialized y.cls).before a' U = true) :
    vx_Back l R p e below s sargs y len W9 (PreOf R mc ms Pc) (PostOf Qc mc ms free) (vx_Post XC mc ms free) := by
  intro m meth c A g ig mk a X hg hsize hdg hW hn hp
  have h1 : (headSpec ws rm).pre.before a A.U = true := atoms_intro fun w hw => hws w hw _ _ X.warmed
  have h2 : (Cond.code y bytes maxL ret).before a A.U = true := hws _ hcode _ _ X.warmed
  have h3 : (Cond.initialized y.cls).before a A.U = true := hinit _ _ X.warmed
  have h4 : A.cells + (headSpec ws rm).room.cells ≤ R.cells := by rw [show (headSpec ws rm).room.cells = mc from hrc]; exact hp.1
  have h5 : A.slots + (headSpec ws rm).room.slots ≤ R.slots := by rw [show (headSpec ws rm).room.slots = ms from hrs]; exact hp.2.1
  have hPc : Pc a (A.U.calling g mk a) := hblind _ _ _ _ hp.2.2
  obtain ⟨U, Ls, c0, s0⟩ := A
  dsimp only [Pt.U, Pt.locs, Pt.cells, Pt.slots] at h1 h2 h3 h4 h5 X hn hPc ⊢
  obtain ⟨methY, cY, hmY, hcY, -, hlY, -, -, -, -⟩ := Cond.code_spec hn h2
  obtain ⟨kY, hkY, -⟩ := className_of_methodNamed hn
  have hinitY : kY.init = .initialized := Cond.initialized_spec (findClass_of_methodNamed hn) hkY h3
  have h : At U g.method c below := by rw [hg]; exact X.here
  have hlocals9 : W9 + (maxL + 11) + (headSpec ws rm).room.locals ≤ R.locals := hlocals
  have happ : (headSpec ws rm).appliesLoose y e.platform (U.calling g mk a) = true :=
    Spec.appliesLoose_calling (g := g) h hdg hn hkY hinitY
      (X.room_calling (g := g) (R' := (headSpec ws rm).room) hsize hmY hcY hframes (by rw [hlY]; omega) h4 h5) h1
  obtain ⟨mid, hmid⟩ := h.above
  have hfr : (U.setTop g).frames = (.java g :: mid) ++ below := by rw [State.frames_setTop' g h.top, hmid]; rfl
  obtain ⟨o, s₂, hsteps, -, hend, hq⟩ := Steps.callFree hM p X.admits X.cas X.clock (acts := []) hfr happ hPc trivial
  have hq' : vx_Q Qc XC mc ms free a (U.calling g mk a) o s₂ := hq
  rw [State.frames_setTop' g h.top] at hend
  obtain ⟨g₀, hg0⟩ := Option.isSome_iff_exists.mp h.top
  obtain ⟨r, hr⟩ := State.topJava?_eq_some.mp hg0
  have hr' : (({ U with heap := s₂.heap, slotsUsed := s₂.slotsUsed } : State).setVm s₂.vm).frames = .java g₀ :: r := hr
  rcases hq' with ⟨hqc, L, hfe, hL⟩ | ⟨q, rfl, E, ce, L, hx, hce, hcv, hcl, hW₂, hsm, hL⟩
  · obtain ⟨⟨v, rfl⟩, hW₂, e2, q2, q3, q4, q5, q6⟩ := id hfe
    have e3 : s₂ = ({ (U.calling g mk a).setFrames s₂.frames with heap := s₂.heap, slotsUsed := s₂.slotsUsed } : State).setVm s₂.vm := by
      have : s₂ = ({ s₂ with vm := (U.calling g mk a).vm } : State).setVm s₂.vm := rfl
      rw [e2] at this
      exact this
    obtain ⟨c₂, i₂, len₂, hc₂, hd₂, hf₂⟩ := hend
    have hW' : U.WarmedH s₂.vm := hW₂
    have hcc : c₂ = c := by
      have h1 : s₂.code? g.method = U.code? g.method := by
        rw [State.code?_eq, State.code?_eq, hW'.alike.method?]
      exact Option.some.inj (hc₂.symm.trans (h1.trans h.code))
    subst hcc
    have hlen : len₂ = len := by rw [hdg] at hd₂; cases hd₂; rfl
    subst hlen
    have hs₂ : s₂ = (({ U with heap := s₂.heap, slotsUsed := s₂.slotsUsed } : State).setVm s₂.vm).setTop { g with pc := g.pc + len₂, stack := v.toList ++ g.stack } := by
      refine e3.trans ?_
      rw [hf₂, State.calling_eq h.top, State.setFrames_setFrames, State.setTop_of_frames _ hr', hr]
      rfl
    have hsame : U.sameButNew ({ U with heap := s₂.heap, slotsUsed := s₂.slotsUsed } : State) L mc ms := by
      refine ⟨?_, q2, q3, q4, q5, q6⟩
      obtain ⟨t, ht, -⟩ := State.frames_cons hr
      show ({ U with heap := s₂.heap, slotsUsed := s₂.slotsUsed } : State) = { U.setFrames U.frames with heap := s₂.heap, slotsUsed := s₂.slotsUsed }
      rw [State.setFrames_self ht]
    subst hg
    refine Or.inl ⟨v, ⟨(({ U with heap := s₂.heap, slotsUsed := s₂.slotsUsed } : State).setVm s₂.vm), Ls ++ L, c0 + mc, s0 + ms⟩,
      ⟨X.admits, X.cas, X.clock, X.frames, X.room, X.hears, X.method, X.code, (X.here.setHeapUsed s₂.heap s₂.slotsUsed).setVm hW'.alike, X.tail, State.WarmedH.trans X.warmed hW', X.limits, X.bytes, X.same.trans (hsame.setVm s.vm)⟩,
      ⟨g, mk, s₂, L, rfl, rfl, hqc, rfl, hL, rfl, rfl⟩, ?_⟩
    show Steps p.tables e below _ ((({ U with heap := s₂.heap, slotsUsed := s₂.slotsUsed } : State).setVm s₂.vm).setTop { g with pc := g.pc + len₂, stack := v.toList ++ g.stack })
    rw [← hs₂]
    exact hsteps
  · obtain ⟨e2, q2, q3, q4, q5, q6⟩ := id hsm
    have e3 : s₂ = ({ (U.calling g mk a).setFrames s₂.frames with heap := s₂.heap, slotsUsed := s₂.slotsUsed } : State).setVm s₂.vm := by
      have : s₂ = ({ s₂ with vm := (U.calling g mk a).vm } : State).setVm s₂.vm := rfl
      rw [e2] at this
      exact this
    have hf₂ : s₂.frames = .throwing q :: .java g :: U.frames.tail := hend
    have hW' : U.WarmedH s₂.vm := hW₂
    have hs₂ : s₂ = ((({ U with heap := s₂.heap, slotsUsed := s₂.slotsUsed } : State).setVm s₂.vm).setTop g).pushFrame (.throwing q) := by
      refine e3.trans ?_
      rw [hf₂, State.calling_eq h.top, State.setFrames_setFrames, State.pushFrame, State.frames_setTop _ hr', State.setTop_of_frames _ hr', State.setFrames_setFrames, hr]
      rfl
    have hsame : U.sameButNew ({ U with heap := s₂.heap, slotsUsed := s₂.slotsUsed } : State) L mc ms := by
      refine ⟨?_, q2, q3, q4, q5, q6⟩
      obtain ⟨t, ht, -⟩ := State.frames_cons hr
      show ({ U with heap := s₂.heap, slotsUsed := s₂.slotsUsed } : State) = { U.setFrames U.frames with heap := s₂.heap, slotsUsed := s₂.slotsUsed }
      rw [State.setFrames_self ht]
    subst hg
    refine Or.inr ⟨q, ⟨(({ U with heap := s₂.heap, slotsUsed := s₂.slotsUsed } : State).setVm s₂.vm), Ls ++ L, c0 + mc, s0 + ms⟩,
      ⟨X.admits, X.cas, X.clock, X.frames, X.room, X.hears, X.method, X.code, (X.here.setHeapUsed s₂.heap s₂.slotsUsed).setVm hW'.alike, X.tail, State.WarmedH.trans X.warmed hW', X.limits, X.bytes, X.same.trans (hsame.setVm s.vm)⟩,
      ⟨g, mk, s₂, L, E, ce, rfl, rfl, hx, hce, hcv, hcl, rfl, hL, rfl, rfl⟩, ?_⟩
    show Steps p.tables e below _ (((({ U with heap := s₂.heap, slotsUsed := s₂.slotsUsed } : State).setVm s₂.vm).setTop g).pushFrame (.throwing q))
    rw [← hs₂]
    exact hsteps
end Payer
section Calls
variable {p : Program} {l : Launch} {e : Env} {R : Room} {s : State} {m : MethodId} {args : Array Value} {below : List Frame} {meth : Method} {c : Code} {T : State} {locs : List Loc} {cells slots : Nat}
theorem vx_callV (X : Stand p l e R s m args below meth c T locs cells slots) (hexec : p.tables.exec = Jvm.exec) {own C : String} {index : Nat} {y : MethodName} {bytes : ByteArray} {maxL : Nat} {ret : Option FieldType}
    (hown : s.vm.findClass own = some m.cls) (hlink : (Cond.methodLink own index y).before args s = true) (hinst : (Cond.instanceMethod y).before args s = true) (hsel : (Cond.selects C y y).before args s = true)
    (hcode : (Cond.code y bytes maxL ret).before args s = true) (hy : y.cls ≠ "java/lang/invoke/MethodHandle" ∧ y.cls ≠ "java/lang/invoke/VarHandle")
    {W9 : Nat} {Pre : Pt → Array Value → Prop} {Post : Pt → Array Value → Option Value → Pt → Prop} {PostX : Pt → Array Value → Addr → Pt → Prop} (hK : vx_Back l R p e below s args y 3 W9 Pre Post PostX)
    {b : Addr} {cellB : Cell} (hcell : T.heap[b]? = some cellB) (hobj : cellB.vm.isStatics = false) (hcls : s.vm.findClass C = some cellB.cls)
    {g : JFrame} (hg : g.method = m) (hsize : g.locals.size = c.maxLocals) {argsL rest : List Value} (hlen : ∀ sig, parseMethodDescriptor y.desc = some sig → argsL.length = sig.parameters.length)
    (hstack : g.stack = argsL.reverse ++ .ref b :: rest) (hW : 2 * g.monitorRoom + (rest.map fun v => v.category).sum ≤ W9) (hdg : decode c.code g.pc = .ok (.invokevirtual index, 3))
    (hpre : ∀ vm₁, s.WarmedH vm₁ → Pre ⟨T.setVm vm₁, locs, cells, slots⟩ (Value.ref b :: argsL).toArray) :
    (∃ (v : Option Value) (vm₁ : Vm) (B : Pt), s.WarmedH vm₁ ∧ Stand p l e R s m args below meth c B.U B.locs B.cells B.slots ∧ Post ⟨T.setVm vm₁, locs, cells, slots⟩ (Value.ref b :: argsL).toArray v B ∧
      ∀ target, Steps p.tables e below (B.U.setTop { g with pc := g.pc + 3, stack := v.toList ++ rest }) target → Steps p.tables e below (T.setTop g) target) ∨
    (∃ (q : Addr) (vm₁ : Vm) (B : Pt), s.WarmedH vm₁ ∧ Stand p l e R s m args below meth c B.U B.locs B.cells B.slots ∧ PostX ⟨T.setVm vm₁, locs, cells, slots⟩ (Value.ref b :: argsL).toArray q B ∧
      Steps p.tables e below (T.setTop g) ((B.U.setTop { g with stack := rest }).pushFrame (.throwing q))) := by
  obtain ⟨mk, methM, hnamed, hmethM, hstM, habM⟩ := Cond.instanceMethod_spec hinst
  obtain ⟨methM', cM, hmethM', -, -, -, -, -, -, hsigM⟩ := Cond.code_spec hnamed hcode
  cases hmethM.symm.trans hmethM'
  obtain ⟨c2, r2, m2, q1, q2, q3, q4, kP, hkP, hkPi⟩ := Cond.selects_spec hsel
  cases hcls.symm.trans q1
  cases (State.methodFound?_of_named hnamed hy).symm.trans q2
  cases hnamed.symm.trans q3
  have hselP : selectMethod e.platform s.vm cellB.cls mk = .method mk := by rw [Launch.admits_selectMethod X.admits]; exact q4
  obtain ⟨vm₁, X₁, hstep₁⟩ := X.invokevirtual hexec hown hlink hnamed hmethM hstM hkP hkPi hy (a := b) (cell := cellB) hcell
    (fun z h => by rw [h] at hobj; cases hobj) hselP hmethM habM hkP hkPi (g := g) hg (argsL := argsL) (rest := rest) (hlen _ hsigM) hstack hdg
  rcases hK m meth c ⟨T.setVm vm₁, locs, cells, slots⟩ { g with stack := rest } (.invokevirtual index) mk (Value.ref b :: argsL).toArray X₁ hg hsize hdg hW (X₁.named hnamed) (hpre vm₁ X₁.warmed) with ⟨v, B, X', hpost, hsteps⟩ | ⟨q, B, X', hpost, hsteps⟩
  · exact Or.inl ⟨v, vm₁, B, X₁.warmed, X', hpost, fun target h => hstep₁ _ fun acts => by rw [doInvoke_state]; exact hsteps.trans h⟩
  · exact Or.inr ⟨q, vm₁, B, X₁.warmed, X', hpost, hstep₁ _ fun acts => by rw [doInvoke_state]; exact hsteps⟩
theorem vx_callS (X : Stand p l e R s m args below meth c T locs cells slots) (hexec : p.tables.exec = Jvm.exec) {own : String} {index : Nat} {y : MethodName} {bytes : ByteArray} {maxL : Nat} {ret : Option FieldType}
    (hown : s.vm.findClass own = some m.cls) (hlink : (Cond.methodLink own index y).before args s = true) (hstat : (Cond.static y).before args s = true) (hinit : (Cond.initialized y.cls).before args s = true)
    (hcode : (Cond.code y bytes maxL ret).before args s = true) (hy : y.cls ≠ "java/lang/invoke/MethodHandle" ∧ y.cls ≠ "java/lang/invoke/VarHandle")
    {W9 : Nat} {Pre : Pt → Array Value → Prop} {Post : Pt → Array Value → Option Value → Pt → Prop} {PostX : Pt → Array Value → Addr → Pt → Prop} (hK : vx_Back l R p e below s args y 3 W9 Pre Post PostX)
    {g : JFrame} (hg : g.method = m) (hsize : g.locals.size = c.maxLocals) {argsL rest : List Value} (hlen : ∀ sig, parseMethodDescriptor y.desc = some sig → argsL.length = sig.parameters.length)
    (hstack : g.stack = argsL.reverse ++ rest) (hW : 2 * g.monitorRoom + (rest.map fun v => v.category).sum ≤ W9) (hdg : decode c.code g.pc = .ok (.invokestatic index, 3))
    (hpre : ∀ vm₁, s.WarmedH vm₁ → Pre ⟨T.setVm vm₁, locs, cells, slots⟩ argsL.toArray) :
    (∃ (v : Option Value) (vm₁ : Vm) (B : Pt), s.WarmedH vm₁ ∧ Stand p l e R s m args below meth c B.U B.locs B.cells B.slots ∧ Post ⟨T.setVm vm₁, locs, cells, slots⟩ argsL.toArray v B ∧
      ∀ target, Steps p.tables e below (B.U.setTop { g with pc := g.pc + 3, stack := v.toList ++ rest }) target → Steps p.tables e below (T.setTop g) target) ∨
    (∃ (q : Addr) (vm₁ : Vm) (B : Pt), s.WarmedH vm₁ ∧ Stand p l e R s m args below meth c B.U B.locs B.cells B.slots ∧ PostX ⟨T.setVm vm₁, locs, cells, slots⟩ argsL.toArray q B ∧
      Steps p.tables e below (T.setTop g) ((B.U.setTop { g with stack := rest }).pushFrame (.throwing q))) := by
  obtain ⟨mk, hnamed⟩ := Cond.code_named hcode
  obtain ⟨methM, cM, hmethM, -, -, -, -, -, -, hsigM⟩ := Cond.code_spec hnamed hcode
  have hstatic : methM.isStatic = true := Cond.static_spec hnamed hmethM hstat
  obtain ⟨kP, hkP, -⟩ := className_of_methodNamed hnamed
  have hinitP : kP.init = .initialized := Cond.initialized_spec (findClass_of_methodNamed hnamed) hkP hinit
  obtain ⟨vm₁, X₁, hstep₁⟩ := X.invokestatic hexec hown hlink hnamed hmethM hstatic hkP hinitP hy (g := g) hg (argsL := argsL) (rest := rest) (hlen _ hsigM) hstack hdg
  rcases hK m meth c ⟨T.setVm vm₁, locs, cells, slots⟩ { g with stack := rest } (.invokestatic index) mk argsL.toArray X₁ hg hsize hdg hW (X₁.named hnamed) (hpre vm₁ X₁.warmed) with ⟨v, B, X', hpost, hsteps⟩ | ⟨q, B, X', hpost, hsteps⟩
  · exact Or.inl ⟨v, vm₁, B, X₁.warmed, X', hpost, fun target h => hstep₁ _ fun acts => by rw [doInvoke_state]; exact hsteps.trans h⟩
  · exact Or.inr ⟨q, vm₁, B, X₁.warmed, X', hpost, hstep₁ _ fun acts => by rw [doInvoke_state]; exact hsteps⟩
end Calls
theorem vx_cls {s : State} {T : State} {vm₁ : Vm} {E : String} {k : ClassId} (hW : s.WarmedH vm₁) (h : (T.setVm vm₁).vm.findClass E = some k) : s.vm.findClass E = some k := by
  have h1 : vm₁.findClass E = some k := h
  rw [hW.alike.findClass] at h1
  exact h1
/-- the method's frame g, with q thrown over it -/
def vx_W (p : Program) (l : Launch) (e : Env) (R : Room) (s : State) (m : MethodId) (args : Array Value) (below : List Frame) (meth : Method) (c : Code) (H : Heap) (locs : List Loc) (cells slots : Nat) (Q : State → Prop) (g : JFrame) (q : Addr) : Prop :=
  ∀ T : State, T.heap = H → Stand p l e R s m args below meth c T locs cells slots → ∃ t, Steps p.tables e below ((T.setTop g).pushFrame (.throwing q)) t ∧ Q t
def vx_Run (p : Program) (l : Launch) (e : Env) (R : Room) (s : State) (m : MethodId) (args : Array Value) (below : List Frame) (meth : Method) (c : Code) (H : Heap) (locs : List Loc) (cells slots mc ms : Nat) (g : JFrame) (rest : List Value) (Qa : State → Outcome → State → Prop) (XC : String → State → State → Prop) (free : Addr → Prop) : Prop :=
  ∀ T : State, T.heap = H → Stand p l e R s m args below meth c T locs cells slots →
    (∃ (v : Option Value) (st₀ t T' : State) (L : List Loc), st₀.heap = H ∧ Stand p l e R s m args below meth c T' (locs ++ L) (cells + mc) (slots + ms) ∧ (∀ q ∈ L, free q.base) ∧ T'.heap = t.heap ∧ T'.vm = t.vm ∧ Qa st₀ (.returned v) t ∧
      Goes p e below T g T' { g with pc := g.pc + 3, stack := v.toList ++ rest }) ∨
    (∃ (q : Addr) (st₀ t T' : State) (L : List Loc) (E : String) (ce : Cell), st₀.heap = H ∧ Stand p l e R s m args below meth c T' (locs ++ L) (cells + mc) (slots + ms) ∧ (∀ z ∈ L, free z.base) ∧ T'.heap = t.heap ∧ T'.vm = t.vm ∧ XC E st₀ t ∧ t.heap[q]? = some ce ∧ ce.vm = .none ∧ s.vm.findClass E = some ce.cls ∧
      Steps p.tables e below (T.setTop g) ((T'.setTop { g with stack := rest }).pushFrame (.throwing q)))
def vx_X {S : Type} (px : S → Prop) (B : String → S → State → Prop) (A : Nat → Prop) : String → State → State → Prop := fun E st t => ∃ u : S, px u ∧ B E u t ∧ va_F A st t
section Runs
variable {p : Program} {l : Launch} {e : Env} {R : Room} {s : State} {m : MethodId} {args : Array Value} {below : List Frame} {meth : Method} {c : Code} {H : Heap} {locs : List Loc} {cells slots : Nat}
variable {y : MethodName} {bytes cc : ByteArray} {maxL nL mc ms n index : Nat} {ret : Option FieldType} {ws : List Cond} {rm : Room} {Pc : Array Value → State → Prop} {Qc : Array Value → State → Outcome → State → Prop} {XC : String → State → State → Prop} {free : Addr → Prop} {Ts : List Cond} {own C : String} {b : Addr} {As rest : List Value} {g : JFrame}
theorem vx_callBack (cb : CallB R s args own index y bytes maxL ret ws rm mc ms n) (hM : vx_Met l y ws rm Pc Qc XC mc ms free) (hbl : FrameBlind Pc) : vx_Back l R p e below s args y 3 8 (PreOf R mc ms Pc) (PostOf Qc mc ms free) (vx_Post XC mc ms free) := by
  obtain ⟨hrc, hrs, hfr, hlo, hws, hcw, -, hini, -⟩ := cb
  exact vx_back (bytes := bytes) (maxL := maxL) (ret := ret) hM hbl hrc hrs hfr hlo hws hcw (fun a' U hW => word_at hW (Or.inl (by first | rfl | simp [Cond.onTables, Cond.keeps, Cond.steady])) hini)
theorem vx_runV (S : CallFix p m c cc nL s args Ts own) (hM : vx_Met l y ws rm Pc Qc XC mc ms free) (cw : CallW R s args own C index y bytes maxL ret ws rm mc ms n) (hp : PreV s H C b Pc As)
    (hg : g.method = m) (hn : As.length = n) (hsize : g.locals.size = nL) (hstack : g.stack = As.reverse ++ .ref b :: rest) (hW : 2 * g.monitorRoom + (rest.map fun v => v.category).sum ≤ 8) (hdg : decode cc g.pc = .ok (.invokevirtual index, 3)) (hf : cells + mc ≤ R.cells ∧ slots + ms ≤ R.slots) :
    vx_Run p l e R s m args below meth c H locs cells slots mc ms g rest (Qc (Value.ref b :: As).toArray) XC free := by
  have hK : vx_Back l R p e below s args y 3 8 (PreOf R mc ms Pc) (PostOf Qc mc ms free) (vx_Post XC mc ms free) := vx_callBack cw.1 hM hp.1
  obtain ⟨⟨-, -, -, -, -, -, hcode, -, hy, hlen, hl⟩, hin, hse⟩ := cw
  obtain ⟨hx, hb, hml, ho, -⟩ := S
  obtain ⟨-, ⟨cellB, hcB, hoB, hclB⟩, hPc⟩ := hp
  intro T hT X
  rcases vx_callV X hx (C := C) (bytes := bytes) (maxL := maxL) (ret := ret) ho hl hin hse hcode hy hK (by rw [hT]; exact hcB) hoB hclB hg (hsize.trans hml.symm) (argsL := As) (rest := rest) (fun sig h => hn.trans (hlen sig h)) hstack hW (by rw [hb]; exact hdg)
    (fun vm₁ hW₁ => ⟨hf.1, hf.2, hPc (T.setVm vm₁) hT hW₁⟩) with ⟨v, vm₁, ⟨U', l2, c2, s2⟩, hW₁, X', ⟨g', mk, t, L, e1, e2, hq, h1, hL, h2, h3⟩, st⟩ | ⟨q, vm₁, ⟨U', l2, c2, s2⟩, hW₁, X', ⟨g', mk, t, L, E, ce, e1, e2, hq, hce, hcv, hcl, h1, hL, h2, h3⟩, st⟩
  · dsimp only [Pt.U, Pt.locs, Pt.cells, Pt.slots] at X' e1 e2 h1 h2 h3 st
    subst h1; subst h2; subst h3
    exact Or.inl ⟨v, (T.setVm vm₁).calling g' mk (Value.ref b :: As).toArray, t, U', L, hT, X', hL, e1, e2, hq, st⟩
  · dsimp only [Pt.U, Pt.locs, Pt.cells, Pt.slots] at X' e1 e2 h1 h2 h3 st hcl
    subst h1; subst h2; subst h3
    exact Or.inr ⟨q, (T.setVm vm₁).calling g' mk (Value.ref b :: As).toArray, t, U', L, E, ce, hT, X', hL, e1, e2, hq, hce, hcv, vx_cls hW₁ hcl, st⟩
theorem vx_runS (S : CallFix p m c cc nL s args Ts own) (hM : vx_Met l y ws rm Pc Qc XC mc ms free) (cw : CallB R s args own index y bytes maxL ret ws rm mc ms n ∧ (Cond.static y).before args s = true) (hp : PreS s H Pc As)
    (hg : g.method = m) (hn : As.length = n) (hsize : g.locals.size = nL) (hstack : g.stack = As.reverse ++ rest) (hW : 2 * g.monitorRoom + (rest.map fun v => v.category).sum ≤ 8) (hdg : decode cc g.pc = .ok (.invokestatic index, 3)) (hf : cells + mc ≤ R.cells ∧ slots + ms ≤ R.slots) :
    vx_Run p l e R s m args below meth c H locs cells slots mc ms g rest (Qc As.toArray) XC free := by
  have hK : vx_Back l R p e below s args y 3 8 (PreOf R mc ms Pc) (PostOf Qc mc ms free) (vx_Post XC mc ms free) := vx_callBack cw.1 hM hp.1
  obtain ⟨⟨-, -, -, -, -, -, hcode, hini, hy, hlen, hl⟩, hstt⟩ := cw
  obtain ⟨hx, hb, hml, ho, -⟩ := S
  intro T hT X
  rcases vx_callS X hx (bytes := bytes) (maxL := maxL) (ret := ret) ho hl hstt hini hcode hy hK hg (hsize.trans hml.symm) (argsL := As) (rest := rest) (fun sig h => hn.trans (hlen sig h)) hstack hW (by rw [hb]; exact hdg)
    (fun vm₁ hW₁ => ⟨hf.1, hf.2, hp.2 (T.setVm vm₁) hT hW₁⟩) with ⟨v, vm₁, ⟨U', l2, c2, s2⟩, hW₁, X', ⟨g', mk, t, L, e1, e2, hq, h1, hL, h2, h3⟩, st⟩ | ⟨q, vm₁, ⟨U', l2, c2, s2⟩, hW₁, X', ⟨g', mk, t, L, E, ce, e1, e2, hq, hce, hcv, hcl, h1, hL, h2, h3⟩, st⟩
  · dsimp only [Pt.U, Pt.locs, Pt.cells, Pt.slots] at X' e1 e2 h1 h2 h3 st
    subst h1; subst h2; subst h3
    exact Or.inl ⟨v, (T.setVm vm₁).calling g' mk As.toArray, t, U', L, hT, X', hL, e1, e2, hq, st⟩
  · dsimp only [Pt.U, Pt.locs, Pt.cells, Pt.slots] at X' e1 e2 h1 h2 h3 st hcl
    subst h1; subst h2; subst h3
    exact Or.inr ⟨q, (T.setVm vm₁).calling g' mk As.toArray, t, U', L, E, ce, hT, X', hL, e1, e2, hq, hce, hcv, vx_cls hW₁ hcl, st⟩
end Runs
section Rows
variable {p : Program} {l : Launch} {e : Env} {R : Room} {s : State} {m : MethodId} {args : Array Value} {below : List Frame} {meth : Method} {c : Code} {H : Heap} {locs : List Loc} {cells slots : Nat} {Q : State → Prop}
variable {mc ms : Nat} {free : Addr → Prop} {A0 A1 : Nat → Prop} {H0 : Heap} {a : Array Value} {pc : Nat} {ls : Array Slot} {st0 rest : List Value}
theorem vx_keep {st₀ t T' : State} {L : List Loc} (h0 : st₀.heap = H) (e1 : T'.heap = t.heap) (hS : va_S A0 H0 H locs) (hA : ∀ q, q < H.size → A1 q → A0 q) (hf : ∀ q, free q → A0 q) (hL : ∀ q ∈ L, free q.base) (hF : va_F A1 st₀ t) :
    H.size ≤ T'.heap.size ∧ (∀ q : Nat, q < H.size → ¬ A1 q → T'.heap[q]? = H[q]?) ∧ va_S A0 H0 T'.heap (locs ++ L) := by
  obtain ⟨hz, hk⟩ := hF
  rw [h0] at hz hk
  exact ⟨by rw [e1]; exact hz, fun q h1 h2 => by rw [e1]; exact hk q h1 h2,
    ⟨Nat.le_trans hS.1 (by rw [e1]; exact hz), fun q h1 h2 => by rw [e1, hk q (Nat.lt_of_lt_of_le h1 hS.1) (fun z => h2 (hA q (Nat.lt_of_lt_of_le h1 hS.1) z))]; exact hS.2.1 q h1 h2, fun q hq => by
      rcases List.mem_append.mp hq with h | h
      · exact hS.2.2 q h
      · exact hf _ (hL q h)⟩⟩
theorem vx_calli {S SX : Type} {post : Int32 → S → Prop} {px : SX → Prop} {B : S → State → Prop} {BX : String → SX → State → Prop} {AX : Nat → Prop} (hr : vx_Run p l e R s m args below meth c H locs cells slots mc ms (F0 m pc ls st0) rest (va_Qi post B A1 a) (vx_X px BX AX) free) (hS : va_S A0 H0 H locs) (hA : ∀ q, q < H.size → A1 q → A0 q) (hf : ∀ q, free q → A0 q) (hAX : ∀ q, q < H.size → AX q → A0 q)
    (kx : ∀ (E : String) (ce : Cell) (q9 : Addr) (u : SX) (t : State) (H1 : Heap) (locs1 : List Loc), t.heap = H1 → s.vm.Alike t.vm → px u → BX E u t → H.size ≤ H1.size → (∀ q : Nat, q < H.size → ¬ AX q → H1[q]? = H[q]?) → va_S A0 H0 H1 locs1 → H1[q9]? = some ce → ce.vm = .none → s.vm.findClass E = some ce.cls → vx_W p l e R s m args below meth c H1 locs1 (cells + mc) (slots + ms) Q (F0 m pc ls rest) q9)
    (kk : ∀ (r : Int32) (u : S) (t : State) (H1 : Heap) (locs1 : List Loc), t.heap = H1 → s.vm.Alike t.vm → post r u → B u t → H.size ≤ H1.size → (∀ q : Nat, q < H.size → ¬ A1 q → H1[q]? = H[q]?) → va_S A0 H0 H1 locs1 → W p l e R s m args below meth c H1 locs1 (cells + mc) (slots + ms) Q (F0 m (pc + 3) ls (.int r :: rest))) : W p l e R s m args below meth c H locs cells slots Q (F0 m pc ls st0) := by
  intro T hT X
  rcases hr T hT X with ⟨v, st₀, t, T', L, h0, X', hL, e1, e2, ⟨⟨r, u, hv, hp, hb⟩, hF⟩, st⟩ | ⟨q, st₀, t, T', L, E, ce, h0, X', hL, e1, e2, ⟨u, hp, hb, hF⟩, hce, hcv, hcl, st⟩
  · cases hv
    obtain ⟨k1, k2, k3⟩ := vx_keep h0 e1 hS hA hf hL hF
    obtain ⟨t2, a1, b1⟩ := kk r u t T'.heap (locs ++ L) e1.symm (by rw [← e2]; exact X'.warmed.alike) hp hb k1 k2 k3 T' rfl X'
    exact ⟨t2, st t2 a1, b1⟩
  · obtain ⟨k1, k2, k3⟩ := vx_keep h0 e1 hS hAX hf hL hF
    obtain ⟨t2, a1, b1⟩ := kx E ce q u t T'.heap (locs ++ L) e1.symm (by rw [← e2]; exact X'.warmed.alike) hp hb k1 k2 k3 (by rw [e1]; exact hce) hcv hcl T' rfl X'
    exact ⟨t2, st.trans a1, b1⟩
theorem vx_calll {S SX : Type} {post : Int64 → S → Prop} {px : SX → Prop} {B : S → State → Prop} {BX : String → SX → State → Prop} {AX : Nat → Prop} (hr : vx_Run p l e R s m args below meth c H locs cells slots mc ms (F0 m pc ls st0) rest (va_Ql post B A1 a) (vx_X px BX AX) free) (hS : va_S A0 H0 H locs) (hA : ∀ q, q < H.size → A1 q → A0 q) (hf : ∀ q, free q → A0 q) (hAX : ∀ q, q < H.size → AX q → A0 q)
    (kx : ∀ (E : String) (ce : Cell) (q9 : Addr) (u : SX) (t : State) (H1 : Heap) (locs1 : List Loc), t.heap = H1 → s.vm.Alike t.vm → px u → BX E u t → H.size ≤ H1.size → (∀ q : Nat, q < H.size → ¬ AX q → H1[q]? = H[q]?) → va_S A0 H0 H1 locs1 → H1[q9]? = some ce → ce.vm = .none → s.vm.findClass E = some ce.cls → vx_W p l e R s m args below meth c H1 locs1 (cells + mc) (slots + ms) Q (F0 m pc ls rest) q9)
    (kk : ∀ (r : Int64) (u : S) (t : State) (H1 : Heap) (locs1 : List Loc), t.heap = H1 → s.vm.Alike t.vm → post r u → B u t → H.size ≤ H1.size → (∀ q : Nat, q < H.size → ¬ A1 q → H1[q]? = H[q]?) → va_S A0 H0 H1 locs1 → W p l e R s m args below meth c H1 locs1 (cells + mc) (slots + ms) Q (F0 m (pc + 3) ls (.long r :: rest))) : W p l e R s m args below meth c H locs cells slots Q (F0 m pc ls st0) := by
  intro T hT X
  rcases hr T hT X with ⟨v, st₀, t, T', L, h0, X', hL, e1, e2, ⟨⟨r, u, hv, hp, hb⟩, hF⟩, st⟩ | ⟨q, st₀, t, T', L, E, ce, h0, X', hL, e1, e2, ⟨u, hp, hb, hF⟩, hce, hcv, hcl, st⟩
  · cases hv
    obtain ⟨k1, k2, k3⟩ := vx_keep h0 e1 hS hA hf hL hF
    obtain ⟨t2, a1, b1⟩ := kk r u t T'.heap (locs ++ L) e1.symm (by rw [← e2]; exact X'.warmed.alike) hp hb k1 k2 k3 T' rfl X'
    exact ⟨t2, st t2 a1, b1⟩
  · obtain ⟨k1, k2, k3⟩ := vx_keep h0 e1 hS hAX hf hL hF
    obtain ⟨t2, a1, b1⟩ := kx E ce q u t T'.heap (locs ++ L) e1.symm (by rw [← e2]; exact X'.warmed.alike) hp hb k1 k2 k3 (by rw [e1]; exact hce) hcv hcl T' rfl X'
    exact ⟨t2, st.trans a1, b1⟩
theorem vx_callf {S SX : Type} {post : UInt32 → S → Prop} {px : SX → Prop} {B : S → State → Prop} {BX : String → SX → State → Prop} {AX : Nat → Prop} (hr : vx_Run p l e R s m args below meth c H locs cells slots mc ms (F0 m pc ls st0) rest (va_Qf post B A1 a) (vx_X px BX AX) free) (hS : va_S A0 H0 H locs) (hA : ∀ q, q < H.size → A1 q → A0 q) (hf : ∀ q, free q → A0 q) (hAX : ∀ q, q < H.size → AX q → A0 q)
    (kx : ∀ (E : String) (ce : Cell) (q9 : Addr) (u : SX) (t : State) (H1 : Heap) (locs1 : List Loc), t.heap = H1 → s.vm.Alike t.vm → px u → BX E u t → H.size ≤ H1.size → (∀ q : Nat, q < H.size → ¬ AX q → H1[q]? = H[q]?) → va_S A0 H0 H1 locs1 → H1[q9]? = some ce → ce.vm = .none → s.vm.findClass E = some ce.cls → vx_W p l e R s m args below meth c H1 locs1 (cells + mc) (slots + ms) Q (F0 m pc ls rest) q9)
    (kk : ∀ (r : UInt32) (u : S) (t : State) (H1 : Heap) (locs1 : List Loc), t.heap = H1 → s.vm.Alike t.vm → post r u → B u t → H.size ≤ H1.size → (∀ q : Nat, q < H.size → ¬ A1 q → H1[q]? = H[q]?) → va_S A0 H0 H1 locs1 → W p l e R s m args below meth c H1 locs1 (cells + mc) (slots + ms) Q (F0 m (pc + 3) ls (.float r :: rest))) : W p l e R s m args below meth c H locs cells slots Q (F0 m pc ls st0) := by
  intro T hT X
  rcases hr T hT X with ⟨v, st₀, t, T', L, h0, X', hL, e1, e2, ⟨⟨r, u, hv, hp, hb⟩, hF⟩, st⟩ | ⟨q, st₀, t, T', L, E, ce, h0, X', hL, e1, e2, ⟨u, hp, hb, hF⟩, hce, hcv, hcl, st⟩
  · cases hv
    obtain ⟨k1, k2, k3⟩ := vx_keep h0 e1 hS hA hf hL hF
    obtain ⟨t2, a1, b1⟩ := kk r u t T'.heap (locs ++ L) e1.symm (by rw [← e2]; exact X'.warmed.alike) hp hb k1 k2 k3 T' rfl X'
    exact ⟨t2, st t2 a1, b1⟩
  · obtain ⟨k1, k2, k3⟩ := vx_keep h0 e1 hS hAX hf hL hF
    obtain ⟨t2, a1, b1⟩ := kx E ce q u t T'.heap (locs ++ L) e1.symm (by rw [← e2]; exact X'.warmed.alike) hp hb k1 k2 k3 (by rw [e1]; exact hce) hcv hcl T' rfl X'
    exact ⟨t2, st.trans a1, b1⟩
theorem vx_calld {S SX : Type} {post : UInt64 → S → Prop} {px : SX → Prop} {B : S → State → Prop} {BX : String → SX → State → Prop} {AX : Nat → Prop} (hr : vx_Run p l e R s m args below meth c H locs cells slots mc ms (F0 m pc ls st0) rest (va_Qd post B A1 a) (vx_X px BX AX) free) (hS : va_S A0 H0 H locs) (hA : ∀ q, q < H.size → A1 q → A0 q) (hf : ∀ q, free q → A0 q) (hAX : ∀ q, q < H.size → AX q → A0 q)
    (kx : ∀ (E : String) (ce : Cell) (q9 : Addr) (u : SX) (t : State) (H1 : Heap) (locs1 : List Loc), t.heap = H1 → s.vm.Alike t.vm → px u → BX E u t → H.size ≤ H1.size → (∀ q : Nat, q < H.size → ¬ AX q → H1[q]? = H[q]?) → va_S A0 H0 H1 locs1 → H1[q9]? = some ce → ce.vm = .none → s.vm.findClass E = some ce.cls → vx_W p l e R s m args below meth c H1 locs1 (cells + mc) (slots + ms) Q (F0 m pc ls rest) q9)
    (kk : ∀ (r : UInt64) (u : S) (t : State) (H1 : Heap) (locs1 : List Loc), t.heap = H1 → s.vm.Alike t.vm → post r u → B u t → H.size ≤ H1.size → (∀ q : Nat, q < H.size → ¬ A1 q → H1[q]? = H[q]?) → va_S A0 H0 H1 locs1 → W p l e R s m args below meth c H1 locs1 (cells + mc) (slots + ms) Q (F0 m (pc + 3) ls (.double r :: rest))) : W p l e R s m args below meth c H locs cells slots Q (F0 m pc ls st0) := by
  intro T hT X
  rcases hr T hT X with ⟨v, st₀, t, T', L, h0, X', hL, e1, e2, ⟨⟨r, u, hv, hp, hb⟩, hF⟩, st⟩ | ⟨q, st₀, t, T', L, E, ce, h0, X', hL, e1, e2, ⟨u, hp, hb, hF⟩, hce, hcv, hcl, st⟩
  · cases hv
    obtain ⟨k1, k2, k3⟩ := vx_keep h0 e1 hS hA hf hL hF
    obtain ⟨t2, a1, b1⟩ := kk r u t T'.heap (locs ++ L) e1.symm (by rw [← e2]; exact X'.warmed.alike) hp hb k1 k2 k3 T' rfl X'
    exact ⟨t2, st t2 a1, b1⟩
  · obtain ⟨k1, k2, k3⟩ := vx_keep h0 e1 hS hAX hf hL hF
    obtain ⟨t2, a1, b1⟩ := kx E ce q u t T'.heap (locs ++ L) e1.symm (by rw [← e2]; exact X'.warmed.alike) hp hb k1 k2 k3 (by rw [e1]; exact hce) hcv hcl T' rfl X'
    exact ⟨t2, st.trans a1, b1⟩
theorem vx_callv {S SX : Type} {post : S → Prop} {px : SX → Prop} {B : S → State → Prop} {BX : String → SX → State → Prop} {AX : Nat → Prop} (hr : vx_Run p l e R s m args below meth c H locs cells slots mc ms (F0 m pc ls st0) rest (va_Qv post B A1 a) (vx_X px BX AX) free) (hS : va_S A0 H0 H locs) (hA : ∀ q, q < H.size → A1 q → A0 q) (hf : ∀ q, free q → A0 q) (hAX : ∀ q, q < H.size → AX q → A0 q)
    (kx : ∀ (E : String) (ce : Cell) (q9 : Addr) (u : SX) (t : State) (H1 : Heap) (locs1 : List Loc), t.heap = H1 → s.vm.Alike t.vm → px u → BX E u t → H.size ≤ H1.size → (∀ q : Nat, q < H.size → ¬ AX q → H1[q]? = H[q]?) → va_S A0 H0 H1 locs1 → H1[q9]? = some ce → ce.vm = .none → s.vm.findClass E = some ce.cls → vx_W p l e R s m args below meth c H1 locs1 (cells + mc) (slots + ms) Q (F0 m pc ls rest) q9)
    (kk : ∀ (u : S) (t : State) (H1 : Heap) (locs1 : List Loc), t.heap = H1 → s.vm.Alike t.vm → post u → B u t → H.size ≤ H1.size → (∀ q : Nat, q < H.size → ¬ A1 q → H1[q]? = H[q]?) → va_S A0 H0 H1 locs1 → W p l e R s m args below meth c H1 locs1 (cells + mc) (slots + ms) Q (F0 m (pc + 3) ls (rest))) : W p l e R s m args below meth c H locs cells slots Q (F0 m pc ls st0) := by
  intro T hT X
  rcases hr T hT X with ⟨v, st₀, t, T', L, h0, X', hL, e1, e2, ⟨⟨u, hv, hp, hb⟩, hF⟩, st⟩ | ⟨q, st₀, t, T', L, E, ce, h0, X', hL, e1, e2, ⟨u, hp, hb, hF⟩, hce, hcv, hcl, st⟩
  · cases hv
    obtain ⟨k1, k2, k3⟩ := vx_keep h0 e1 hS hA hf hL hF
    obtain ⟨t2, a1, b1⟩ := kk u t T'.heap (locs ++ L) e1.symm (by rw [← e2]; exact X'.warmed.alike) hp hb k1 k2 k3 T' rfl X'
    exact ⟨t2, st t2 a1, b1⟩
  · obtain ⟨k1, k2, k3⟩ := vx_keep h0 e1 hS hAX hf hL hF
    obtain ⟨t2, a1, b1⟩ := kx E ce q u t T'.heap (locs ++ L) e1.symm (by rw [← e2]; exact X'.warmed.alike) hp hb k1 k2 k3 (by rw [e1]; exact hce) hcv hcl T' rfl X'
    exact ⟨t2, st.trans a1, b1⟩
/-- caught by the row x of this method's table; the rows ahead don't take it -/
theorem vx_catch {own name : String} {E : String} {ce : Cell} {q : Addr} (hown : s.vm.findClass own = some m.cls) (pre : List ExceptionTableEntry) (x : ExceptionTableEntry) (suf : List ExceptionTableEntry) (hsplit : c.exceptionTable.toList = pre ++ x :: suf)
    (hpass : ∀ z ∈ pre, covers z pc = false ∨ (z.catchType ≠ 0 ∧ ∃ nm : String, (Cond.classLink own z.catchType nm).before args s = true ∧ va_Nc E nm s)) (hx : covers x pc = true) (h0 : x.catchType ≠ 0)
    (hlink : (Cond.classLink own x.catchType name).before args s = true) (hcast : (Cond.castable E name).before args s = true) (hcell : H[q]? = some ce) (hv : ce.vm = .none) (hcl : s.vm.findClass E = some ce.cls)
    (kk : W p l e R s m args below meth c H locs cells slots Q (F0 m x.handlerPc ls [.ref q])) : vx_W p l e R s m args below meth c H locs cells slots Q (F0 m pc ls rest) q := by
  intro T hT X
  have hpl : e.platform.magicAccessors = ({} : Platform).magicAccessors := by rw [X.admits.platform]
  obtain ⟨c3, c4, hc3, hc4, hasg⟩ := Cond.castable_spec hcast
  cases Option.some.inj (hc3.symm.trans hcl)
  obtain ⟨c5, hc5, hcl5⟩ := Cond.classLink_spec hown hlink e.platform hpl
  cases Option.some.inj (hc4.symm.trans hc5)
  obtain ⟨vm', X', st⟩ := ct_thru X q (g := F0 m pc ls rest) rfl (by rw [hT]; exact hcell) (by rw [hv]; rfl) (by obtain ⟨k9, h9, -⟩ := Vm.findClass_spec hcl; exact ⟨k9, h9⟩) pre x suf hsplit
    (fun z hz => by
      rcases hpass z hz with h | ⟨hz0, nm, hl1, hn1⟩
      · exact Or.inl h
      · obtain ⟨c6, hc6, hcl6⟩ := Cond.classLink_spec hown hl1 e.platform hpl
        obtain ⟨a8, b8, h1, h2, h3⟩ := hn1
        cases Option.some.inj (h1.symm.trans hcl)
        cases Option.some.inj (h2.symm.trans hc6)
        exact Or.inr ⟨hz0, _, hcl6, h3⟩) hx h0 hcl5 hasg
  obtain ⟨t, a1, b1⟩ := kk (T.setVm vm') hT X'
  exact ⟨t, st.trans a1, b1⟩
end Rows
section Ends
variable {p : Program} {l : Launch} {e : Env} {R : Room} {s : State} {m : MethodId} {args : Array Value} {below : List Frame} {meth : Method} {c : Code} {H : Heap} {locs : List Loc} {cells slots : Nat} {Q : State → Prop}
variable {mc ms : Nat} {free : Addr → Prop} {A0 A1 : Nat → Prop} {H0 : Heap} {a : Array Value} {ls : Array Slot} {st0 rest : List Value}
variable {Qc : Array Value → State → Outcome → State → Prop} {XC : String → State → State → Prop}
/-- what a body that may throw owes at its end -/
def vx_MQ (below : List Frame) (Qc : Array Value → State → Outcome → State → Prop) (XC : String → State → State → Prop) (a : Array Value) (s : State) (mc ms : Nat) (free : Addr → Prop) : State → Prop := fun t =>
  ∃ o, t.status = .running ∧ Ended t below o ∧ vx_Q Qc XC mc ms free a s o t
theorem vx_ret {g : JFrame} {mc ms : Nat} (k : W p l e R s m args below meth c H locs cells slots (MQ below Qc args s mc ms free) g) : W p l e R s m args below meth c H locs cells slots (vx_MQ below Qc XC args s mc ms free) g := by
  intro T hT X
  obtain ⟨t, a1, o, b1, b2, b3, b4⟩ := k T hT X
  exact ⟨t, a1, o, b1, b2, Or.inl ⟨b3, b4⟩⟩
/-- not caught here: it goes on to the caller -/
theorem vx_widen {g : JFrame} {q : Addr} {k n : Nat} (h1 : cells ≤ k) (h2 : slots ≤ n) (kk : vx_W p l e R s m args below meth c H locs k n Q g q) : vx_W p l e R s m args below meth c H locs cells slots Q g q := fun T hT X => kk T hT (stand_widen X h1 h2)
theorem vx_out {pc : Nat} {E : String} {ce : Cell} {q : Addr} {mc ms : Nat} (hout : ∀ x ∈ c.exceptionTable.toList, covers x pc = false) (hlocks : meth.locks = false) (hcell : H[q]? = some ce) (hv : ce.vm = .none) (hcl : s.vm.findClass E = some ce.cls)
    (hx : ∀ t : State, t.heap = H → s.vm.Alike t.vm → XC E s t) (hf : ∀ z ∈ locs, free z.base) (hc : cells ≤ mc) (hs : slots ≤ ms) :
    vx_W p l e R s m args below meth c H locs cells slots (vx_MQ below Qc XC args s mc ms free) (F0 m pc ls rest) q := by
  intro T hT X
  obtain ⟨st1, hrun, hend, hW, hsm⟩ := X.leaveThrown q (g := F0 m pc ls rest) rfl rfl rfl hout hlocks
  have hcell9 : (T.setFrames (.throwing q :: below)).heap[q]? = some ce := by
    show T.heap[q]? = some ce
    rw [hT]; exact hcell
  exact ⟨_, st1, .threw q, hrun, hend, Or.inr ⟨q, rfl, E, ce, locs, hx _ hT hW.alike, hcell9, hv, hcl, hW, hsm.mono hc hs, hf⟩⟩
theorem vx_frame {U : State} {k n : Nat} (h : s.sameButNew ({ U with vm := s.vm } : State) locs k n) : s.heap.size ≤ U.heap.size ∧ ∀ q : Nat, q < s.heap.size → (∀ z ∈ locs, z.base ≠ q) → U.heap[q]? = s.heap[q]? := by
  obtain ⟨-, h2, -, -, -, h6⟩ := h
  refine ⟨h2, fun q hq hz => ?_⟩
  obtain ⟨c9, e1, e2, e3, e4⟩ := h6 q _ (Array.getElem?_eq_getElem hq)
  have hs : c9.slots = (s.heap[q]).slots := Array.ext_getElem? fun i => e4 i fun hm => hz _ hm rfl
  have h9 : c9 = s.heap[q] := by
    rw [hs] at e2
    exact e2
  have e5 : U.heap[q]? = some c9 := e1
  rw [e5, h9, Array.getElem?_eq_getElem hq]
/-- the words of a throw but the four that speak of the heap -/
def vx_no (w : Cond) : Bool := decide (w ≠ .isRef (.static Bundle.tN "UNASSIGNED_STACK" Bundle.steD)) && decide (w ≠ .isRef (.static Bundle.tN "SUPPRESSED_SENTINEL" Bundle.listD)) && decide (w ≠ .laysStatic Bundle.tN "UNASSIGNED_STACK" Bundle.steD) && decide (w ≠ .laysStatic Bundle.tN "SUPPRESSED_SENTINEL" Bundle.listD)
def vx_at0 (own : String) (ic : Nat) (X : String) (names : List String) : List Cond := (Bundle.ownAtoms0 own ic X names).filter vx_no
def vx_atS (own : String) (ic : Nat) (X : String) (names : List String) : List Cond := (Bundle.ownAtoms own ic X names).filter vx_no
/-- a word that the tables alone decide, or a good one -/
def vx_ot (w : Cond) : Bool := w.onTables || goodWord w
theorem vx_ot_at {args a' : Array Value} {s U : State} {w : Cond} (hW : s.WarmedH U.vm) (hvm : s.vm = U.vm) (hg : vx_ot w = true) (h : w.before args s = true) : w.before a' U = true := by
  simp only [vx_ot, Bool.or_eq_true] at hg
  rcases hg with hg | hg
  · exact va_tabs hg hvm h
  · exact word_at hW (good_of_word hg) h
/-- a list's words: the good ones out of the method's own list, the others by premises of their own -/
theorem vx_hat {args : Array Value} {s : State} {L B : List Cond} (h1 : ∀ w ∈ L.filter goodWord, w.before args s = true) (h2 : ∀ w ∈ L.filter (fun w => !goodWord w), w ∈ B) (h3 : ∀ w ∈ B, w.before args s = true) : ∀ w ∈ L, w.before args s = true := by
  intro w hw
  by_cases g : goodWord w = true
  · exact h1 w (List.mem_filter.mpr ⟨hw, g⟩)
  · refine h3 w (h2 w (List.mem_filter.mpr ⟨hw, ?_⟩))
    show (!goodWord w) = true
    cases hgw : goodWord w
    · rfl
    · exact absurd hgw g
theorem vx_c {args : Array Value} {s : State} {w : Cond} {B : List Cond} (h : w.before args s = true) (t : ∀ w ∈ B, w.before args s = true) : ∀ w' ∈ w :: B, w'.before args s = true := fun w' h' => (List.mem_cons.mp h').elim (fun e => by rw [e]; exact h) (t w')
theorem vx_n {args : Array Value} {s : State} : ∀ w ∈ ([] : List Cond), w.before args s = true := fun _ h => nomatch h
theorem vx_own {args : Array Value} {s : State} {L : List Cond} (h1 : ∀ w ∈ L.filter vx_no, w.before args s = true)
    (hU : (Cond.isRef (.static Bundle.tN "UNASSIGNED_STACK" Bundle.steD)).before args s = true) (hN : (Cond.isRef (.static Bundle.tN "SUPPRESSED_SENTINEL" Bundle.listD)).before args s = true)
    (lU : (Cond.laysStatic Bundle.tN "UNASSIGNED_STACK" Bundle.steD).before args s = true) (lN : (Cond.laysStatic Bundle.tN "SUPPRESSED_SENTINEL" Bundle.listD).before args s = true) : ∀ w ∈ L, w.before args s = true := by
  intro w hw
  by_cases e1 : w = .isRef (.static Bundle.tN "UNASSIGNED_STACK" Bundle.steD)
  · rw [e1]; exact hU
  · by_cases e2 : w = .isRef (.static Bundle.tN "SUPPRESSED_SENTINEL" Bundle.listD)
    · rw [e2]; exact hN
    · by_cases e3 : w = .laysStatic Bundle.tN "UNASSIGNED_STACK" Bundle.steD
      · rw [e3]; exact lU
      · by_cases e4 : w = .laysStatic Bundle.tN "SUPPRESSED_SENTINEL" Bundle.listD
        · rw [e4]; exact lN
        · exact h1 w (List.mem_filter.mpr ⟨hw, by unfold vx_no; rw [decide_eq_true e1, decide_eq_true e2, decide_eq_true e3, decide_eq_true e4]; rfl⟩)
/-- where a static field lies, its class's statics cell in H -/
def vx_L (C n d : String) (A : Nat → Prop) (U : State) (H : Heap) : Prop := ∃ (c : ClassId) (k : Class) (i : Nat) (f : Field) (a : Nat) (cell : Cell), U.vm.findClass C = some c ∧ U.fieldFound? C n d = some (c, k, i, f) ∧ f.isStatic = true ∧ k.statics = some a ∧ H[a]? = some cell ∧ cell.vm.isStatics = true ∧ cell.cls = c ∧ f.slot < cell.slots.size ∧ k.staticTypes[f.slot]? = some f.type ∧ ¬ A a
theorem vx_L.moved {C n d : String} {A : Nat → Prop} {u U : State} {H : Heap} (hvm : u.vm.Alike U.vm) (h : vx_L C n d A u H) : vx_L C n d A U H := by
  obtain ⟨c, k, i, f, a, cell, h1, h2, h3, h4, h5, h6, h7, h8, h9, h10⟩ := h
  obtain ⟨k', hi', he⟩ := State.fieldFound?_setVm hvm h2
  exact ⟨c, k', i, f, a, cell, by rw [hvm.findClass]; exact h1, hi', h3, by rw [he]; exact h4, h5, h6, h7, h8, by rw [he]; exact h9, h10⟩
theorem vx_L.kept {C n d : String} {A : Nat → Prop} {U : State} {H H1 : Heap} (h : vx_L C n d A U H) (hq : ∀ a : Nat, a < H.size → ¬ A a → H1[a]? = H[a]?) : vx_L C n d A U H1 := by
  obtain ⟨c, k, i, f, a, cell, h1, h2, h3, h4, h5, h6, h7, h8, h9, h10⟩ := h
  exact ⟨c, k, i, f, a, cell, h1, h2, h3, h4, by rw [hq a (Array.getElem?_eq_some_iff.mp h5).1 h10]; exact h5, h6, h7, h8, h9, h10⟩
theorem vx_L.narrow {C n d : String} {A B : Nat → Prop} {U : State} {H : Heap} (h : vx_L C n d A U H) (hAB : ∀ q, B q → A q) : vx_L C n d B U H := by
  obtain ⟨c, k, i, f, a, cell, h1, h2, h3, h4, h5, h6, h7, h8, h9, h10⟩ := h
  exact ⟨c, k, i, f, a, cell, h1, h2, h3, h4, h5, h6, h7, h8, h9, fun z => h10 (hAB _ z)⟩
theorem vx_L.word {C n d : String} {A : Nat → Prop} {s : State} {args : Array Value} (h : vx_L C n d A s s.heap) : (Cond.laysStatic C n d).before args s = true := by
  obtain ⟨c, k, i, f, a, cell, h1, h2, h3, h4, h5, h6, h7, h8, h9, -⟩ := h
  show (Cond.laysStatic C n d).holds args s none s [] = true
  exact Cond.laysStatic_of h1 h2 h3 h4 h5 h6 h7 h8 h9
/-- .. and what it holds: null or some reference -/
def vx_Zq (C n d : String) (A : Nat → Prop) (U : State) (H : Heap) : Prop := va_Zq C n d A U H ∧ vx_L C n d A U H
theorem vx_Zq.moved {C n d : String} {A : Nat → Prop} {u U : State} {H : Heap} (hvm : u.vm.Alike U.vm) (h : vx_Zq C n d A u H) : vx_Zq C n d A U H := ⟨va_Zq.moved hvm h.1, vx_L.moved hvm h.2⟩
theorem vx_Zq.kept {C n d : String} {A : Nat → Prop} {U : State} {H H1 : Heap} (h : vx_Zq C n d A U H) (hq : ∀ a : Nat, a < H.size → ¬ A a → H1[a]? = H[a]?) : vx_Zq C n d A U H1 := ⟨va_Zq.kept h.1 hq, vx_L.kept h.2 hq⟩
theorem vx_Zq.narrow {C n d : String} {A B : Nat → Prop} {U : State} {H : Heap} (h : vx_Zq C n d A U H) (hAB : ∀ q, B q → A q) : vx_Zq C n d B U H := ⟨va_Zq.narrow h.1 hAB, vx_L.narrow h.2 hAB⟩
theorem vx_Zqof {args : Array Value} {s : State} {C n d : String} {A : Nat → Prop} (hl : (Cond.laysStatic C n d).before args s = true) (hini : (Cond.initialized C).before args s = true) (h : (Cond.isRef (.static C n d)).before args s = true) (hA : ∀ a : Nat, a < s.heap.size → ¬ A a) : vx_Zq C n d A s s.heap := by
  refine ⟨va_Zqof hl hini h hA, ?_⟩
  obtain ⟨c, k, i, f, a, cell, h1, h2, h3, h4, h5, h6, h7, h8, h9⟩ := Cond.laysStatic_spec hl
  exact ⟨c, k, i, f, a, cell, h1, h2, h3, h4, h5, h6, h7, h8, h9, hA a (Array.getElem?_eq_some_iff.mp h5).1⟩
theorem vx_isRef {C n d : String} {v : Value} {A : Nat → Prop} {s : State} {args : Array Value} (h : va_Z C n d v A s s.heap) (hv : v.isRef = true) : (Cond.isRef (.static C n d)).before args s = true := by
  obtain ⟨cf, kf, fi, f, a, cell, h1, h2, h3, h4, h5, h6, h7, -⟩ := h
  have he : (Term.static C n d).eval args s none [] s = some v := by
    simp [Term.eval, State.fieldNamed?, h1, h2, h4, h5, h6, h7]
  simp only [Cond.before, Cond.holds, Cond.value, he]
  cases v <;> simp_all [Value.isRef]
theorem vx_isRefq {C n d : String} {A : Nat → Prop} {s : State} {args : Array Value} (h : va_Zq C n d A s s.heap) : (Cond.isRef (.static C n d)).before args s = true := by
  rcases h with h | ⟨t, h⟩
  · exact vx_isRef h rfl
  · exact vx_isRef h rfl
/-- the same frame, seen from here: as if the method were called anew in this heap -/
theorem vx_rebase {T : State} (X : Stand p l e R s m args below meth c T locs cells slots) {R' : Room} (hf : R'.frames ≤ R.frames) (hl : R'.locals ≤ R.locals) (hc : cells + R'.cells ≤ R.cells) (hs : slots + R'.slots ≤ R.slots) :
    Stand p l e R' ((T.setVm s.vm).setFrames (.invoking m args :: below)) m args below meth c T [] 0 0 := by
  have htop : (T.setVm s.vm).topJava?.isSome := X.here.top
  have hF : ((T.setVm s.vm).setFrames (.invoking m args :: below)).frames = .invoking m args :: below := State.frames_setFrames _ (State.cur_lt_of_top htop)
  obtain ⟨g₀, hg0⟩ := Option.isSome_iff_exists.mp htop
  obtain ⟨r, hr⟩ := State.topJava?_eq_some.mp hg0
  have hl9 : e.platform.stackLimits (T.setVm s.vm).me = e.platform.stackLimits s.me := X.limits
  have hb9 : (T.setVm s.vm).me.stackBytes = s.me.stackBytes := X.bytes
  refine ⟨X.admits, X.cas, X.clock, hF, ?_, X.hears, X.method, X.code, X.here, X.tail, X.warmed, ?_, ?_, ?_⟩
  · have h := X.room
    have hU : ((T.setVm s.vm).setFrames (.invoking m args :: below)).localsInUse = s.localsInUse := by
      rw [State.localsInUse_invoking hF (meth := meth) (c := c) X.method X.code, State.localsInUse_invoking X.frames X.method X.code]
    simp only [State.hasRoom, Bool.and_eq_true, decide_eq_true_eq] at h ⊢
    obtain ⟨⟨⟨⟨h1, h2, h3, h4, h5, h6⟩, h7⟩, h8⟩, h9⟩ := h
    rw [X.frames, List.length_cons] at h2 h3
    have q1 := X.heapSize
    have q2 := X.used
    simp only [hF, hU, List.length_cons, State.stackLimits_setFrames, State.stackBytes_setFrames, hl9, hb9]
    refine ⟨⟨⟨⟨by omega, by omega, by omega, by omega, by omega, h6⟩, ?_⟩, ?_⟩, X.book⟩
    · show T.heap.size + R'.cells ≤ e.platform.maxCells
      omega
    · show T.slotsUsed + R'.slots ≤ e.platform.maxSlots
      omega
  · rw [State.stackLimits_setFrames]; rfl
  · rw [State.stackBytes_setFrames]; rfl
  · refine ⟨?_, Nat.le_refl _, Nat.le_refl _, ?_, ?_, fun a c9 h9 => ⟨c9, h9, rfl, rfl, fun _ _ => rfl⟩⟩
    · obtain ⟨t, ht, -⟩ := State.frames_cons hr
      show T.setVm s.vm = { ((T.setVm s.vm).setFrames (.invoking m args :: below)).setFrames (T.setVm s.vm).frames with heap := T.heap, slotsUsed := T.slotsUsed }
      rw [State.setFrames_setFrames, State.setFrames_self ht]
      rfl
    · show T.slotsUsed = T.slotsUsed + ((T.heap.toList.drop T.heap.size).map (·.slots.size)).sum
      rw [List.drop_eq_nil_of_le (Nat.le_of_eq Array.length_toList)]
      rfl
    · show ((T.heap.toList.drop T.heap.size).map (·.slots.size)).sum ≤ 0
      rw [List.drop_eq_nil_of_le (Nat.le_of_eq Array.length_toList)]
      exact Nat.le_refl _
/-- 'throw new E()': new; dup; invokespecial; athrow -/
theorem vx_throw0 {cc : ByteArray} {pc : Nat} (hexec : p.tables.exec = Jvm.exec) (hb : c.code = cc) (hl : l.stackTraces = false) {own cls : String} {names : List String} {ik ic mc ms : Nat} {A : Nat → Prop}
    (hown : s.vm.findClass own = some m.cls) (hcls : Bundle.fit cls = true) (hnames : ∀ n ∈ names, Bundle.fit n = true)
    (hk : (Cond.classLink own ik cls).before args s = true) (hini : (Cond.initialized cls).before args s = true) (hat : ∀ w ∈ vx_at0 own ic cls names, w.before args s = true)
    (hgood : ∀ w ∈ Cond.classLink own ik cls :: Cond.initialized cls :: vx_at0 own ic cls names, vx_ot w = true)
    (hU : vx_Zq Bundle.tN "UNASSIGNED_STACK" Bundle.steD A s s.heap) (hN : vx_Zq Bundle.tN "SUPPRESSED_SENTINEL" Bundle.listD A s s.heap) (hS : va_S A s.heap H locs) (hsize : ls.size = c.maxLocals)
    (d0 : decode cc pc = .ok (.new ik, 3)) (d3 : decode cc (pc + 3) = .ok (.dup, 1)) (d4 : decode cc (pc + 4) = .ok (.invokespecial ic, 3)) (d7 : decode cc (pc + 7) = .ok (.athrow, 1))
    (hout : ∀ x ∈ c.exceptionTable.toList, covers x (pc + 7) = false)
    (hRframes : names.length + 3 < R.frames) (hRlocals : (rest.map fun v => v.category).sum + (13 * (names.length + 1) + 42) ≤ R.locals) (hRcells : cells + 1 ≤ R.cells) (hRslots : slots + 6 ≤ R.slots) (hlocks : meth.locks = false)
    (hx : ∀ t : State, s.vm.Alike t.vm → H.size ≤ t.heap.size → (∀ q : Nat, q < H.size → t.heap[q]? = H[q]?) → XC cls s t)
    (hf : ∀ z ∈ locs, free z.base) (hc : cells + 1 ≤ mc) (hs : slots + 6 ≤ ms) :
    W p l e R s m args below meth c H locs cells slots (vx_MQ below Qc XC args s mc ms free) (F0 m pc ls rest) := by
  intro T hT X
  have htr : e.platform.stackTraces = false := (show e.platform.stackTraces = l.stackTraces by rw [X.admits.platform]).trans hl
  have Y := vx_rebase X (R' := { frames := R.frames, locals := R.locals, cells := 1, slots := 6 }) (Nat.le_refl _) (Nat.le_refl _) hRcells hRslots
  obtain ⟨s', hA⟩ : ∃ z, z = (T.setVm s.vm).setFrames (.invoking m args :: below) := ⟨_, rfl⟩
  rw [← hA] at Y
  have hvm : s'.vm = s.vm := by rw [hA]; rfl
  have hhp : s'.heap = H := by rw [hA]; exact hT
  have hW0 : s.WarmedH s'.vm := by rw [hvm]; exact State.WarmedH.refl s
  have hat' : ∀ w ∈ vx_at0 own ic cls names, w.before args s' = true := fun w hw => vx_ot_at hW0 hvm.symm (hgood w (List.mem_cons_of_mem _ (List.mem_cons_of_mem _ hw))) (hat w hw)
  have hk' : (Cond.classLink own ik cls).before args s' = true := vx_ot_at hW0 hvm.symm (hgood _ List.mem_cons_self) hk
  have hini' : (Cond.initialized cls).before args s' = true := vx_ot_at hW0 hvm.symm (hgood _ (List.mem_cons_of_mem _ List.mem_cons_self)) hini
  have hU' : vx_Zq Bundle.tN "UNASSIGNED_STACK" Bundle.steD A s' s'.heap := by rw [hhp]; exact vx_Zq.moved hW0.alike (hU.kept hS.2.1)
  have hN' : vx_Zq Bundle.tN "SUPPRESSED_SENTINEL" Bundle.listD A s' s'.heap := by rw [hhp]; exact vx_Zq.moved hW0.alike (hN.kept hS.2.1)
  have h : ∀ w ∈ Bundle.ownAtoms0 own ic cls names, w.before args s' = true := vx_own hat' (vx_isRefq hU'.1) (vx_isRefq hN'.1) hU'.2.word hN'.2.word
  have hown' : s'.vm.findClass own = some m.cls := by rw [hvm]; exact hown
  have hins : (Cond.instantiable cls 6).before args s' = true := h _ (by simp [Bundle.ownAtoms0])
  obtain ⟨vm₁, cX, kX, hfX, hkX, -, -, X₁, st1⟩ := Y.newCold hexec (own := own) (C := cls) (index := ik) (n := 6) hown' hk' hins hini'
    (g := F0 m pc ls rest) rfl (by rw [hb]; exact d0) (Nat.le_refl _) (Nat.le_refl _)
  generalize hT1 : (T.setVm vm₁).pushCell { cls := cX, slots := kX.instanceTypes.map defaultValue, vm := .none } = T1 at X₁ st1
  have hcat : (Value.ref T.heap.size).category = 1 := rfl
  have hcellA : T1.heap[T.heap.size]? = some (freshCell cX kX) := by rw [← hT1]; exact State.heap_pushCell_size _ _
  have d3' : decode c.code (pc + 3) = .ok (.dup, 1) := by rw [hb]; exact d3
  obtain ⟨U, hsteps, hrun, hend, hW, hsame, ce, hce, hO⟩ := X₁.ctorThrow0 hexec htr (own := own) (cls := cls) (names := names) (ic := ic) hown' hcls hnames h (fun x hx => nomatch hx) hfX hkX hcellA (by rw [hhp, hT]; exact Nat.le_refl _)
    (g := { method := m, pc := pc + 4, locals := ls, stack := .ref T.heap.size :: .ref T.heap.size :: rest, locked := none }) rfl hsize rfl rfl (rest := rest) rfl
    (by rw [hb]; exact d4) (by rw [hb]; exact d7) hout hRframes (by simp only [List.map_cons, List.sum_cons, hcat]; omega) hlocks
  obtain ⟨f1, f2⟩ := vx_frame hsame
  rw [hhp] at f1 f2
  have hWs : s.WarmedH U.vm := State.WarmedH.trans hW0 hW
  have hcl : s.vm.findClass cls = some ce.cls := by
    have h9 := hO.cls
    rw [hvm] at h9
    exact h9
  have hall : s.sameButNew ({ U with vm := s.vm } : State) locs mc ms := by
    subst hA
    obtain ⟨e1, e2⟩ := hsame
    rw [State.setFrames_setFrames] at e1
    have h2 : (T.setVm s.vm).sameButNew ({ U with vm := s.vm } : State) [] (0 + 1) (0 + 6) := ⟨e1, e2⟩
    have h3 := X.same.trans h2
    rw [List.append_nil] at h3
    exact h3.mono hc hs
  refine ⟨U, ?_, .threw T.heap.size, hrun, hend, Or.inr ⟨T.heap.size, rfl, cls, ce, locs, hx U hWs.alike f1 (fun q hq => f2 q hq (fun z hz => nomatch hz)), hce, hO.vm, hcl, hWs, hall, hf⟩⟩
  refine st1 _ ?_
  show Steps p.tables e below (T1.setTop { method := m, pc := pc + 3, locals := ls, stack := .ref T.heap.size :: rest, locked := none }) _
  jvm_step X₁.here [X₁.here.top, hexec, d3', Value.category]
  exact hsteps
/-- 'throw new E("text")': new; dup; ldc; invokespecial; athrow -/
theorem vx_throwS {cc : ByteArray} {pc : Nat} (hexec : p.tables.exec = Jvm.exec) (hb : c.code = cc) (hl : l.stackTraces = false) {own cls text : String} {names : List String} {ik is ic mc ms sa : Nat} {A : Nat → Prop}
    (hown : s.vm.findClass own = some m.cls) (hcls : Bundle.fit cls = true) (hnames : ∀ n ∈ names, Bundle.fit n = true)
    (hk : (Cond.classLink own ik cls).before args s = true) (hini : (Cond.initialized cls).before args s = true) (hstr : vk_R own is text sa s) (hat : ∀ w ∈ vx_atS own ic cls names, w.before args s = true)
    (hgood : ∀ w ∈ Cond.classLink own ik cls :: Cond.initialized cls :: vx_atS own ic cls names, vx_ot w = true)
    (hU : vx_Zq Bundle.tN "UNASSIGNED_STACK" Bundle.steD A s s.heap) (hN : vx_Zq Bundle.tN "SUPPRESSED_SENTINEL" Bundle.listD A s s.heap) (hS : va_S A s.heap H locs) (hsize : ls.size = c.maxLocals)
    (d0 : decode cc pc = .ok (.new ik, 3)) (d3 : decode cc (pc + 3) = .ok (.dup, 1)) (d4 : decode cc (pc + 4) = .ok (.ldc is, 2)) (d6 : decode cc (pc + 6) = .ok (.invokespecial ic, 3)) (d9 : decode cc (pc + 9) = .ok (.athrow, 1))
    (hout : ∀ x ∈ c.exceptionTable.toList, covers x (pc + 9) = false)
    (hRframes : names.length + 3 < R.frames) (hRlocals : (rest.map fun v => v.category).sum + (13 * (names.length + 1) + 43) ≤ R.locals) (hRcells : cells + 1 ≤ R.cells) (hRslots : slots + 6 ≤ R.slots) (hlocks : meth.locks = false)
    (hx : ∀ t : State, s.vm.Alike t.vm → H.size ≤ t.heap.size → (∀ q : Nat, q < H.size → t.heap[q]? = H[q]?) → XC cls s t)
    (hf : ∀ z ∈ locs, free z.base) (hc : cells + 1 ≤ mc) (hs : slots + 6 ≤ ms) :
    W p l e R s m args below meth c H locs cells slots (vx_MQ below Qc XC args s mc ms free) (F0 m pc ls rest) := by
  intro T hT X
  have htr : e.platform.stackTraces = false := (show e.platform.stackTraces = l.stackTraces by rw [X.admits.platform]).trans hl
  have Y := vx_rebase X (R' := { frames := R.frames, locals := R.locals, cells := 1, slots := 6 }) (Nat.le_refl _) (Nat.le_refl _) hRcells hRslots
  obtain ⟨s', hA⟩ : ∃ z, z = (T.setVm s.vm).setFrames (.invoking m args :: below) := ⟨_, rfl⟩
  rw [← hA] at Y
  have hvm : s'.vm = s.vm := by rw [hA]; rfl
  have hhp : s'.heap = H := by rw [hA]; exact hT
  have hW0 : s.WarmedH s'.vm := by rw [hvm]; exact State.WarmedH.refl s
  have hat' : ∀ w ∈ vx_atS own ic cls names, w.before args s' = true := fun w hw => vx_ot_at hW0 hvm.symm (hgood w (List.mem_cons_of_mem _ (List.mem_cons_of_mem _ hw))) (hat w hw)
  have hk' : (Cond.classLink own ik cls).before args s' = true := vx_ot_at hW0 hvm.symm (hgood _ List.mem_cons_self) hk
  have hini' : (Cond.initialized cls).before args s' = true := vx_ot_at hW0 hvm.symm (hgood _ (List.mem_cons_of_mem _ List.mem_cons_self)) hini
  have hU' : vx_Zq Bundle.tN "UNASSIGNED_STACK" Bundle.steD A s' s'.heap := by rw [hhp]; exact vx_Zq.moved hW0.alike (hU.kept hS.2.1)
  have hN' : vx_Zq Bundle.tN "SUPPRESSED_SENTINEL" Bundle.listD A s' s'.heap := by rw [hhp]; exact vx_Zq.moved hW0.alike (hN.kept hS.2.1)
  have h : ∀ w ∈ Bundle.ownAtoms own ic cls names, w.before args s' = true := vx_own hat' (vx_isRefq hU'.1) (vx_isRefq hN'.1) hU'.2.word hN'.2.word
  have hown' : s'.vm.findClass own = some m.cls := by rw [hvm]; exact hown
  have hins : (Cond.instantiable cls 6).before args s' = true := h _ (by simp [Bundle.ownAtoms])
  obtain ⟨vm₁, cX, kX, hfX, hkX, -, -, X₁, st1⟩ := Y.newCold hexec (own := own) (C := cls) (index := ik) (n := 6) hown' hk' hins hini'
    (g := F0 m pc ls rest) rfl (by rw [hb]; exact d0) (Nat.le_refl _) (Nat.le_refl _)
  generalize hT1 : (T.setVm vm₁).pushCell { cls := cX, slots := kX.instanceTypes.map defaultValue, vm := .none } = T1 at X₁ st1
  have hcat : (Value.ref T.heap.size).category = 1 := rfl
  have hcellA : T1.heap[T.heap.size]? = some (freshCell cX kX) := by rw [← hT1]; exact State.heap_pushCell_size _ _
  have d3' : decode c.code (pc + 3) = .ok (.dup, 1) := by rw [hb]; exact d3
  have d4' : decode c.code (pc + 4) = .ok (.ldc is, 2) := by rw [hb]; exact d4
  have hstr' : vk_R own is text sa s' := vk_R.warm hW0 hstr
  obtain ⟨U, hsteps, hrun, hend, hW, hsame, ce, hce, hO⟩ := X₁.ctorThrowS hexec htr (own := own) (cls := cls) (names := names) (ic := ic) hown' hcls hnames h (fun x hx => nomatch hx) hfX hkX hcellA (by rw [hhp, hT]; exact Nat.le_refl _) (msg := .ref sa) rfl
    (g := { method := m, pc := pc + 6, locals := ls, stack := .ref sa :: .ref T.heap.size :: .ref T.heap.size :: rest, locked := none }) rfl hsize rfl rfl (rest := rest) rfl
    (by rw [hb]; exact d6) (by rw [hb]; exact d9) hout hRframes (by simp only [List.map_cons, List.sum_cons, hcat]; omega) hlocks
  obtain ⟨f1, f2⟩ := vx_frame hsame
  rw [hhp] at f1 f2
  have hWs : s.WarmedH U.vm := State.WarmedH.trans hW0 hW
  have hcl : s.vm.findClass cls = some ce.cls := by
    have h9 := hO.cls
    rw [hvm] at h9
    exact h9
  have hall : s.sameButNew ({ U with vm := s.vm } : State) locs mc ms := by
    subst hA
    obtain ⟨e1, e2⟩ := hsame
    rw [State.setFrames_setFrames] at e1
    have h2 : (T.setVm s.vm).sameButNew ({ U with vm := s.vm } : State) [] (0 + 1) (0 + 6) := ⟨e1, e2⟩
    have h3 := X.same.trans h2
    rw [List.append_nil] at h3
    exact h3.mono hc hs
  refine ⟨U, ?_, .threw T.heap.size, hrun, hend, Or.inr ⟨T.heap.size, rfl, cls, ce, locs, hx U hWs.alike f1 (fun q hq => f2 q hq (fun z hz => nomatch hz)), hce, hO.vm, hcl, hWs, hall, hf⟩⟩
  refine st1 _ ?_
  show Steps p.tables e below (T1.setTop { method := m, pc := pc + 3, locals := ls, stack := .ref T.heap.size :: rest, locked := none }) _
  jvm_step X₁.here [X₁.here.top, hexec, d3', Value.category]
  exact X₁.ldcString hexec (own := own) (text := text) (index := is) (a := sa) hown' hstr'.1 hstr'.2
    (g := { method := m, pc := pc + 4, locals := ls, stack := .ref T.heap.size :: .ref T.heap.size :: rest, locked := none }) rfl d4' _ hsteps
/-- 'throw new E("text")', the text by a wide index -/
theorem vx_throwSW {cc : ByteArray} {pc : Nat} (hexec : p.tables.exec = Jvm.exec) (hb : c.code = cc) (hl : l.stackTraces = false) {own cls text : String} {names : List String} {ik is ic mc ms sa : Nat} {A : Nat → Prop}
    (hown : s.vm.findClass own = some m.cls) (hcls : Bundle.fit cls = true) (hnames : ∀ n ∈ names, Bundle.fit n = true)
    (hk : (Cond.classLink own ik cls).before args s = true) (hini : (Cond.initialized cls).before args s = true) (hstr : vk_R own is text sa s) (hat : ∀ w ∈ vx_atS own ic cls names, w.before args s = true)
    (hgood : ∀ w ∈ Cond.classLink own ik cls :: Cond.initialized cls :: vx_atS own ic cls names, vx_ot w = true)
    (hU : vx_Zq Bundle.tN "UNASSIGNED_STACK" Bundle.steD A s s.heap) (hN : vx_Zq Bundle.tN "SUPPRESSED_SENTINEL" Bundle.listD A s s.heap) (hS : va_S A s.heap H locs) (hsize : ls.size = c.maxLocals)
    (d0 : decode cc pc = .ok (.new ik, 3)) (d3 : decode cc (pc + 3) = .ok (.dup, 1)) (d4 : decode cc (pc + 4) = .ok (.ldc_w is, 3)) (d7 : decode cc (pc + 7) = .ok (.invokespecial ic, 3)) (d10 : decode cc (pc + 10) = .ok (.athrow, 1))
    (hout : ∀ x ∈ c.exceptionTable.toList, covers x (pc + 10) = false)
    (hRframes : names.length + 3 < R.frames) (hRlocals : (rest.map fun v => v.category).sum + (13 * (names.length + 1) + 43) ≤ R.locals) (hRcells : cells + 1 ≤ R.cells) (hRslots : slots + 6 ≤ R.slots) (hlocks : meth.locks = false)
    (hx : ∀ t : State, s.vm.Alike t.vm → H.size ≤ t.heap.size → (∀ q : Nat, q < H.size → t.heap[q]? = H[q]?) → XC cls s t)
    (hf : ∀ z ∈ locs, free z.base) (hc : cells + 1 ≤ mc) (hs : slots + 6 ≤ ms) :
    W p l e R s m args below meth c H locs cells slots (vx_MQ below Qc XC args s mc ms free) (F0 m pc ls rest) := by
  intro T hT X
  have htr : e.platform.stackTraces = false := (show e.platform.stackTraces = l.stackTraces by rw [X.admits.platform]).trans hl
  have Y := vx_rebase X (R' := { frames := R.frames, locals := R.locals, cells := 1, slots := 6 }) (Nat.le_refl _) (Nat.le_refl _) hRcells hRslots
  obtain ⟨s', hA⟩ : ∃ z, z = (T.setVm s.vm).setFrames (.invoking m args :: below) := ⟨_, rfl⟩
  rw [← hA] at Y
  have hvm : s'.vm = s.vm := by rw [hA]; rfl
  have hhp : s'.heap = H := by rw [hA]; exact hT
  have hW0 : s.WarmedH s'.vm := by rw [hvm]; exact State.WarmedH.refl s
  have hat' : ∀ w ∈ vx_atS own ic cls names, w.before args s' = true := fun w hw => vx_ot_at hW0 hvm.symm (hgood w (List.mem_cons_of_mem _ (List.mem_cons_of_mem _ hw))) (hat w hw)
  have hk' : (Cond.classLink own ik cls).before args s' = true := vx_ot_at hW0 hvm.symm (hgood _ List.mem_cons_self) hk
  have hini' : (Cond.initialized cls).before args s' = true := vx_ot_at hW0 hvm.symm (hgood _ (List.mem_cons_of_mem _ List.mem_cons_self)) hini
  have hU' : vx_Zq Bundle.tN "UNASSIGNED_STACK" Bundle.steD A s' s'.heap := by rw [hhp]; exact vx_Zq.moved hW0.alike (hU.kept hS.2.1)
  have hN' : vx_Zq Bundle.tN "SUPPRESSED_SENTINEL" Bundle.listD A s' s'.heap := by rw [hhp]; exact vx_Zq.moved hW0.alike (hN.kept hS.2.1)
  have h : ∀ w ∈ Bundle.ownAtoms own ic cls names, w.before args s' = true := vx_own hat' (vx_isRefq hU'.1) (vx_isRefq hN'.1) hU'.2.word hN'.2.word
  have hown' : s'.vm.findClass own = some m.cls := by rw [hvm]; exact hown
  have hins : (Cond.instantiable cls 6).before args s' = true := h _ (by simp [Bundle.ownAtoms])
  obtain ⟨vm₁, cX, kX, hfX, hkX, -, -, X₁, st1⟩ := Y.newCold hexec (own := own) (C := cls) (index := ik) (n := 6) hown' hk' hins hini'
    (g := F0 m pc ls rest) rfl (by rw [hb]; exact d0) (Nat.le_refl _) (Nat.le_refl _)
  generalize hT1 : (T.setVm vm₁).pushCell { cls := cX, slots := kX.instanceTypes.map defaultValue, vm := .none } = T1 at X₁ st1
  have hcat : (Value.ref T.heap.size).category = 1 := rfl
  have hcellA : T1.heap[T.heap.size]? = some (freshCell cX kX) := by rw [← hT1]; exact State.heap_pushCell_size _ _
  have d3' : decode c.code (pc + 3) = .ok (.dup, 1) := by rw [hb]; exact d3
  have d4' : decode c.code (pc + 4) = .ok (.ldc_w is, 3) := by rw [hb]; exact d4
  have hstr' : vk_R own is text sa s' := vk_R.warm hW0 hstr
  obtain ⟨U, hsteps, hrun, hend, hW, hsame, ce, hce, hO⟩ := X₁.ctorThrowS hexec htr (own := own) (cls := cls) (names := names) (ic := ic) hown' hcls hnames h (fun x hx => nomatch hx) hfX hkX hcellA (by rw [hhp, hT]; exact Nat.le_refl _) (msg := .ref sa) rfl
    (g := { method := m, pc := pc + 7, locals := ls, stack := .ref sa :: .ref T.heap.size :: .ref T.heap.size :: rest, locked := none }) rfl hsize rfl rfl (rest := rest) rfl
    (by rw [hb]; exact d7) (by rw [hb]; exact d10) hout hRframes (by simp only [List.map_cons, List.sum_cons, hcat]; omega) hlocks
  obtain ⟨f1, f2⟩ := vx_frame hsame
  rw [hhp] at f1 f2
  have hWs : s.WarmedH U.vm := State.WarmedH.trans hW0 hW
  have hcl : s.vm.findClass cls = some ce.cls := by
    have h9 := hO.cls
    rw [hvm] at h9
    exact h9
  have hall : s.sameButNew ({ U with vm := s.vm } : State) locs mc ms := by
    subst hA
    obtain ⟨e1, e2⟩ := hsame
    rw [State.setFrames_setFrames] at e1
    have h2 : (T.setVm s.vm).sameButNew ({ U with vm := s.vm } : State) [] (0 + 1) (0 + 6) := ⟨e1, e2⟩
    have h3 := X.same.trans h2
    rw [List.append_nil] at h3
    exact h3.mono hc hs
  refine ⟨U, ?_, .threw T.heap.size, hrun, hend, Or.inr ⟨T.heap.size, rfl, cls, ce, locs, hx U hWs.alike f1 (fun q hq => f2 q hq (fun z hz => nomatch hz)), hce, hO.vm, hcl, hWs, hall, hf⟩⟩
  refine st1 _ ?_
  show Steps p.tables e below (T1.setTop { method := m, pc := pc + 3, locals := ls, stack := .ref T.heap.size :: rest, locked := none }) _
  jvm_step X₁.here [X₁.here.top, hexec, d3', Value.category]
  exact X₁.ldcStringW hexec (own := own) (text := text) (index := is) (a := sa) hown' hstr'.1 hstr'.2
    (g := { method := m, pc := pc + 4, locals := ls, stack := .ref T.heap.size :: .ref T.heap.size :: rest, locked := none }) rfl d4' _ hsteps
end Ends
section Bodies
variable {l : Launch}
theorem vx_ofW {y : MethodName} {ws ws' : List Cond} {rm : Room} {Pc : Array Value → State → Prop} {Qc : Array Value → State → Outcome → State → Prop} {XC : String → State → State → Prop} {mc ms : Nat} {free : Addr → Prop} {cc : ByteArray} {maxL : Nat} {ret : Option FieldType}
    (hy : plainName y.cls = true) (hw : ws = Cond.code y cc maxL ret :: ws')
    (body : ∀ p e s m args below meth c s₁, BodyLoose p l y (headSpec ws rm) cc maxL ret e s m args below meth c s₁ → c.maxLocals = maxL → (∀ x ∈ c.exceptionTable.toList, False) → Pc args s →
      W p l e (headSpec ws rm).room s m args below meth c s.heap [] 0 0 (vx_MQ below Qc XC args s mc ms free) (entryFrame m args maxL)) : vx_Met l y ws rm Pc Qc XC mc ms free := by
  refine MetFree.of_bodyS (code := cc) (maxLocals := maxL) (ret := ret) hy ?_ ?_
  · intro args s m h hn
    obtain ⟨meth, c, h1, h2, h3, h4, h5, h6, -, -⟩ := Cond.code_spec hn (atoms_spec (ws := ws) h _ (by rw [hw]; exact List.mem_cons_self))
    exact ⟨meth, c, h1, h2, h3, h4, h5, h6⟩
  · intro p e s m args below meth c s₁ B hml hP _
    have hh0 : s₁.heap = s.heap := by rw [B.state]; rfl
    have ht : ∀ x ∈ c.exceptionTable.toList, False := by
      obtain ⟨meth9, c9, h1, h2, -, -, -, -, h7, -⟩ := Cond.code_spec B.named (atoms_spec (ws := ws) B.pre _ (by rw [hw]; exact List.mem_cons_self))
      cases Option.some.inj (h1.symm.trans B.method)
      cases Option.some.inj (h2.symm.trans (Stand.of_body B).code)
      intro x hx
      rw [Array.isEmpty_iff.mp h7] at hx
      cases hx
    obtain ⟨t, a1, o, b1, b2, b3⟩ := body p e s m args below meth c s₁ B hml ht hP s₁ hh0 (Stand.of_body B)
    exact ⟨t, o, a1, b1, b2, b3⟩
/-- the table of a body with handlers -/
theorem vx_table {p : Program} {x y : MethodName} {S : Spec} {cc bytes : ByteArray} {maxL maxL' : Nat} {ret ret' : Option FieldType} {e : Env} {s s₁ : State} {m : MethodId} {args : Array Value} {below : List Frame} {meth : Method} {c : Code} {hh : List (Nat × Nat × Nat × Nat)}
    (B : BodyLoose p l y S cc maxL ret e s m args below meth c s₁) (h : (Cond.codeWith y bytes maxL' ret' hh).before args s = true) : c.exceptionTable.toList = tableOf hh := by
  obtain ⟨m9, meth9, c9, hn9, h1, h2, -, -, h6, -⟩ := Cond.codeWith_spec h
  cases Option.some.inj (hn9.symm.trans B.named)
  cases Option.some.inj (h1.symm.trans B.method)
  cases Option.some.inj (h2.symm.trans (Stand.of_body B).code)
  rw [← h6, table_eq]
end Bodies
end VXA
/-! ===== END ===== -/
/-! ===== BEGIN a static call of a method with an exception table ===== -/
section VXS
variable {p : Program} {l : Launch} {e : Env} {R : Room} {s : State} {m : MethodId} {args : Array Value} {below : List Frame} {meth : Method} {c : Code} {T : State} {H : Heap} {locs : List Loc} {cells slots : Nat}
abbrev vx_CSW (R : Room) (s : State) (args : Array Value) (own : String) (index : Nat) (y : MethodName) (bytes : ByteArray) (maxL : Nat) (ret : Option FieldType) (hh : List (Nat × Nat × Nat × Nat)) (ws : List Cond) (rm : Room) (mc ms n : Nat) : Prop :=
  (rm.cells = mc ∧ rm.slots = ms ∧ rm.frames + 1 ≤ R.frames ∧ 8 + (maxL + 11) + rm.locals ≤ R.locals ∧ (∀ w ∈ ws, ∀ (a' : Array Value) (U : State), s.WarmedH U.vm → w.before a' U = true) ∧ Cond.codeWith y bytes maxL ret hh ∈ ws) ∧
  (Cond.codeWith y bytes maxL ret hh).before args s = true ∧ (Cond.initialized y.cls).before args s = true ∧ (y.cls ≠ "java/lang/invoke/MethodHandle" ∧ y.cls ≠ "java/lang/invoke/VarHandle") ∧
  (∀ sig, parseMethodDescriptor y.desc = some sig → n = sig.parameters.length) ∧ (Cond.methodLink own index y).before args s = true ∧ (Cond.static y).before args s = true
theorem vx_cwSW {own : String} {index maxL mc ms : Nat} {y : MethodName} {bytes : ByteArray} {ret : Option FieldType} {hh : List (Nat × Nat × Nat × Nat)} {Ts ws ws' : List Cond} {rm : Room} (n : Nat) (ht : ∀ w ∈ Ts, w.before args s = true) (hT : GoodIn Ts (va_wsS own index y ws)) (hw : ws = Cond.codeWith y bytes maxL ret hh :: ws') (hrc : rm.cells = mc) (hrs : rm.slots = ms)
    (hd : y.cls ≠ "java/lang/invoke/MethodHandle" ∧ y.cls ≠ "java/lang/invoke/VarHandle" ∧ (parseMethodDescriptor y.desc).map (fun d => d.parameters.length) = some n) (hR : rm.frames + 1 ≤ R.frames ∧ 8 + (maxL + 11) + rm.locals ≤ R.locals) :
    vx_CSW R s args own index y bytes maxL ret hh ws rm mc ms n := by
  have ok : ∀ w ∈ va_wsS own index y ws, w.before args s = true := fun w h => ht w (hT w h).1
  have hG : GoodIn Ts ws := fun w h => hT w (by unfold va_wsS; exact List.mem_append_right _ h)
  have hc : Cond.codeWith y bytes maxL ret hh ∈ ws := by rw [hw]; exact List.mem_cons_self
  refine ⟨⟨hrc, hrs, hR.1, hR.2, pay_in ht hG, hc⟩, ht _ (hG _ hc).1, ok _ (by simp [va_wsS]), ⟨hd.1, hd.2.1⟩, fun sig h => ?_, ok _ (by simp [va_wsS]), ok _ (by simp [va_wsS])⟩
  have h2 := hd.2.2
  rw [h] at h2
  exact (Option.some.inj h2).symm
theorem vx_callSW (X : Stand p l e R s m args below meth c T locs cells slots) (hexec : p.tables.exec = Jvm.exec) {own : String} {index : Nat} {y : MethodName} {bytes : ByteArray} {maxL : Nat} {ret : Option FieldType} {hh : List (Nat × Nat × Nat × Nat)}
    (hown : s.vm.findClass own = some m.cls) (hlink : (Cond.methodLink own index y).before args s = true) (hstat : (Cond.static y).before args s = true) (hinit : (Cond.initialized y.cls).before args s = true)
    (hcode : (Cond.codeWith y bytes maxL ret hh).before args s = true) (hy : y.cls ≠ "java/lang/invoke/MethodHandle" ∧ y.cls ≠ "java/lang/invoke/VarHandle")
    {W9 : Nat} {Pre : Pt → Array Value → Prop} {Post : Pt → Array Value → Option Value → Pt → Prop} (hK : Back l R p e below s args y 3 W9 Pre Post)
    {g : JFrame} (hg : g.method = m) (hsize : g.locals.size = c.maxLocals) {argsL rest : List Value} (hlen : ∀ sig, parseMethodDescriptor y.desc = some sig → argsL.length = sig.parameters.length)
    (hstack : g.stack = argsL.reverse ++ rest) (hW : 2 * g.monitorRoom + (rest.map fun v => v.category).sum ≤ W9) (hdg : decode c.code g.pc = .ok (.invokestatic index, 3))
    (hpre : ∀ vm₁, s.WarmedH vm₁ → Pre ⟨T.setVm vm₁, locs, cells, slots⟩ argsL.toArray) :
    ∃ (v : Option Value) (vm₁ : Vm) (B : Pt), s.WarmedH vm₁ ∧ Stand p l e R s m args below meth c B.U B.locs B.cells B.slots ∧ Post ⟨T.setVm vm₁, locs, cells, slots⟩ argsL.toArray v B ∧
      ∀ target, Steps p.tables e below (B.U.setTop { g with pc := g.pc + 3, stack := v.toList ++ rest }) target → Steps p.tables e below (T.setTop g) target := by
  obtain ⟨mk, methM, cM, hnamed, hmethM, -, -, -, -, -, -, hsigM⟩ := Cond.codeWith_spec hcode
  have hstatic : methM.isStatic = true := Cond.static_spec hnamed hmethM hstat
  obtain ⟨kP, hkP, -⟩ := className_of_methodNamed hnamed
  have hinitP : kP.init = .initialized := Cond.initialized_spec (findClass_of_methodNamed hnamed) hkP hinit
  obtain ⟨vm₁, X₁, hstep₁⟩ := X.invokestatic hexec hown hlink hnamed hmethM hstatic hkP hinitP hy (g := g) hg (argsL := argsL) (rest := rest) (hlen _ hsigM) hstack hdg
  obtain ⟨v, B, X', hpost, hsteps⟩ := hK m meth c ⟨T.setVm vm₁, locs, cells, slots⟩ { g with stack := rest } (.invokestatic index) mk argsL.toArray X₁ hg hsize hdg hW (X₁.named hnamed) (hpre vm₁ X₁.warmed)
  exact ⟨v, vm₁, B, X₁.warmed, X', hpost, fun target h => hstep₁ _ fun acts => by rw [doInvoke_state]; exact hsteps.trans h⟩
theorem vx_runSW {y : MethodName} {bytes cc : ByteArray} {maxL nL mc ms n index : Nat} {ret : Option FieldType} {hh : List (Nat × Nat × Nat × Nat)} {ws : List Cond} {rm : Room} {Pc : Array Value → State → Prop} {Qc : Array Value → State → Outcome → State → Prop} {free : Addr → Prop} {Ts : List Cond} {own : String} {As rest : List Value} {g : JFrame}
    (S : CallFix p m c cc nL s args Ts own) (hM : Met l y ws rm Pc Qc mc ms free) (cw : vx_CSW R s args own index y bytes maxL ret hh ws rm mc ms n) (hp : PreS s H Pc As)
    (hg : g.method = m) (hn : As.length = n) (hsize : g.locals.size = nL) (hstack : g.stack = As.reverse ++ rest) (hW : 2 * g.monitorRoom + (rest.map fun v => v.category).sum ≤ 8) (hdg : decode cc g.pc = .ok (.invokestatic index, 3)) (hf : cells + mc ≤ R.cells ∧ slots + ms ≤ R.slots) :
    va_Run p l e R s m args below meth c H locs cells slots mc ms g rest (Qc As.toArray) (free) := by
  obtain ⟨⟨hrc, hrs, hfr, hlo, hws, hcw⟩, hcode, hini, hy, hlen, hl, hstt⟩ := cw
  have hK : Back l R p e below s args y 3 8 (PreOf R mc ms Pc) (PostOf Qc mc ms free) := va_backW (hh := hh) (bytes := bytes) (maxL := maxL) (ret := ret) hM hp.1 hrc hrs hfr hlo hws hcw (fun a' U hW => word_at hW (Or.inl (by first | rfl | simp [Cond.onTables, Cond.keeps, Cond.steady])) hini)
  obtain ⟨hx, hb, hml, ho, -⟩ := S
  intro T hT X
  obtain ⟨v, vm₁, ⟨U', l2, c2, s2⟩, hW₁, X', ⟨g', mk, t, L, e1, e2, hq, h1, hL, h2, h3⟩, st⟩ := vx_callSW X hx (hh := hh) (bytes := bytes) (maxL := maxL) (ret := ret) ho hl hstt hini hcode hy hK hg (hsize.trans hml.symm) (argsL := As) (rest := rest) (fun sig h => hn.trans (hlen sig h)) hstack hW (by rw [hb]; exact hdg)
    (fun vm₁ hW₁ => ⟨hf.1, hf.2, hp.2 (T.setVm vm₁) hT hW₁⟩)
  dsimp only [Pt.U, Pt.locs, Pt.cells, Pt.slots] at X' e1 e2 h1 h2 h3 st
  subst h1; subst h2; subst h3
  exact ⟨v, (T.setVm vm₁).calling g' mk As.toArray, t, U', L, hT, X', hL, e1, e2, hq, st⟩
/-- a thing of a world lies in the heap -/
theorem vx_lt {D : va_G} {cl : List vw_C} {ws : va_W} {H1 : Heap} (h : va_P D cl ws H1) {k : Nat} {q : Nat × va_E} (hk : ws[k]? = some q) : q.1 < H1.size := (h k q hk).lt
end VXS
/-! ===== END ===== -/
end
section
def RX0 : String := "BlockWorkshop$Box"
def TX0 : u_T := fun k => match k with
  | _ => ("", "", "", false)
def tyX0 : Nat → FieldType := fun k => match k with
  | _ => .int
theorem nmX0 : ∀ a, a < 0 → ∀ b, b < 0 → a ≠ b → (TX0 a).2.1 ≠ (TX0 b).2.1 := by decide +kernel
theorem tyX0_ok : ∀ k, k < 0 → parseFieldDescriptor (TX0 k).2.2.1 = some (tyX0 k) := by decide +kernel
abbrev cX0_isBelow : ByteArray := prog_2_method_2_code
def yX0_isBelow : MethodName := ⟨RX0, "isBelow", "(JJ)Z"⟩
abbrev cX0_lowest : ByteArray := prog_2_method_3_code
def yX0_lowest : MethodName := ⟨RX0, "lowest", "(J)I"⟩
abbrev cX0_least : ByteArray := prog_2_method_4_code
def yX0_least : MethodName := ⟨RX0, "least", "(JI)I"⟩
abbrev cX0_greatest : ByteArray := prog_2_method_5_code
def yX0_greatest : MethodName := ⟨RX0, "greatest", "(JI)I"⟩
abbrev cX0_settled : ByteArray := prog_2_method_6_code
def yX0_settled : MethodName := ⟨RX0, "settled", "(J)J"⟩
abbrev cX0_shifted : ByteArray := prog_2_method_7_code
def yX0_shifted : MethodName := ⟨RX0, "shifted", "(JII)J"⟩
abbrev cX0_mirrors : ByteArray := prog_2_method_8_code
def yX0_mirrors : MethodName := ⟨RX0, "mirrors", "(I)Z"⟩
abbrev cX0_turned : ByteArray := prog_2_method_9_code
def yX0_turned : MethodName := ⟨RX0, "turned", "(JI)J"⟩
abbrev cX0_hangsTogether : ByteArray := prog_2_method_10_code
def yX0_hangsTogether : MethodName := ⟨RX0, "hangsTogether", "(J)Z"⟩
abbrev cX0_neighbours : ByteArray := prog_2_method_11_code
def yX0_neighbours : MethodName := ⟨RX0, "neighbours", "(J)J"⟩
def RX1 : String := "BlockWorkshop$Piece"
def TX1 : u_T := fun k => match k with
  | 0 => ("BlockWorkshop$Piece", "shapeSets", "[J", true)
  | 1 => ("BlockWorkshop$Piece", "placeSets", "[J", true)
  | 2 => ("BlockWorkshop$Piece", "having", "[J", true)
  | 3 => ("BlockWorkshop$Piece", "ofOneShape", "[J", true)
  | 4 => ("BlockWorkshop$Piece", "cubes", "J", false)
  | 5 => ("BlockWorkshop$Piece", "mayMirror", "Z", false)
  | 6 => ("BlockWorkshop$Piece", "shapesKnown", "Z", false)
  | 7 => ("BlockWorkshop$Piece", "placesKnown", "Z", false)
  | 8 => ("BlockWorkshop$Piece", "knownWithin", "J", false)
  | 9 => ("BlockWorkshop$Piece", "shapeCount", "I", false)
  | _ => ("BlockWorkshop$Piece", "placeCount", "I", false)
def tyX1 : Nat → FieldType := fun k => match k with
  | 0 => .array .long
  | 1 => .array .long
  | 2 => .array .long
  | 3 => .array .long
  | 4 => .long
  | 5 => .boolean
  | 6 => .boolean
  | 7 => .boolean
  | 8 => .long
  | 9 => .int
  | _ => .int
theorem nmX1 : ∀ a, a < 11 → ∀ b, b < 11 → a ≠ b → (TX1 a).2.1 ≠ (TX1 b).2.1 := by decide +kernel
theorem tyX1_ok : ∀ k, k < 11 → parseFieldDescriptor (TX1 k).2.2.1 = some (tyX1 k) := by decide +kernel
abbrev cX1_init : ByteArray := prog_3_method_1_code
def yX1_init : MethodName := ⟨RX1, "<init>", "()V"⟩
abbrev cX1_hasCube : ByteArray := prog_3_method_2_code
def yX1_hasCube : MethodName := ⟨RX1, "hasCube", "(I)Z"⟩
abbrev cX1_cubeCount : ByteArray := prog_3_method_3_code
def yX1_cubeCount : MethodName := ⟨RX1, "cubeCount", "()I"⟩
abbrev cX1_flipCube : ByteArray := prog_3_method_4_code
def yX1_flipCube : MethodName := ⟨RX1, "flipCube", "(I)V"⟩
abbrev cX1_allowMirror : ByteArray := prog_3_method_5_code
def yX1_allowMirror : MethodName := ⟨RX1, "allowMirror", "(Z)V"⟩
abbrev cX1_countShapes : ByteArray := prog_3_method_6_code
def yX1_countShapes : MethodName := ⟨RX1, "countShapes", "()I"⟩
abbrev cX1_shapeAt : ByteArray := prog_3_method_7_code
def yX1_shapeAt : MethodName := ⟨RX1, "shapeAt", "(I)J"⟩
abbrev cX1_hasShape : ByteArray := prog_3_method_8_code
def yX1_hasShape : MethodName := ⟨RX1, "hasShape", "(J)Z"⟩
abbrev cX1_countPlaces : ByteArray := prog_3_method_9_code
def yX1_countPlaces : MethodName := ⟨RX1, "countPlaces", "()I"⟩
abbrev cX1_placeAt : ByteArray := prog_3_method_10_code
def yX1_placeAt : MethodName := ⟨RX1, "placeAt", "(I)J"⟩
abbrev cX1_countWords : ByteArray := prog_3_method_11_code
def yX1_countWords : MethodName := ⟨RX1, "countWords", "()I"⟩
abbrev cX1_wordOf : ByteArray := prog_3_method_12_code
def yX1_wordOf : MethodName := ⟨RX1, "wordOf", "(II)J"⟩
abbrev cX1_learnPlaces : ByteArray := prog_3_method_13_code
def yX1_learnPlaces : MethodName := ⟨RX1, "learnPlaces", "(J)V"⟩
abbrev cX1_forget : ByteArray := prog_3_method_14_code
def yX1_forget : MethodName := ⟨RX1, "forget", "()V"⟩
abbrev cX1_learnShapes : ByteArray := prog_3_method_15_code
def yX1_learnShapes : MethodName := ⟨RX1, "learnShapes", "()V"⟩
abbrev cX1_addShape : ByteArray := prog_3_method_16_code
def yX1_addShape : MethodName := ⟨RX1, "addShape", "(J)V"⟩
abbrev cX1_placeOneShape : ByteArray := prog_3_method_17_code
def yX1_placeOneShape : MethodName := ⟨RX1, "placeOneShape", "(JJ)I"⟩
abbrev cX1_mergeIn : ByteArray := prog_3_method_18_code
def yX1_mergeIn : MethodName := ⟨RX1, "mergeIn", "(I)V"⟩
abbrev cX1_indexPlaces : ByteArray := prog_3_method_19_code
def yX1_indexPlaces : MethodName := ⟨RX1, "indexPlaces", "()V"⟩
def RX2 : String := "BlockWorkshop$Search"
def TX2 : u_T := fun k => match k with
  | 0 => ("BlockWorkshop$Search", "kit", "[LBlockWorkshop$Piece;", true)
  | 1 => ("BlockWorkshop$Search", "chosen", "[J", true)
  | 2 => ("BlockWorkshop$Search", "sure", "J", false)
  | 3 => ("BlockWorkshop$Search", "budget", "I", false)
  | 4 => ("BlockWorkshop$Search", "wanted", "I", false)
  | 5 => ("BlockWorkshop$Search", "tried", "I", false)
  | 6 => ("BlockWorkshop$Search", "found", "I", false)
  | 7 => ("BlockWorkshop$Search", "ended", "Z", false)
  | _ => ("BlockWorkshop$Search", "enough", "Z", false)
def tyX2 : Nat → FieldType := fun k => match k with
  | 0 => .array (.object "BlockWorkshop$Piece")
  | 1 => .array .long
  | 2 => .long
  | 3 => .int
  | 4 => .int
  | 5 => .int
  | 6 => .int
  | 7 => .boolean
  | _ => .boolean
theorem nmX2 : ∀ a, a < 9 → ∀ b, b < 9 → a ≠ b → (TX2 a).2.1 ≠ (TX2 b).2.1 := by decide +kernel
theorem tyX2_ok : ∀ k, k < 9 → parseFieldDescriptor (TX2 k).2.2.1 = some (tyX2 k) := by decide +kernel
abbrev cX2_init : ByteArray := prog_4_method_1_code
def yX2_init : MethodName := ⟨RX2, "<init>", "([LBlockWorkshop$Piece;)V"⟩
abbrev cX2_countTried : ByteArray := prog_4_method_2_code
def yX2_countTried : MethodName := ⟨RX2, "countTried", "()I"⟩
abbrev cX2_countFound : ByteArray := prog_4_method_3_code
def yX2_countFound : MethodName := ⟨RX2, "countFound", "()I"⟩
abbrev cX2_wasEnough : ByteArray := prog_4_method_4_code
def yX2_wasEnough : MethodName := ⟨RX2, "wasEnough", "()Z"⟩
abbrev cX2_hasWanted : ByteArray := prog_4_method_5_code
def yX2_hasWanted : MethodName := ⟨RX2, "hasWanted", "()Z"⟩
abbrev cX2_chosenFor : ByteArray := prog_4_method_6_code
def yX2_chosenFor : MethodName := ⟨RX2, "chosenFor", "(I)J"⟩
abbrev cX2_run : ByteArray := prog_4_method_7_code
def yX2_run : MethodName := ⟨RX2, "run", "(JJII)V"⟩
abbrev cX2_goOn : ByteArray := prog_4_method_8_code
def yX2_goOn : MethodName := ⟨RX2, "goOn", "(IJI)V"⟩
abbrev cX2_countPacking : ByteArray := prog_4_method_9_code
def yX2_countPacking : MethodName := ⟨RX2, "countPacking", "()V"⟩
abbrev cX2_tryPiece : ByteArray := prog_4_method_10_code
def yX2_tryPiece : MethodName := ⟨RX2, "tryPiece", "(IIIJI)V"⟩
def RX3 : String := "BlockWorkshop$Span"
def TX3 : u_T := fun k => match k with
  | 0 => ("BlockWorkshop$Span", "low", "[I", true)
  | 1 => ("BlockWorkshop$Span", "high", "[I", true)
  | _ => ("BlockWorkshop$Span", "empty", "Z", false)
def tyX3 : Nat → FieldType := fun k => match k with
  | 0 => .array .int
  | 1 => .array .int
  | _ => .boolean
theorem nmX3 : ∀ a, a < 3 → ∀ b, b < 3 → a ≠ b → (TX3 a).2.1 ≠ (TX3 b).2.1 := by decide +kernel
theorem tyX3_ok : ∀ k, k < 3 → parseFieldDescriptor (TX3 k).2.2.1 = some (tyX3 k) := by decide +kernel
abbrev cX3_init : ByteArray := prog_5_method_1_code
def yX3_init : MethodName := ⟨RX3, "<init>", "()V"⟩
abbrev cX3_clear : ByteArray := prog_5_method_2_code
def yX3_clear : MethodName := ⟨RX3, "clear", "()V"⟩
abbrev cX3_cover : ByteArray := prog_5_method_3_code
def yX3_cover : MethodName := ⟨RX3, "cover", "(LBlockWorkshop$Span;[II)V"⟩
abbrev cX3_fit : ByteArray := prog_5_method_4_code
def yX3_fit : MethodName := ⟨RX3, "fit", "(J)V"⟩
abbrev cX3_isApart : ByteArray := prog_5_method_5_code
def yX3_isApart : MethodName := ⟨RX3, "isApart", "(LBlockWorkshop$Span;II)Z"⟩
def RX4 : String := "BlockWorkshop$StateBook"
def TX4 : u_T := fun k => match k with
  | 0 => ("BlockWorkshop$StateBook", "at", "[I", true)
  | 1 => ("BlockWorkshop$StateBook", "parents", "[I", true)
  | 2 => ("BlockWorkshop$StateBook", "moves", "[I", true)
  | 3 => ("BlockWorkshop$StateBook", "levels", "[I", true)
  | 4 => ("BlockWorkshop$StateBook", "heads", "[I", true)
  | 5 => ("BlockWorkshop$StateBook", "nexts", "[I", true)
  | _ => ("BlockWorkshop$StateBook", "count", "I", false)
def tyX4 : Nat → FieldType := fun k => match k with
  | 0 => .array .int
  | 1 => .array .int
  | 2 => .array .int
  | 3 => .array .int
  | 4 => .array .int
  | 5 => .array .int
  | _ => .int
theorem nmX4 : ∀ a, a < 7 → ∀ b, b < 7 → a ≠ b → (TX4 a).2.1 ≠ (TX4 b).2.1 := by decide +kernel
theorem tyX4_ok : ∀ k, k < 7 → parseFieldDescriptor (TX4 k).2.2.1 = some (tyX4 k) := by decide +kernel
abbrev cX4_init : ByteArray := prog_6_method_1_code
def yX4_init : MethodName := ⟨RX4, "<init>", "()V"⟩
abbrev cX4_size : ByteArray := prog_6_method_2_code
def yX4_size : MethodName := ⟨RX4, "size", "()I"⟩
abbrev cX4_offsets : ByteArray := prog_6_method_3_code
def yX4_offsets : MethodName := ⟨RX4, "offsets", "()[I"⟩
abbrev cX4_rowOf : ByteArray := prog_6_method_4_code
def yX4_rowOf : MethodName := ⟨RX4, "rowOf", "(II)I"⟩
abbrev cX4_levelOf : ByteArray := prog_6_method_5_code
def yX4_levelOf : MethodName := ⟨RX4, "levelOf", "(I)I"⟩
abbrev cX4_parentOf : ByteArray := prog_6_method_6_code
def yX4_parentOf : MethodName := ⟨RX4, "parentOf", "(I)I"⟩
abbrev cX4_moveTo : ByteArray := prog_6_method_7_code
def yX4_moveTo : MethodName := ⟨RX4, "moveTo", "(I)I"⟩
abbrev cX4_start : ByteArray := prog_6_method_8_code
def yX4_start : MethodName := ⟨RX4, "start", "()V"⟩
abbrev cX4_draft : ByteArray := prog_6_method_9_code
def yX4_draft : MethodName := ⟨RX4, "draft", "(IIII)V"⟩
abbrev cX4_knowsDraft : ByteArray := prog_6_method_10_code
def yX4_knowsDraft : MethodName := ⟨RX4, "knowsDraft", "()Z"⟩
abbrev cX4_add : ByteArray := prog_6_method_11_code
def yX4_add : MethodName := ⟨RX4, "add", "(II)V"⟩
abbrev cX4_hashOfDraft : ByteArray := prog_6_method_12_code
def yX4_hashOfDraft : MethodName := ⟨RX4, "hashOfDraft", "()I"⟩
abbrev cX4_isDraft : ByteArray := prog_6_method_13_code
def yX4_isDraft : MethodName := ⟨RX4, "isDraft", "(I)Z"⟩
def RX5 : String := "BlockWorkshop$Unlocker"
def TX5 : u_T := fun k => match k with
  | 0 => ("BlockWorkshop$Unlocker", "book", "LBlockWorkshop$StateBook;", true)
  | 1 => ("BlockWorkshop$Unlocker", "sets", "[J", true)
  | 2 => ("BlockWorkshop$Unlocker", "boxes", "[LBlockWorkshop$Span;", true)
  | 3 => ("BlockWorkshop$Unlocker", "groupBox", "LBlockWorkshop$Span;", true)
  | 4 => ("BlockWorkshop$Unlocker", "restBox", "LBlockWorkshop$Span;", true)
  | 5 => ("BlockWorkshop$Unlocker", "room", "[I", true)
  | 6 => ("BlockWorkshop$Unlocker", "found", "[I", true)
  | 7 => ("BlockWorkshop$Unlocker", "foundCount", "I", false)
  | 8 => ("BlockWorkshop$Unlocker", "part", "I", false)
  | _ => ("BlockWorkshop$Unlocker", "limit", "I", false)
def tyX5 : Nat → FieldType := fun k => match k with
  | 0 => .object "BlockWorkshop$StateBook"
  | 1 => .array .long
  | 2 => .array (.object "BlockWorkshop$Span")
  | 3 => .object "BlockWorkshop$Span"
  | 4 => .object "BlockWorkshop$Span"
  | 5 => .array .int
  | 6 => .array .int
  | 7 => .int
  | 8 => .int
  | _ => .int
theorem nmX5 : ∀ a, a < 10 → ∀ b, b < 10 → a ≠ b → (TX5 a).2.1 ≠ (TX5 b).2.1 := by decide +kernel
theorem tyX5_ok : ∀ k, k < 10 → parseFieldDescriptor (TX5 k).2.2.1 = some (tyX5 k) := by decide +kernel
abbrev cX5_init : ByteArray := prog_7_method_1_code
def yX5_init : MethodName := ⟨RX5, "<init>", "()V"⟩
abbrev cX5_countKept : ByteArray := prog_7_method_2_code
def yX5_countKept : MethodName := ⟨RX5, "countKept", "()I"⟩
abbrev cX5_countMoves : ByteArray := prog_7_method_3_code
def yX5_countMoves : MethodName := ⟨RX5, "countMoves", "()I"⟩
abbrev cX5_moveAt : ByteArray := prog_7_method_4_code
def yX5_moveAt : MethodName := ⟨RX5, "moveAt", "(I)I"⟩
abbrev cX5_look : ByteArray := prog_7_method_5_code
def yX5_look : MethodName := ⟨RX5, "look", "([JII)I"⟩
abbrev cX5_expand : ByteArray := prog_7_method_6_code
def yX5_expand : MethodName := ⟨RX5, "expand", "(I)I"⟩
abbrev cX5_tryRuns : ByteArray := prog_7_method_7_code
def yX5_tryRuns : MethodName := ⟨RX5, "tryRuns", "(III)I"⟩
abbrev cX5_writePlan : ByteArray := prog_7_method_8_code
def yX5_writePlan : MethodName := ⟨RX5, "writePlan", "(II)I"⟩
abbrev cX5_measureBoxes : ByteArray := prog_7_method_9_code
def yX5_measureBoxes : MethodName := ⟨RX5, "measureBoxes", "(II)V"⟩
abbrev cX5_measureRoom : ByteArray := prog_7_method_10_code
def yX5_measureRoom : MethodName := ⟨RX5, "measureRoom", "(I)V"⟩
abbrev cX5_roomIndex : ByteArray := prog_7_method_11_code
def yX5_roomIndex : MethodName := ⟨RX5, "roomIndex", "(III)I"⟩
abbrev cX5_roomOfPair : ByteArray := prog_7_method_12_code
def yX5_roomOfPair : MethodName := ⟨RX5, "roomOfPair", "(IIII)I"⟩
abbrev cX5_gap : ByteArray := prog_7_method_13_code
def yX5_gap : MethodName := ⟨RX5, "gap", "(IIII)I"⟩
abbrev cX5_roomOfGroup : ByteArray := prog_7_method_14_code
def yX5_roomOfGroup : MethodName := ⟨RX5, "roomOfGroup", "(II)I"⟩
def RX6 : String := "BlockWorkshop"
def TX6 : u_T := fun k => match k with
  | 0 => ("BlockWorkshop", "kit", "[LBlockWorkshop$Piece;", true)
  | 1 => ("BlockWorkshop", "assembly", "[J", true)
  | 2 => ("BlockWorkshop", "search", "LBlockWorkshop$Search;", true)
  | 3 => ("BlockWorkshop", "unlocker", "LBlockWorkshop$Unlocker;", true)
  | 4 => ("BlockWorkshop", "sureCells", "J", false)
  | _ => ("BlockWorkshop", "optionalCells", "J", false)
def tyX6 : Nat → FieldType := fun k => match k with
  | 0 => .array (.object "BlockWorkshop$Piece")
  | 1 => .array .long
  | 2 => .object "BlockWorkshop$Search"
  | 3 => .object "BlockWorkshop$Unlocker"
  | 4 => .long
  | _ => .long
theorem nmX6 : ∀ a, a < 6 → ∀ b, b < 6 → a ≠ b → (TX6 a).2.1 ≠ (TX6 b).2.1 := by decide +kernel
theorem tyX6_ok : ∀ k, k < 6 → parseFieldDescriptor (TX6 k).2.2.1 = some (tyX6 k) := by decide +kernel
abbrev cX6_init : ByteArray := prog_1_method_1_code
def yX6_init : MethodName := ⟨RX6, "<init>", "()V"⟩
abbrev cX6_cube : ByteArray := prog_1_method_2_code
def yX6_cube : MethodName := ⟨RX6, "cube", "(IIZ)I"⟩
abbrev cX6_mirror : ByteArray := prog_1_method_3_code
def yX6_mirror : MethodName := ⟨RX6, "mirror", "(IZ)V"⟩
abbrev cX6_shapes : ByteArray := prog_1_method_4_code
def yX6_shapes : MethodName := ⟨RX6, "shapes", "(I)I"⟩
abbrev cX6_shape : ByteArray := prog_1_method_5_code
def yX6_shape : MethodName := ⟨RX6, "shape", "(II)J"⟩
abbrev cX6_target : ByteArray := prog_1_method_6_code
def yX6_target : MethodName := ⟨RX6, "target", "(II)V"⟩
abbrev cX6_places : ByteArray := prog_1_method_7_code
def yX6_places : MethodName := ⟨RX6, "places", "(I)I"⟩
abbrev cX6_pack : ByteArray := prog_1_method_8_code
def yX6_pack : MethodName := ⟨RX6, "pack", "(I)I"⟩
abbrev cX6_tries : ByteArray := prog_1_method_9_code
def yX6_tries : MethodName := ⟨RX6, "tries", "()I"⟩
abbrev cX6_assemble : ByteArray := prog_1_method_10_code
def yX6_assemble : MethodName := ⟨RX6, "assemble", "(II)Z"⟩
abbrev cX6_put : ByteArray := prog_1_method_11_code
def yX6_put : MethodName := ⟨RX6, "put", "(IJ)V"⟩
abbrev cX6_take : ByteArray := prog_1_method_12_code
def yX6_take : MethodName := ⟨RX6, "take", "(I)V"⟩
abbrev cX6_cells : ByteArray := prog_1_method_13_code
def yX6_cells : MethodName := ⟨RX6, "cells", "(I)J"⟩
abbrev cX6_plan : ByteArray := prog_1_method_14_code
def yX6_plan : MethodName := ⟨RX6, "plan", "(II)I"⟩
abbrev cX6_states : ByteArray := prog_1_method_15_code
def yX6_states : MethodName := ⟨RX6, "states", "()I"⟩
abbrev cX6_move : ByteArray := prog_1_method_16_code
def yX6_move : MethodName := ⟨RX6, "move", "(I)I"⟩
abbrev cX6_assembledPieces : ByteArray := prog_1_method_17_code
def yX6_assembledPieces : MethodName := ⟨RX6, "assembledPieces", "()I"⟩
abbrev cX6_checkPiece : ByteArray := prog_1_method_18_code
def yX6_checkPiece : MethodName := ⟨RX6, "checkPiece", "(I)V"⟩
abbrev cX6_checkCell : ByteArray := prog_1_method_19_code
def yX6_checkCell : MethodName := ⟨RX6, "checkCell", "(I)V"⟩
abbrev cX6_checkBudget : ByteArray := prog_1_method_20_code
def yX6_checkBudget : MethodName := ⟨RX6, "checkBudget", "(I)V"⟩
abbrev cX6_lowestPiece : ByteArray := prog_1_method_21_code
def yX6_lowestPiece : MethodName := ⟨RX6, "lowestPiece", "(I)I"⟩
def RX7 : String := "BlockWorkshopModel"
def TX7 : u_T := fun k => match k with
  | 0 => ("BlockWorkshopModel", "thrown", "I", false)
  | 1 => ("BlockWorkshopModel", "set", "[J", true)
  | 2 => ("BlockWorkshopModel", "mirrored", "[Z", true)
  | 3 => ("BlockWorkshopModel", "target", "[I", true)
  | 4 => ("BlockWorkshopModel", "shapes", "[I", true)
  | 5 => ("BlockWorkshopModel", "shape", "[J", true)
  | 6 => ("BlockWorkshopModel", "places", "[I", true)
  | 7 => ("BlockWorkshopModel", "place", "[J", true)
  | 8 => ("BlockWorkshopModel", "tries", "I", false)
  | 9 => ("BlockWorkshopModel", "assembly", "[J", true)
  | 10 => ("BlockWorkshopModel", "taken", "[J", true)
  | 11 => ("BlockWorkshopModel", "placed", "[I", true)
  | 12 => ("BlockWorkshopModel", "cell", "[I", true)
  | 13 => ("BlockWorkshopModel", "piece", "[I", true)
  | 14 => ("BlockWorkshopModel", "next", "[I", true)
  | 15 => ("BlockWorkshopModel", "chosen", "[J", true)
  | 16 => ("BlockWorkshopModel", "cubes", "[I", true)
  | 17 => ("BlockWorkshopModel", "cube", "[I", true)
  | 18 => ("BlockWorkshopModel", "states", "I", false)
  | 19 => ("BlockWorkshopModel", "state", "[I", true)
  | 20 => ("BlockWorkshopModel", "from", "[I", true)
  | 21 => ("BlockWorkshopModel", "by", "[I", true)
  | 22 => ("BlockWorkshopModel", "work", "[I", true)
  | 23 => ("BlockWorkshopModel", "other", "[I", true)
  | 24 => ("BlockWorkshopModel", "moves", "I", false)
  | _ => ("BlockWorkshopModel", "move", "[I", true)
def tyX7 : Nat → FieldType := fun k => match k with
  | 0 => .int
  | 1 => .array .long
  | 2 => .array .boolean
  | 3 => .array .int
  | 4 => .array .int
  | 5 => .array .long
  | 6 => .array .int
  | 7 => .array .long
  | 8 => .int
  | 9 => .array .long
  | 10 => .array .long
  | 11 => .array .int
  | 12 => .array .int
  | 13 => .array .int
  | 14 => .array .int
  | 15 => .array .long
  | 16 => .array .int
  | 17 => .array .int
  | 18 => .int
  | 19 => .array .int
  | 20 => .array .int
  | 21 => .array .int
  | 22 => .array .int
  | 23 => .array .int
  | 24 => .int
  | _ => .array .int
theorem nmX7 : ∀ a, a < 26 → ∀ b, b < 26 → a ≠ b → (TX7 a).2.1 ≠ (TX7 b).2.1 := by decide +kernel
theorem tyX7_ok : ∀ k, k < 26 → parseFieldDescriptor (TX7 k).2.2.1 = some (tyX7 k) := by decide +kernel
abbrev cX7_init : ByteArray := prog_9_method_1_code
def yX7_init : MethodName := ⟨RX7, "<init>", "()V"⟩
abbrev cX7_thrown : ByteArray := prog_9_method_2_code
def yX7_thrown : MethodName := ⟨RX7, "thrown", "()I"⟩
abbrev cX7_in : ByteArray := prog_9_method_3_code
def yX7_in : MethodName := ⟨RX7, "in", "(III)Z"⟩
abbrev cX7_says : ByteArray := prog_9_method_4_code
def yX7_says : MethodName := ⟨RX7, "says", "(Z)Z"⟩
abbrev cX7_has : ByteArray := prog_9_method_5_code
def yX7_has : MethodName := ⟨RX7, "has", "(JI)Z"⟩
abbrev cX7_count : ByteArray := prog_9_method_6_code
def yX7_count : MethodName := ⟨RX7, "count", "(J)I"⟩
abbrev cX7_isLess : ByteArray := prog_9_method_7_code
def yX7_isLess : MethodName := ⟨RX7, "isLess", "(JJ)Z"⟩
abbrev cX7_cube : ByteArray := prog_9_method_8_code
def yX7_cube : MethodName := ⟨RX7, "cube", "(IIZ)I"⟩
abbrev cX7_mirror : ByteArray := prog_9_method_9_code
def yX7_mirror : MethodName := ⟨RX7, "mirror", "(IZ)V"⟩
abbrev cX7_touch : ByteArray := prog_9_method_10_code
def yX7_touch : MethodName := ⟨RX7, "touch", "(II)Z"⟩
abbrev cX7_isMade : ByteArray := prog_9_method_11_code
def yX7_isMade : MethodName := ⟨RX7, "isMade", "(J)Z"⟩
abbrev cX7_axis : ByteArray := prog_9_method_12_code
def yX7_axis : MethodName := ⟨RX7, "axis", "(IIZ)I"⟩
abbrev cX7_turned : ByteArray := prog_9_method_13_code
def yX7_turned : MethodName := ⟨RX7, "turned", "(JII)J"⟩
abbrev cX7_insert : ByteArray := prog_9_method_14_code
def yX7_insert : MethodName := ⟨RX7, "insert", "([JIIJ)I"⟩
abbrev cX7_shapesOf : ByteArray := prog_9_method_15_code
def yX7_shapesOf : MethodName := ⟨RX7, "shapesOf", "(I)V"⟩
abbrev cX7_shapes : ByteArray := prog_9_method_16_code
def yX7_shapes : MethodName := ⟨RX7, "shapes", "(I)I"⟩
abbrev cX7_shape : ByteArray := prog_9_method_17_code
def yX7_shape : MethodName := ⟨RX7, "shape", "(II)J"⟩
abbrev cX7_target : ByteArray := prog_9_method_18_code
def yX7_target : MethodName := ⟨RX7, "target", "(II)V"⟩
abbrev cX7_moved : ByteArray := prog_9_method_19_code
def yX7_moved : MethodName := ⟨RX7, "moved", "(JIII)J"⟩
abbrev cX7_placesOf : ByteArray := prog_9_method_20_code
def yX7_placesOf : MethodName := ⟨RX7, "placesOf", "(I)V"⟩
abbrev cX7_places : ByteArray := prog_9_method_21_code
def yX7_places : MethodName := ⟨RX7, "places", "(I)I"⟩
abbrev cX7_begins : ByteArray := prog_9_method_22_code
def yX7_begins : MethodName := ⟨RX7, "begins", "(II)V"⟩
abbrev cX7_search : ByteArray := prog_9_method_23_code
def yX7_search : MethodName := ⟨RX7, "search", "(II)I"⟩
abbrev cX7_pack : ByteArray := prog_9_method_24_code
def yX7_pack : MethodName := ⟨RX7, "pack", "(I)I"⟩
abbrev cX7_tries : ByteArray := prog_9_method_25_code
def yX7_tries : MethodName := ⟨RX7, "tries", "()I"⟩
abbrev cX7_assemble : ByteArray := prog_9_method_26_code
def yX7_assemble : MethodName := ⟨RX7, "assemble", "(II)Z"⟩
abbrev cX7_put : ByteArray := prog_9_method_27_code
def yX7_put : MethodName := ⟨RX7, "put", "(IJ)V"⟩
abbrev cX7_take : ByteArray := prog_9_method_28_code
def yX7_take : MethodName := ⟨RX7, "take", "(I)V"⟩
abbrev cX7_cells : ByteArray := prog_9_method_29_code
def yX7_cells : MethodName := ⟨RX7, "cells", "(I)J"⟩
abbrev cX7_at : ByteArray := prog_9_method_30_code
def yX7_at : MethodName := ⟨RX7, "at", "(III)I"⟩
abbrev cX7_hits : ByteArray := prog_9_method_31_code
def yX7_hits : MethodName := ⟨RX7, "hits", "(II)Z"⟩
abbrev cX7_edge : ByteArray := prog_9_method_32_code
def yX7_edge : MethodName := ⟨RX7, "edge", "(IIZ)I"⟩
abbrev cX7_isFree : ByteArray := prog_9_method_33_code
def yX7_isFree : MethodName := ⟨RX7, "isFree", "(II)Z"⟩
abbrev cX7_isKnown : ByteArray := prog_9_method_34_code
def yX7_isKnown : MethodName := ⟨RX7, "isKnown", "(I)Z"⟩
abbrev cX7_plan : ByteArray := prog_9_method_35_code
def yX7_plan : MethodName := ⟨RX7, "plan", "(II)I"⟩
abbrev cX7_run : ByteArray := prog_9_method_36_code
def yX7_run : MethodName := ⟨RX7, "run", "(IIIII)I"⟩
abbrev cX7_finish : ByteArray := prog_9_method_37_code
def yX7_finish : MethodName := ⟨RX7, "finish", "(II)V"⟩
abbrev cX7_states : ByteArray := prog_9_method_38_code
def yX7_states : MethodName := ⟨RX7, "states", "()I"⟩
abbrev cX7_move : ByteArray := prog_9_method_39_code
def yX7_move : MethodName := ⟨RX7, "move", "(I)I"⟩
def RJ6 : String := "java/lang/Integer"
def TJ6 : u_T := fun k => match k with
  | _ => ("", "", "", false)
def tyJ6 : Nat → FieldType := fun k => match k with
  | _ => .int
theorem nmJ6 : ∀ a, a < 0 → ∀ b, b < 0 → a ≠ b → (TJ6 a).2.1 ≠ (TJ6 b).2.1 := by decide +kernel
theorem tyJ6_ok : ∀ k, k < 0 → parseFieldDescriptor (TJ6 k).2.2.1 = some (tyJ6 k) := by decide +kernel
abbrev cJ6_bitCount_0f7a4 : ByteArray := prog_14_method_49_code
def yJ6_bitCount_0f7a4 : MethodName := ⟨RJ6, "bitCount", "(I)I"⟩
def RJ13 : String := "java/lang/Long"
def TJ13 : u_T := fun k => match k with
  | _ => ("", "", "", false)
def tyJ13 : Nat → FieldType := fun k => match k with
  | _ => .int
theorem nmJ13 : ∀ a, a < 0 → ∀ b, b < 0 → a ≠ b → (TJ13 a).2.1 ≠ (TJ13 b).2.1 := by decide +kernel
theorem tyJ13_ok : ∀ k, k < 0 → parseFieldDescriptor (TJ13 k).2.2.1 = some (tyJ13 k) := by decide +kernel
abbrev cJ13_bitCount_95d88 : ByteArray := prog_15_method_50_code
def yJ13_bitCount_95d88 : MethodName := ⟨RJ13, "bitCount", "(J)I"⟩
def RJ9 : String := "java/lang/Math"
def TJ9 : u_T := fun k => match k with
  | _ => ("", "", "", false)
def tyJ9 : Nat → FieldType := fun k => match k with
  | _ => .int
theorem nmJ9 : ∀ a, a < 0 → ∀ b, b < 0 → a ≠ b → (TJ9 a).2.1 ≠ (TJ9 b).2.1 := by decide +kernel
theorem tyJ9_ok : ∀ k, k < 0 → parseFieldDescriptor (TJ9 k).2.2.1 = some (tyJ9 k) := by decide +kernel
abbrev cJ9_max_7cf53 : ByteArray := prog_16_method_65_code
def yJ9_max_7cf53 : MethodName := ⟨RJ9, "max", "(II)I"⟩
abbrev cJ9_min_7cf53 : ByteArray := prog_16_method_69_code
def yJ9_min_7cf53 : MethodName := ⟨RJ9, "min", "(II)I"⟩
def RJ0 : String := "java/lang/String"
def TJ0 : u_T := fun k => match k with
  | _ => ("", "", "", false)
def tyJ0 : Nat → FieldType := fun k => match k with
  | _ => .int
theorem nmJ0 : ∀ a, a < 0 → ∀ b, b < 0 → a ≠ b → (TJ0 a).2.1 ≠ (TJ0 b).2.1 := by decide +kernel
theorem tyJ0_ok : ∀ k, k < 0 → parseFieldDescriptor (TJ0 k).2.2.1 = some (tyJ0 k) := by decide +kernel
def RJ10 : String := "java/lang/System"
def TJ10 : u_T := fun k => match k with
  | _ => ("", "", "", false)
def tyJ10 : Nat → FieldType := fun k => match k with
  | _ => .int
theorem nmJ10 : ∀ a, a < 0 → ∀ b, b < 0 → a ≠ b → (TJ10 a).2.1 ≠ (TJ10 b).2.1 := by decide +kernel
theorem tyJ10_ok : ∀ k, k < 0 → parseFieldDescriptor (TJ10 k).2.2.1 = some (tyJ10 k) := by decide +kernel
def RJ7 : String := "java/util/Arrays"
def TJ7 : u_T := fun k => match k with
  | _ => ("", "", "", false)
def tyJ7 : Nat → FieldType := fun k => match k with
  | _ => .int
theorem nmJ7 : ∀ a, a < 0 → ∀ b, b < 0 → a ≠ b → (TJ7 a).2.1 ≠ (TJ7 b).2.1 := by decide +kernel
theorem tyJ7_ok : ∀ k, k < 0 → parseFieldDescriptor (TJ7 k).2.2.1 = some (tyJ7 k) := by decide +kernel
abbrev cJ7_fill_d0a16 : ByteArray := prog_21_method_101_code
def yJ7_fill_d0a16 : MethodName := ⟨RJ7, "fill", "([JJ)V"⟩
abbrev cJ7_fill_53178 : ByteArray := prog_21_method_103_code
def yJ7_fill_53178 : MethodName := ⟨RJ7, "fill", "([II)V"⟩
def RL : String := "BlockWorkshopLaw"
abbrev cL_cube : ByteArray := method_3_code
def yL_cube : MethodName := ⟨RL, "cube", "(LBlockWorkshop;IIZ[J)I"⟩
abbrev cL_mirror : ByteArray := method_4_code
def yL_mirror : MethodName := ⟨RL, "mirror", "(LBlockWorkshop;IZ)I"⟩
abbrev cL_shapes : ByteArray := method_5_code
def yL_shapes : MethodName := ⟨RL, "shapes", "(LBlockWorkshop;I[J)I"⟩
abbrev cL_shape : ByteArray := method_6_code
def yL_shape : MethodName := ⟨RL, "shape", "(LBlockWorkshop;II[J)I"⟩
abbrev cL_target : ByteArray := method_7_code
def yL_target : MethodName := ⟨RL, "target", "(LBlockWorkshop;II)I"⟩
abbrev cL_places : ByteArray := method_8_code
def yL_places : MethodName := ⟨RL, "places", "(LBlockWorkshop;I[J)I"⟩
abbrev cL_pack : ByteArray := method_9_code
def yL_pack : MethodName := ⟨RL, "pack", "(LBlockWorkshop;I[J)I"⟩
abbrev cL_assemble : ByteArray := method_10_code
def yL_assemble : MethodName := ⟨RL, "assemble", "(LBlockWorkshop;II[J)I"⟩
abbrev cL_put : ByteArray := method_11_code
def yL_put : MethodName := ⟨RL, "put", "(LBlockWorkshop;IJ)I"⟩
abbrev cL_take : ByteArray := method_12_code
def yL_take : MethodName := ⟨RL, "take", "(LBlockWorkshop;I)I"⟩
abbrev cL_cells : ByteArray := method_13_code
def yL_cells : MethodName := ⟨RL, "cells", "(LBlockWorkshop;I[J)I"⟩
abbrev cL_plan : ByteArray := method_14_code
def yL_plan : MethodName := ⟨RL, "plan", "(LBlockWorkshop;II[J)I"⟩
abbrev cL_move : ByteArray := method_15_code
def yL_move : MethodName := ⟨RL, "move", "(LBlockWorkshop;I[J)I"⟩
abbrev cL_law : ByteArray := code
def yL_law : MethodName := ⟨RL, "law", "([I)Z"⟩
abbrev vwCl : List vw_C := [(RX1, TX1, 11), (RX2, TX2, 9), (RX3, TX3, 3), (RX4, TX4, 7), (RX5, TX5, 10), (RX6, TX6, 6), (RX7, TX7, 26)]
end
section
theorem dX0_isBelow_0 : decode cX0_isBelow 0 = .ok (.lload_n 0, 1) := by decide +kernel
theorem dX0_isBelow_1 : decode cX0_isBelow 1 = .ok (.ldc2_w 9, 3) := by decide +kernel
theorem dX0_isBelow_4 : decode cX0_isBelow 4 = .ok (.lxor, 1) := by decide +kernel
theorem dX0_isBelow_5 : decode cX0_isBelow 5 = .ok (.lload_n 2, 1) := by decide +kernel
theorem dX0_isBelow_6 : decode cX0_isBelow 6 = .ok (.ldc2_w 9, 3) := by decide +kernel
theorem dX0_isBelow_9 : decode cX0_isBelow 9 = .ok (.lxor, 1) := by decide +kernel
theorem dX0_isBelow_10 : decode cX0_isBelow 10 = .ok (.lcmp, 1) := by decide +kernel
theorem dX0_isBelow_11 : decode cX0_isBelow 11 = .ok (.ifCond .ge 7, 3) := by decide +kernel
theorem dX0_isBelow_14 : decode cX0_isBelow 14 = .ok (.iconst 1, 1) := by decide +kernel
theorem dX0_isBelow_15 : decode cX0_isBelow 15 = .ok (.goto 4, 3) := by decide +kernel
theorem dX0_isBelow_18 : decode cX0_isBelow 18 = .ok (.iconst 0, 1) := by decide +kernel
theorem dX0_isBelow_19 : decode cX0_isBelow 19 = .ok (.ireturn, 1) := by decide +kernel
theorem dX0_lowest_0 : decode cX0_lowest 0 = .ok (.lload_n 0, 1) := by decide +kernel
theorem dX0_lowest_1 : decode cX0_lowest 1 = .ok (.lload_n 0, 1) := by decide +kernel
theorem dX0_lowest_2 : decode cX0_lowest 2 = .ok (.lneg, 1) := by decide +kernel
theorem dX0_lowest_3 : decode cX0_lowest 3 = .ok (.land, 1) := by decide +kernel
theorem dX0_lowest_4 : decode cX0_lowest 4 = .ok (.lconst 1, 1) := by decide +kernel
theorem dX0_lowest_5 : decode cX0_lowest 5 = .ok (.lsub, 1) := by decide +kernel
theorem dX0_lowest_6 : decode cX0_lowest 6 = .ok (.invokestatic 11, 3) := by decide +kernel
theorem dX0_lowest_9 : decode cX0_lowest 9 = .ok (.ireturn, 1) := by decide +kernel
theorem dX0_least_0 : decode cX0_least 0 = .ok (.iconst 0, 1) := by decide +kernel
theorem dX0_least_1 : decode cX0_least 1 = .ok (.istore_n 3, 1) := by decide +kernel
theorem dX0_least_2 : decode cX0_least 2 = .ok (.iload_n 3, 1) := by decide +kernel
theorem dX0_least_3 : decode cX0_least 3 = .ok (.iconst 3, 1) := by decide +kernel
theorem dX0_least_4 : decode cX0_least 4 = .ok (.if_icmp .ge 29, 3) := by decide +kernel
theorem dX0_least_7 : decode cX0_least 7 = .ok (.lload_n 0, 1) := by decide +kernel
theorem dX0_least_8 : decode cX0_least 8 = .ok (.getstatic 17, 3) := by decide +kernel
theorem dX0_least_11 : decode cX0_least 11 = .ok (.iload_n 2, 1) := by decide +kernel
theorem dX0_least_12 : decode cX0_least 12 = .ok (.laload, 1) := by decide +kernel
theorem dX0_least_13 : decode cX0_least 13 = .ok (.iload_n 3, 1) := by decide +kernel
theorem dX0_least_14 : decode cX0_least 14 = .ok (.getstatic 23, 3) := by decide +kernel
theorem dX0_least_17 : decode cX0_least 17 = .ok (.iload_n 2, 1) := by decide +kernel
theorem dX0_least_18 : decode cX0_least 18 = .ok (.iaload, 1) := by decide +kernel
theorem dX0_least_19 : decode cX0_least 19 = .ok (.imul, 1) := by decide +kernel
theorem dX0_least_20 : decode cX0_least 20 = .ok (.lshl, 1) := by decide +kernel
theorem dX0_least_21 : decode cX0_least 21 = .ok (.land, 1) := by decide +kernel
theorem dX0_least_22 : decode cX0_least 22 = .ok (.lconst 0, 1) := by decide +kernel
theorem dX0_least_23 : decode cX0_least 23 = .ok (.lcmp, 1) := by decide +kernel
theorem dX0_least_24 : decode cX0_least 24 = .ok (.ifCond .ne 9, 3) := by decide +kernel
theorem dX0_least_27 : decode cX0_least 27 = .ok (.iinc 3 1, 3) := by decide +kernel
theorem dX0_least_30 : decode cX0_least 30 = .ok (.goto (-28), 3) := by decide +kernel
theorem dX0_least_33 : decode cX0_least 33 = .ok (.iload_n 3, 1) := by decide +kernel
theorem dX0_least_34 : decode cX0_least 34 = .ok (.ireturn, 1) := by decide +kernel
theorem dX0_greatest_0 : decode cX0_greatest 0 = .ok (.iconst 3, 1) := by decide +kernel
theorem dX0_greatest_1 : decode cX0_greatest 1 = .ok (.istore_n 3, 1) := by decide +kernel
theorem dX0_greatest_2 : decode cX0_greatest 2 = .ok (.iload_n 3, 1) := by decide +kernel
theorem dX0_greatest_3 : decode cX0_greatest 3 = .ok (.ifCond .le 29, 3) := by decide +kernel
theorem dX0_greatest_6 : decode cX0_greatest 6 = .ok (.lload_n 0, 1) := by decide +kernel
theorem dX0_greatest_7 : decode cX0_greatest 7 = .ok (.getstatic 17, 3) := by decide +kernel
theorem dX0_greatest_10 : decode cX0_greatest 10 = .ok (.iload_n 2, 1) := by decide +kernel
theorem dX0_greatest_11 : decode cX0_greatest 11 = .ok (.laload, 1) := by decide +kernel
theorem dX0_greatest_12 : decode cX0_greatest 12 = .ok (.iload_n 3, 1) := by decide +kernel
theorem dX0_greatest_13 : decode cX0_greatest 13 = .ok (.getstatic 23, 3) := by decide +kernel
theorem dX0_greatest_16 : decode cX0_greatest 16 = .ok (.iload_n 2, 1) := by decide +kernel
theorem dX0_greatest_17 : decode cX0_greatest 17 = .ok (.iaload, 1) := by decide +kernel
theorem dX0_greatest_18 : decode cX0_greatest 18 = .ok (.imul, 1) := by decide +kernel
theorem dX0_greatest_19 : decode cX0_greatest 19 = .ok (.lshl, 1) := by decide +kernel
theorem dX0_greatest_20 : decode cX0_greatest 20 = .ok (.land, 1) := by decide +kernel
theorem dX0_greatest_21 : decode cX0_greatest 21 = .ok (.lconst 0, 1) := by decide +kernel
theorem dX0_greatest_22 : decode cX0_greatest 22 = .ok (.lcmp, 1) := by decide +kernel
theorem dX0_greatest_23 : decode cX0_greatest 23 = .ok (.ifCond .ne 9, 3) := by decide +kernel
theorem dX0_greatest_26 : decode cX0_greatest 26 = .ok (.iinc 3 (-1), 3) := by decide +kernel
theorem dX0_greatest_29 : decode cX0_greatest 29 = .ok (.goto (-27), 3) := by decide +kernel
theorem dX0_greatest_32 : decode cX0_greatest 32 = .ok (.iload_n 3, 1) := by decide +kernel
theorem dX0_greatest_33 : decode cX0_greatest 33 = .ok (.ireturn, 1) := by decide +kernel
theorem dX0_settled_0 : decode cX0_settled 0 = .ok (.lload_n 0, 1) := by decide +kernel
theorem dX0_settled_1 : decode cX0_settled 1 = .ok (.lstore_n 2, 1) := by decide +kernel
theorem dX0_settled_2 : decode cX0_settled 2 = .ok (.iconst 0, 1) := by decide +kernel
theorem dX0_settled_3 : decode cX0_settled 3 = .ok (.istore 4, 2) := by decide +kernel
theorem dX0_settled_5 : decode cX0_settled 5 = .ok (.iload 4, 2) := by decide +kernel
theorem dX0_settled_7 : decode cX0_settled 7 = .ok (.iconst 3, 1) := by decide +kernel
theorem dX0_settled_8 : decode cX0_settled 8 = .ok (.if_icmp .ge 25, 3) := by decide +kernel
theorem dX0_settled_11 : decode cX0_settled 11 = .ok (.lload_n 2, 1) := by decide +kernel
theorem dX0_settled_12 : decode cX0_settled 12 = .ok (.lload_n 2, 1) := by decide +kernel
theorem dX0_settled_13 : decode cX0_settled 13 = .ok (.iload 4, 2) := by decide +kernel
theorem dX0_settled_15 : decode cX0_settled 15 = .ok (.invokestatic 27, 3) := by decide +kernel
theorem dX0_settled_18 : decode cX0_settled 18 = .ok (.getstatic 23, 3) := by decide +kernel
theorem dX0_settled_21 : decode cX0_settled 21 = .ok (.iload 4, 2) := by decide +kernel
theorem dX0_settled_23 : decode cX0_settled 23 = .ok (.iaload, 1) := by decide +kernel
theorem dX0_settled_24 : decode cX0_settled 24 = .ok (.imul, 1) := by decide +kernel
theorem dX0_settled_25 : decode cX0_settled 25 = .ok (.lushr, 1) := by decide +kernel
theorem dX0_settled_26 : decode cX0_settled 26 = .ok (.lstore_n 2, 1) := by decide +kernel
theorem dX0_settled_27 : decode cX0_settled 27 = .ok (.iinc 4 1, 3) := by decide +kernel
theorem dX0_settled_30 : decode cX0_settled 30 = .ok (.goto (-25), 3) := by decide +kernel
theorem dX0_settled_33 : decode cX0_settled 33 = .ok (.lload_n 2, 1) := by decide +kernel
theorem dX0_settled_34 : decode cX0_settled 34 = .ok (.lreturn, 1) := by decide +kernel
theorem dX0_shifted_0 : decode cX0_shifted 0 = .ok (.iload_n 3, 1) := by decide +kernel
theorem dX0_shifted_1 : decode cX0_shifted 1 = .ok (.bipush (-4), 2) := by decide +kernel
theorem dX0_shifted_3 : decode cX0_shifted 3 = .ok (.if_icmp .le 8, 3) := by decide +kernel
theorem dX0_shifted_6 : decode cX0_shifted 6 = .ok (.iload_n 3, 1) := by decide +kernel
theorem dX0_shifted_7 : decode cX0_shifted 7 = .ok (.iconst 4, 1) := by decide +kernel
theorem dX0_shifted_8 : decode cX0_shifted 8 = .ok (.if_icmp .lt 5, 3) := by decide +kernel
theorem dX0_shifted_11 : decode cX0_shifted 11 = .ok (.lconst 0, 1) := by decide +kernel
theorem dX0_shifted_12 : decode cX0_shifted 12 = .ok (.lreturn, 1) := by decide +kernel
theorem dX0_shifted_13 : decode cX0_shifted 13 = .ok (.iload_n 3, 1) := by decide +kernel
theorem dX0_shifted_14 : decode cX0_shifted 14 = .ok (.ifCond .lt 23, 3) := by decide +kernel
theorem dX0_shifted_17 : decode cX0_shifted 17 = .ok (.lload_n 0, 1) := by decide +kernel
theorem dX0_shifted_18 : decode cX0_shifted 18 = .ok (.getstatic 31, 3) := by decide +kernel
theorem dX0_shifted_21 : decode cX0_shifted 21 = .ok (.iload_n 2, 1) := by decide +kernel
theorem dX0_shifted_22 : decode cX0_shifted 22 = .ok (.iconst 4, 1) := by decide +kernel
theorem dX0_shifted_23 : decode cX0_shifted 23 = .ok (.imul, 1) := by decide +kernel
theorem dX0_shifted_24 : decode cX0_shifted 24 = .ok (.iload_n 3, 1) := by decide +kernel
theorem dX0_shifted_25 : decode cX0_shifted 25 = .ok (.iadd, 1) := by decide +kernel
theorem dX0_shifted_26 : decode cX0_shifted 26 = .ok (.laload, 1) := by decide +kernel
theorem dX0_shifted_27 : decode cX0_shifted 27 = .ok (.land, 1) := by decide +kernel
theorem dX0_shifted_28 : decode cX0_shifted 28 = .ok (.iload_n 3, 1) := by decide +kernel
theorem dX0_shifted_29 : decode cX0_shifted 29 = .ok (.getstatic 23, 3) := by decide +kernel
theorem dX0_shifted_32 : decode cX0_shifted 32 = .ok (.iload_n 2, 1) := by decide +kernel
theorem dX0_shifted_33 : decode cX0_shifted 33 = .ok (.iaload, 1) := by decide +kernel
theorem dX0_shifted_34 : decode cX0_shifted 34 = .ok (.imul, 1) := by decide +kernel
theorem dX0_shifted_35 : decode cX0_shifted 35 = .ok (.lshl, 1) := by decide +kernel
theorem dX0_shifted_36 : decode cX0_shifted 36 = .ok (.lreturn, 1) := by decide +kernel
theorem dX0_shifted_37 : decode cX0_shifted 37 = .ok (.lload_n 0, 1) := by decide +kernel
theorem dX0_shifted_38 : decode cX0_shifted 38 = .ok (.iload_n 3, 1) := by decide +kernel
theorem dX0_shifted_39 : decode cX0_shifted 39 = .ok (.ineg, 1) := by decide +kernel
theorem dX0_shifted_40 : decode cX0_shifted 40 = .ok (.getstatic 23, 3) := by decide +kernel
theorem dX0_shifted_43 : decode cX0_shifted 43 = .ok (.iload_n 2, 1) := by decide +kernel
theorem dX0_shifted_44 : decode cX0_shifted 44 = .ok (.iaload, 1) := by decide +kernel
theorem dX0_shifted_45 : decode cX0_shifted 45 = .ok (.imul, 1) := by decide +kernel
theorem dX0_shifted_46 : decode cX0_shifted 46 = .ok (.lushr, 1) := by decide +kernel
theorem dX0_shifted_47 : decode cX0_shifted 47 = .ok (.getstatic 31, 3) := by decide +kernel
theorem dX0_shifted_50 : decode cX0_shifted 50 = .ok (.iload_n 2, 1) := by decide +kernel
theorem dX0_shifted_51 : decode cX0_shifted 51 = .ok (.iconst 4, 1) := by decide +kernel
theorem dX0_shifted_52 : decode cX0_shifted 52 = .ok (.imul, 1) := by decide +kernel
theorem dX0_shifted_53 : decode cX0_shifted 53 = .ok (.iload_n 3, 1) := by decide +kernel
theorem dX0_shifted_54 : decode cX0_shifted 54 = .ok (.isub, 1) := by decide +kernel
theorem dX0_shifted_55 : decode cX0_shifted 55 = .ok (.laload, 1) := by decide +kernel
theorem dX0_shifted_56 : decode cX0_shifted 56 = .ok (.land, 1) := by decide +kernel
theorem dX0_shifted_57 : decode cX0_shifted 57 = .ok (.lreturn, 1) := by decide +kernel
theorem dX0_mirrors_0 : decode cX0_mirrors 0 = .ok (.iload_n 0, 1) := by decide +kernel
theorem dX0_mirrors_1 : decode cX0_mirrors 1 = .ok (.bipush 8, 2) := by decide +kernel
theorem dX0_mirrors_3 : decode cX0_mirrors 3 = .ok (.idiv, 1) := by decide +kernel
theorem dX0_mirrors_4 : decode cX0_mirrors 4 = .ok (.iconst 3, 1) := by decide +kernel
theorem dX0_mirrors_5 : decode cX0_mirrors 5 = .ok (.if_icmp .lt 7, 3) := by decide +kernel
theorem dX0_mirrors_8 : decode cX0_mirrors 8 = .ok (.iconst 1, 1) := by decide +kernel
theorem dX0_mirrors_9 : decode cX0_mirrors 9 = .ok (.goto 4, 3) := by decide +kernel
theorem dX0_mirrors_12 : decode cX0_mirrors 12 = .ok (.iconst 0, 1) := by decide +kernel
theorem dX0_mirrors_13 : decode cX0_mirrors 13 = .ok (.istore_n 1, 1) := by decide +kernel
theorem dX0_mirrors_14 : decode cX0_mirrors 14 = .ok (.iload_n 0, 1) := by decide +kernel
theorem dX0_mirrors_15 : decode cX0_mirrors 15 = .ok (.bipush 8, 2) := by decide +kernel
theorem dX0_mirrors_17 : decode cX0_mirrors 17 = .ok (.irem, 1) := by decide +kernel
theorem dX0_mirrors_18 : decode cX0_mirrors 18 = .ok (.invokestatic 34, 3) := by decide +kernel
theorem dX0_mirrors_21 : decode cX0_mirrors 21 = .ok (.iconst 1, 1) := by decide +kernel
theorem dX0_mirrors_22 : decode cX0_mirrors 22 = .ok (.iand, 1) := by decide +kernel
theorem dX0_mirrors_23 : decode cX0_mirrors 23 = .ok (.ifCond .eq 7, 3) := by decide +kernel
theorem dX0_mirrors_26 : decode cX0_mirrors 26 = .ok (.iconst 1, 1) := by decide +kernel
theorem dX0_mirrors_27 : decode cX0_mirrors 27 = .ok (.goto 4, 3) := by decide +kernel
theorem dX0_mirrors_30 : decode cX0_mirrors 30 = .ok (.iconst 0, 1) := by decide +kernel
theorem dX0_mirrors_31 : decode cX0_mirrors 31 = .ok (.istore_n 2, 1) := by decide +kernel
theorem dX0_mirrors_32 : decode cX0_mirrors 32 = .ok (.iload_n 1, 1) := by decide +kernel
theorem dX0_mirrors_33 : decode cX0_mirrors 33 = .ok (.iload_n 2, 1) := by decide +kernel
theorem dX0_mirrors_34 : decode cX0_mirrors 34 = .ok (.if_icmp .eq 7, 3) := by decide +kernel
theorem dX0_mirrors_37 : decode cX0_mirrors 37 = .ok (.iconst 1, 1) := by decide +kernel
theorem dX0_mirrors_38 : decode cX0_mirrors 38 = .ok (.goto 4, 3) := by decide +kernel
theorem dX0_mirrors_41 : decode cX0_mirrors 41 = .ok (.iconst 0, 1) := by decide +kernel
theorem dX0_mirrors_42 : decode cX0_mirrors 42 = .ok (.ireturn, 1) := by decide +kernel
theorem dX0_turned_0 : decode cX0_turned 0 = .ok (.iload_n 2, 1) := by decide +kernel
theorem dX0_turned_1 : decode cX0_turned 1 = .ok (.bipush 8, 2) := by decide +kernel
theorem dX0_turned_3 : decode cX0_turned 3 = .ok (.idiv, 1) := by decide +kernel
theorem dX0_turned_4 : decode cX0_turned 4 = .ok (.iconst 3, 1) := by decide +kernel
theorem dX0_turned_5 : decode cX0_turned 5 = .ok (.imul, 1) := by decide +kernel
theorem dX0_turned_6 : decode cX0_turned 6 = .ok (.istore_n 3, 1) := by decide +kernel
theorem dX0_turned_7 : decode cX0_turned 7 = .ok (.iload_n 2, 1) := by decide +kernel
theorem dX0_turned_8 : decode cX0_turned 8 = .ok (.bipush 8, 2) := by decide +kernel
theorem dX0_turned_10 : decode cX0_turned 10 = .ok (.irem, 1) := by decide +kernel
theorem dX0_turned_11 : decode cX0_turned 11 = .ok (.istore 4, 2) := by decide +kernel
theorem dX0_turned_13 : decode cX0_turned 13 = .ok (.lconst 0, 1) := by decide +kernel
theorem dX0_turned_14 : decode cX0_turned 14 = .ok (.lstore 5, 2) := by decide +kernel
theorem dX0_turned_16 : decode cX0_turned 16 = .ok (.lload_n 0, 1) := by decide +kernel
theorem dX0_turned_17 : decode cX0_turned 17 = .ok (.lstore 7, 2) := by decide +kernel
theorem dX0_turned_19 : decode cX0_turned 19 = .ok (.lload 7, 2) := by decide +kernel
theorem dX0_turned_21 : decode cX0_turned 21 = .ok (.lconst 0, 1) := by decide +kernel
theorem dX0_turned_22 : decode cX0_turned 22 = .ok (.lcmp, 1) := by decide +kernel
theorem dX0_turned_23 : decode cX0_turned 23 = .ok (.ifCond .eq 111, 3) := by decide +kernel
theorem dX0_turned_26 : decode cX0_turned 26 = .ok (.lload 7, 2) := by decide +kernel
theorem dX0_turned_28 : decode cX0_turned 28 = .ok (.invokestatic 39, 3) := by decide +kernel
theorem dX0_turned_31 : decode cX0_turned 31 = .ok (.istore 9, 2) := by decide +kernel
theorem dX0_turned_33 : decode cX0_turned 33 = .ok (.iconst 0, 1) := by decide +kernel
theorem dX0_turned_34 : decode cX0_turned 34 = .ok (.istore 10, 2) := by decide +kernel
theorem dX0_turned_36 : decode cX0_turned 36 = .ok (.iconst 0, 1) := by decide +kernel
theorem dX0_turned_37 : decode cX0_turned 37 = .ok (.istore 11, 2) := by decide +kernel
theorem dX0_turned_39 : decode cX0_turned 39 = .ok (.iload 11, 2) := by decide +kernel
theorem dX0_turned_41 : decode cX0_turned 41 = .ok (.iconst 3, 1) := by decide +kernel
theorem dX0_turned_42 : decode cX0_turned 42 = .ok (.if_icmp .ge 71, 3) := by decide +kernel
theorem dX0_turned_45 : decode cX0_turned 45 = .ok (.iload 9, 2) := by decide +kernel
theorem dX0_turned_47 : decode cX0_turned 47 = .ok (.getstatic 23, 3) := by decide +kernel
theorem dX0_turned_50 : decode cX0_turned 50 = .ok (.getstatic 42, 3) := by decide +kernel
theorem dX0_turned_53 : decode cX0_turned 53 = .ok (.iload_n 3, 1) := by decide +kernel
theorem dX0_turned_54 : decode cX0_turned 54 = .ok (.iload 11, 2) := by decide +kernel
theorem dX0_turned_56 : decode cX0_turned 56 = .ok (.iadd, 1) := by decide +kernel
theorem dX0_turned_57 : decode cX0_turned 57 = .ok (.iaload, 1) := by decide +kernel
theorem dX0_turned_58 : decode cX0_turned 58 = .ok (.iaload, 1) := by decide +kernel
theorem dX0_turned_59 : decode cX0_turned 59 = .ok (.idiv, 1) := by decide +kernel
theorem dX0_turned_60 : decode cX0_turned 60 = .ok (.iconst 4, 1) := by decide +kernel
theorem dX0_turned_61 : decode cX0_turned 61 = .ok (.irem, 1) := by decide +kernel
theorem dX0_turned_62 : decode cX0_turned 62 = .ok (.istore 12, 2) := by decide +kernel
theorem dX0_turned_64 : decode cX0_turned 64 = .ok (.iload 4, 2) := by decide +kernel
theorem dX0_turned_66 : decode cX0_turned 66 = .ok (.iload 11, 2) := by decide +kernel
theorem dX0_turned_68 : decode cX0_turned 68 = .ok (.ishr, 1) := by decide +kernel
theorem dX0_turned_69 : decode cX0_turned 69 = .ok (.iconst 1, 1) := by decide +kernel
theorem dX0_turned_70 : decode cX0_turned 70 = .ok (.iand, 1) := by decide +kernel
theorem dX0_turned_71 : decode cX0_turned 71 = .ok (.ifCond .eq 7, 3) := by decide +kernel
theorem dX0_turned_74 : decode cX0_turned 74 = .ok (.iconst 1, 1) := by decide +kernel
theorem dX0_turned_75 : decode cX0_turned 75 = .ok (.goto 4, 3) := by decide +kernel
theorem dX0_turned_78 : decode cX0_turned 78 = .ok (.iconst 0, 1) := by decide +kernel
theorem dX0_turned_79 : decode cX0_turned 79 = .ok (.istore 13, 2) := by decide +kernel
theorem dX0_turned_81 : decode cX0_turned 81 = .ok (.iload 10, 2) := by decide +kernel
theorem dX0_turned_83 : decode cX0_turned 83 = .ok (.iload 13, 2) := by decide +kernel
theorem dX0_turned_85 : decode cX0_turned 85 = .ok (.ifCond .eq 10, 3) := by decide +kernel
theorem dX0_turned_88 : decode cX0_turned 88 = .ok (.iconst 3, 1) := by decide +kernel
theorem dX0_turned_89 : decode cX0_turned 89 = .ok (.iload 12, 2) := by decide +kernel
theorem dX0_turned_91 : decode cX0_turned 91 = .ok (.isub, 1) := by decide +kernel
theorem dX0_turned_92 : decode cX0_turned 92 = .ok (.goto 5, 3) := by decide +kernel
theorem dX0_turned_95 : decode cX0_turned 95 = .ok (.iload 12, 2) := by decide +kernel
theorem dX0_turned_97 : decode cX0_turned 97 = .ok (.getstatic 23, 3) := by decide +kernel
theorem dX0_turned_100 : decode cX0_turned 100 = .ok (.iload 11, 2) := by decide +kernel
theorem dX0_turned_102 : decode cX0_turned 102 = .ok (.iaload, 1) := by decide +kernel
theorem dX0_turned_103 : decode cX0_turned 103 = .ok (.imul, 1) := by decide +kernel
theorem dX0_turned_104 : decode cX0_turned 104 = .ok (.iadd, 1) := by decide +kernel
theorem dX0_turned_105 : decode cX0_turned 105 = .ok (.istore 10, 2) := by decide +kernel
theorem dX0_turned_107 : decode cX0_turned 107 = .ok (.iinc 11 1, 3) := by decide +kernel
theorem dX0_turned_110 : decode cX0_turned 110 = .ok (.goto (-71), 3) := by decide +kernel
theorem dX0_turned_113 : decode cX0_turned 113 = .ok (.lload 5, 2) := by decide +kernel
theorem dX0_turned_115 : decode cX0_turned 115 = .ok (.lconst 1, 1) := by decide +kernel
theorem dX0_turned_116 : decode cX0_turned 116 = .ok (.iload 10, 2) := by decide +kernel
theorem dX0_turned_118 : decode cX0_turned 118 = .ok (.lshl, 1) := by decide +kernel
theorem dX0_turned_119 : decode cX0_turned 119 = .ok (.lor, 1) := by decide +kernel
theorem dX0_turned_120 : decode cX0_turned 120 = .ok (.lstore 5, 2) := by decide +kernel
theorem dX0_turned_122 : decode cX0_turned 122 = .ok (.lload 7, 2) := by decide +kernel
theorem dX0_turned_124 : decode cX0_turned 124 = .ok (.lload 7, 2) := by decide +kernel
theorem dX0_turned_126 : decode cX0_turned 126 = .ok (.lconst 1, 1) := by decide +kernel
theorem dX0_turned_127 : decode cX0_turned 127 = .ok (.lsub, 1) := by decide +kernel
theorem dX0_turned_128 : decode cX0_turned 128 = .ok (.land, 1) := by decide +kernel
theorem dX0_turned_129 : decode cX0_turned 129 = .ok (.lstore 7, 2) := by decide +kernel
theorem dX0_turned_131 : decode cX0_turned 131 = .ok (.goto (-112), 3) := by decide +kernel
theorem dX0_turned_134 : decode cX0_turned 134 = .ok (.lload 5, 2) := by decide +kernel
theorem dX0_turned_136 : decode cX0_turned 136 = .ok (.lreturn, 1) := by decide +kernel
theorem dX0_hangsTogether_0 : decode cX0_hangsTogether 0 = .ok (.lload_n 0, 1) := by decide +kernel
theorem dX0_hangsTogether_1 : decode cX0_hangsTogether 1 = .ok (.lload_n 0, 1) := by decide +kernel
theorem dX0_hangsTogether_2 : decode cX0_hangsTogether 2 = .ok (.lneg, 1) := by decide +kernel
theorem dX0_hangsTogether_3 : decode cX0_hangsTogether 3 = .ok (.land, 1) := by decide +kernel
theorem dX0_hangsTogether_4 : decode cX0_hangsTogether 4 = .ok (.lstore_n 2, 1) := by decide +kernel
theorem dX0_hangsTogether_5 : decode cX0_hangsTogether 5 = .ok (.iconst 0, 1) := by decide +kernel
theorem dX0_hangsTogether_6 : decode cX0_hangsTogether 6 = .ok (.istore 4, 2) := by decide +kernel
theorem dX0_hangsTogether_8 : decode cX0_hangsTogether 8 = .ok (.iload 4, 2) := by decide +kernel
theorem dX0_hangsTogether_10 : decode cX0_hangsTogether 10 = .ok (.bipush 10, 2) := by decide +kernel
theorem dX0_hangsTogether_12 : decode cX0_hangsTogether 12 = .ok (.if_icmp .ge 18, 3) := by decide +kernel
theorem dX0_hangsTogether_15 : decode cX0_hangsTogether 15 = .ok (.lload_n 2, 1) := by decide +kernel
theorem dX0_hangsTogether_16 : decode cX0_hangsTogether 16 = .ok (.lload_n 2, 1) := by decide +kernel
theorem dX0_hangsTogether_17 : decode cX0_hangsTogether 17 = .ok (.invokestatic 45, 3) := by decide +kernel
theorem dX0_hangsTogether_20 : decode cX0_hangsTogether 20 = .ok (.lload_n 0, 1) := by decide +kernel
theorem dX0_hangsTogether_21 : decode cX0_hangsTogether 21 = .ok (.land, 1) := by decide +kernel
theorem dX0_hangsTogether_22 : decode cX0_hangsTogether 22 = .ok (.lor, 1) := by decide +kernel
theorem dX0_hangsTogether_23 : decode cX0_hangsTogether 23 = .ok (.lstore_n 2, 1) := by decide +kernel
theorem dX0_hangsTogether_24 : decode cX0_hangsTogether 24 = .ok (.iinc 4 1, 3) := by decide +kernel
theorem dX0_hangsTogether_27 : decode cX0_hangsTogether 27 = .ok (.goto (-19), 3) := by decide +kernel
theorem dX0_hangsTogether_30 : decode cX0_hangsTogether 30 = .ok (.lload_n 0, 1) := by decide +kernel
theorem dX0_hangsTogether_31 : decode cX0_hangsTogether 31 = .ok (.lconst 0, 1) := by decide +kernel
theorem dX0_hangsTogether_32 : decode cX0_hangsTogether 32 = .ok (.lcmp, 1) := by decide +kernel
theorem dX0_hangsTogether_33 : decode cX0_hangsTogether 33 = .ok (.ifCond .eq 13, 3) := by decide +kernel
theorem dX0_hangsTogether_36 : decode cX0_hangsTogether 36 = .ok (.lload_n 2, 1) := by decide +kernel
theorem dX0_hangsTogether_37 : decode cX0_hangsTogether 37 = .ok (.lload_n 0, 1) := by decide +kernel
theorem dX0_hangsTogether_38 : decode cX0_hangsTogether 38 = .ok (.lcmp, 1) := by decide +kernel
theorem dX0_hangsTogether_39 : decode cX0_hangsTogether 39 = .ok (.ifCond .ne 7, 3) := by decide +kernel
theorem dX0_hangsTogether_42 : decode cX0_hangsTogether 42 = .ok (.iconst 1, 1) := by decide +kernel
theorem dX0_hangsTogether_43 : decode cX0_hangsTogether 43 = .ok (.goto 4, 3) := by decide +kernel
theorem dX0_hangsTogether_46 : decode cX0_hangsTogether 46 = .ok (.iconst 0, 1) := by decide +kernel
theorem dX0_hangsTogether_47 : decode cX0_hangsTogether 47 = .ok (.ireturn, 1) := by decide +kernel
theorem dX0_neighbours_0 : decode cX0_neighbours 0 = .ok (.lconst 0, 1) := by decide +kernel
theorem dX0_neighbours_1 : decode cX0_neighbours 1 = .ok (.lstore_n 2, 1) := by decide +kernel
theorem dX0_neighbours_2 : decode cX0_neighbours 2 = .ok (.iconst 0, 1) := by decide +kernel
theorem dX0_neighbours_3 : decode cX0_neighbours 3 = .ok (.istore 4, 2) := by decide +kernel
theorem dX0_neighbours_5 : decode cX0_neighbours 5 = .ok (.iload 4, 2) := by decide +kernel
theorem dX0_neighbours_7 : decode cX0_neighbours 7 = .ok (.iconst 3, 1) := by decide +kernel
theorem dX0_neighbours_8 : decode cX0_neighbours 8 = .ok (.if_icmp .ge 27, 3) := by decide +kernel
theorem dX0_neighbours_11 : decode cX0_neighbours 11 = .ok (.lload_n 2, 1) := by decide +kernel
theorem dX0_neighbours_12 : decode cX0_neighbours 12 = .ok (.lload_n 0, 1) := by decide +kernel
theorem dX0_neighbours_13 : decode cX0_neighbours 13 = .ok (.iload 4, 2) := by decide +kernel
theorem dX0_neighbours_15 : decode cX0_neighbours 15 = .ok (.iconst 1, 1) := by decide +kernel
theorem dX0_neighbours_16 : decode cX0_neighbours 16 = .ok (.invokestatic 49, 3) := by decide +kernel
theorem dX0_neighbours_19 : decode cX0_neighbours 19 = .ok (.lload_n 0, 1) := by decide +kernel
theorem dX0_neighbours_20 : decode cX0_neighbours 20 = .ok (.iload 4, 2) := by decide +kernel
theorem dX0_neighbours_22 : decode cX0_neighbours 22 = .ok (.iconst (-1), 1) := by decide +kernel
theorem dX0_neighbours_23 : decode cX0_neighbours 23 = .ok (.invokestatic 49, 3) := by decide +kernel
theorem dX0_neighbours_26 : decode cX0_neighbours 26 = .ok (.lor, 1) := by decide +kernel
theorem dX0_neighbours_27 : decode cX0_neighbours 27 = .ok (.lor, 1) := by decide +kernel
theorem dX0_neighbours_28 : decode cX0_neighbours 28 = .ok (.lstore_n 2, 1) := by decide +kernel
theorem dX0_neighbours_29 : decode cX0_neighbours 29 = .ok (.iinc 4 1, 3) := by decide +kernel
theorem dX0_neighbours_32 : decode cX0_neighbours 32 = .ok (.goto (-27), 3) := by decide +kernel
theorem dX0_neighbours_35 : decode cX0_neighbours 35 = .ok (.lload_n 2, 1) := by decide +kernel
theorem dX0_neighbours_36 : decode cX0_neighbours 36 = .ok (.lreturn, 1) := by decide +kernel
theorem dX1_init_0 : decode cX1_init 0 = .ok (.aload_n 0, 1) := by decide +kernel
theorem dX1_init_1 : decode cX1_init 1 = .ok (.invokespecial 5, 3) := by decide +kernel
theorem dX1_init_4 : decode cX1_init 4 = .ok (.aload_n 0, 1) := by decide +kernel
theorem dX1_init_5 : decode cX1_init 5 = .ok (.bipush 48, 2) := by decide +kernel
theorem dX1_init_7 : decode cX1_init 7 = .ok (.newarray .long, 2) := by decide +kernel
theorem dX1_init_9 : decode cX1_init 9 = .ok (.putfield 11, 3) := by decide +kernel
theorem dX1_init_12 : decode cX1_init 12 = .ok (.aload_n 0, 1) := by decide +kernel
theorem dX1_init_13 : decode cX1_init 13 = .ok (.sipush 896, 3) := by decide +kernel
theorem dX1_init_16 : decode cX1_init 16 = .ok (.newarray .long, 2) := by decide +kernel
theorem dX1_init_18 : decode cX1_init 18 = .ok (.putfield 15, 3) := by decide +kernel
theorem dX1_init_21 : decode cX1_init 21 = .ok (.aload_n 0, 1) := by decide +kernel
theorem dX1_init_22 : decode cX1_init 22 = .ok (.sipush 910, 3) := by decide +kernel
theorem dX1_init_25 : decode cX1_init 25 = .ok (.newarray .long, 2) := by decide +kernel
theorem dX1_init_27 : decode cX1_init 27 = .ok (.putfield 18, 3) := by decide +kernel
theorem dX1_init_30 : decode cX1_init 30 = .ok (.aload_n 0, 1) := by decide +kernel
theorem dX1_init_31 : decode cX1_init 31 = .ok (.bipush 64, 2) := by decide +kernel
theorem dX1_init_33 : decode cX1_init 33 = .ok (.newarray .long, 2) := by decide +kernel
theorem dX1_init_35 : decode cX1_init 35 = .ok (.putfield 21, 3) := by decide +kernel
theorem dX1_init_38 : decode cX1_init 38 = .ok (.return_, 1) := by decide +kernel
theorem dX1_hasCube_0 : decode cX1_hasCube 0 = .ok (.aload_n 0, 1) := by decide +kernel
theorem dX1_hasCube_1 : decode cX1_hasCube 1 = .ok (.getfield 24, 3) := by decide +kernel
theorem dX1_hasCube_4 : decode cX1_hasCube 4 = .ok (.iload_n 1, 1) := by decide +kernel
theorem dX1_hasCube_5 : decode cX1_hasCube 5 = .ok (.lushr, 1) := by decide +kernel
theorem dX1_hasCube_6 : decode cX1_hasCube 6 = .ok (.lconst 1, 1) := by decide +kernel
theorem dX1_hasCube_7 : decode cX1_hasCube 7 = .ok (.land, 1) := by decide +kernel
theorem dX1_hasCube_8 : decode cX1_hasCube 8 = .ok (.lconst 0, 1) := by decide +kernel
theorem dX1_hasCube_9 : decode cX1_hasCube 9 = .ok (.lcmp, 1) := by decide +kernel
theorem dX1_hasCube_10 : decode cX1_hasCube 10 = .ok (.ifCond .eq 7, 3) := by decide +kernel
theorem dX1_hasCube_13 : decode cX1_hasCube 13 = .ok (.iconst 1, 1) := by decide +kernel
theorem dX1_hasCube_14 : decode cX1_hasCube 14 = .ok (.goto 4, 3) := by decide +kernel
theorem dX1_hasCube_17 : decode cX1_hasCube 17 = .ok (.iconst 0, 1) := by decide +kernel
theorem dX1_hasCube_18 : decode cX1_hasCube 18 = .ok (.ireturn, 1) := by decide +kernel
theorem dX1_cubeCount_0 : decode cX1_cubeCount 0 = .ok (.aload_n 0, 1) := by decide +kernel
theorem dX1_cubeCount_1 : decode cX1_cubeCount 1 = .ok (.getfield 24, 3) := by decide +kernel
theorem dX1_cubeCount_4 : decode cX1_cubeCount 4 = .ok (.invokestatic 28, 3) := by decide +kernel
theorem dX1_cubeCount_7 : decode cX1_cubeCount 7 = .ok (.ireturn, 1) := by decide +kernel
theorem dX1_flipCube_0 : decode cX1_flipCube 0 = .ok (.aload_n 0, 1) := by decide +kernel
theorem dX1_flipCube_1 : decode cX1_flipCube 1 = .ok (.dup, 1) := by decide +kernel
theorem dX1_flipCube_2 : decode cX1_flipCube 2 = .ok (.getfield 24, 3) := by decide +kernel
theorem dX1_flipCube_5 : decode cX1_flipCube 5 = .ok (.lconst 1, 1) := by decide +kernel
theorem dX1_flipCube_6 : decode cX1_flipCube 6 = .ok (.iload_n 1, 1) := by decide +kernel
theorem dX1_flipCube_7 : decode cX1_flipCube 7 = .ok (.lshl, 1) := by decide +kernel
theorem dX1_flipCube_8 : decode cX1_flipCube 8 = .ok (.lxor, 1) := by decide +kernel
theorem dX1_flipCube_9 : decode cX1_flipCube 9 = .ok (.putfield 24, 3) := by decide +kernel
theorem dX1_flipCube_12 : decode cX1_flipCube 12 = .ok (.aload_n 0, 1) := by decide +kernel
theorem dX1_flipCube_13 : decode cX1_flipCube 13 = .ok (.invokevirtual 34, 3) := by decide +kernel
theorem dX1_flipCube_16 : decode cX1_flipCube 16 = .ok (.return_, 1) := by decide +kernel
theorem dX1_allowMirror_0 : decode cX1_allowMirror 0 = .ok (.aload_n 0, 1) := by decide +kernel
theorem dX1_allowMirror_1 : decode cX1_allowMirror 1 = .ok (.iload_n 1, 1) := by decide +kernel
theorem dX1_allowMirror_2 : decode cX1_allowMirror 2 = .ok (.putfield 37, 3) := by decide +kernel
theorem dX1_allowMirror_5 : decode cX1_allowMirror 5 = .ok (.aload_n 0, 1) := by decide +kernel
theorem dX1_allowMirror_6 : decode cX1_allowMirror 6 = .ok (.invokevirtual 34, 3) := by decide +kernel
theorem dX1_allowMirror_9 : decode cX1_allowMirror 9 = .ok (.return_, 1) := by decide +kernel
theorem dX1_countShapes_0 : decode cX1_countShapes 0 = .ok (.aload_n 0, 1) := by decide +kernel
theorem dX1_countShapes_1 : decode cX1_countShapes 1 = .ok (.invokevirtual 41, 3) := by decide +kernel
theorem dX1_countShapes_4 : decode cX1_countShapes 4 = .ok (.aload_n 0, 1) := by decide +kernel
theorem dX1_countShapes_5 : decode cX1_countShapes 5 = .ok (.getfield 44, 3) := by decide +kernel
theorem dX1_countShapes_8 : decode cX1_countShapes 8 = .ok (.ireturn, 1) := by decide +kernel
theorem dX1_shapeAt_0 : decode cX1_shapeAt 0 = .ok (.aload_n 0, 1) := by decide +kernel
theorem dX1_shapeAt_1 : decode cX1_shapeAt 1 = .ok (.getfield 11, 3) := by decide +kernel
theorem dX1_shapeAt_4 : decode cX1_shapeAt 4 = .ok (.iload_n 1, 1) := by decide +kernel
theorem dX1_shapeAt_5 : decode cX1_shapeAt 5 = .ok (.laload, 1) := by decide +kernel
theorem dX1_shapeAt_6 : decode cX1_shapeAt 6 = .ok (.lreturn, 1) := by decide +kernel
theorem dX1_hasShape_0 : decode cX1_hasShape 0 = .ok (.aload_n 0, 1) := by decide +kernel
theorem dX1_hasShape_1 : decode cX1_hasShape 1 = .ok (.invokevirtual 48, 3) := by decide +kernel
theorem dX1_hasShape_4 : decode cX1_hasShape 4 = .ok (.istore_n 3, 1) := by decide +kernel
theorem dX1_hasShape_5 : decode cX1_hasShape 5 = .ok (.iconst 0, 1) := by decide +kernel
theorem dX1_hasShape_6 : decode cX1_hasShape 6 = .ok (.istore 4, 2) := by decide +kernel
theorem dX1_hasShape_8 : decode cX1_hasShape 8 = .ok (.iload 4, 2) := by decide +kernel
theorem dX1_hasShape_10 : decode cX1_hasShape 10 = .ok (.iload_n 3, 1) := by decide +kernel
theorem dX1_hasShape_11 : decode cX1_hasShape 11 = .ok (.if_icmp .ge 23, 3) := by decide +kernel
theorem dX1_hasShape_14 : decode cX1_hasShape 14 = .ok (.aload_n 0, 1) := by decide +kernel
theorem dX1_hasShape_15 : decode cX1_hasShape 15 = .ok (.getfield 11, 3) := by decide +kernel
theorem dX1_hasShape_18 : decode cX1_hasShape 18 = .ok (.iload 4, 2) := by decide +kernel
theorem dX1_hasShape_20 : decode cX1_hasShape 20 = .ok (.laload, 1) := by decide +kernel
theorem dX1_hasShape_21 : decode cX1_hasShape 21 = .ok (.lload_n 1, 1) := by decide +kernel
theorem dX1_hasShape_22 : decode cX1_hasShape 22 = .ok (.lcmp, 1) := by decide +kernel
theorem dX1_hasShape_23 : decode cX1_hasShape 23 = .ok (.ifCond .ne 5, 3) := by decide +kernel
theorem dX1_hasShape_26 : decode cX1_hasShape 26 = .ok (.iconst 1, 1) := by decide +kernel
theorem dX1_hasShape_27 : decode cX1_hasShape 27 = .ok (.ireturn, 1) := by decide +kernel
theorem dX1_hasShape_28 : decode cX1_hasShape 28 = .ok (.iinc 4 1, 3) := by decide +kernel
theorem dX1_hasShape_31 : decode cX1_hasShape 31 = .ok (.goto (-23), 3) := by decide +kernel
theorem dX1_hasShape_34 : decode cX1_hasShape 34 = .ok (.iconst 0, 1) := by decide +kernel
theorem dX1_hasShape_35 : decode cX1_hasShape 35 = .ok (.ireturn, 1) := by decide +kernel
theorem dX1_countPlaces_0 : decode cX1_countPlaces 0 = .ok (.aload_n 0, 1) := by decide +kernel
theorem dX1_countPlaces_1 : decode cX1_countPlaces 1 = .ok (.getfield 52, 3) := by decide +kernel
theorem dX1_countPlaces_4 : decode cX1_countPlaces 4 = .ok (.ireturn, 1) := by decide +kernel
theorem dX1_placeAt_0 : decode cX1_placeAt 0 = .ok (.aload_n 0, 1) := by decide +kernel
theorem dX1_placeAt_1 : decode cX1_placeAt 1 = .ok (.getfield 15, 3) := by decide +kernel
theorem dX1_placeAt_4 : decode cX1_placeAt 4 = .ok (.iload_n 1, 1) := by decide +kernel
theorem dX1_placeAt_5 : decode cX1_placeAt 5 = .ok (.laload, 1) := by decide +kernel
theorem dX1_placeAt_6 : decode cX1_placeAt 6 = .ok (.lreturn, 1) := by decide +kernel
theorem dX1_countWords_0 : decode cX1_countWords 0 = .ok (.aload_n 0, 1) := by decide +kernel
theorem dX1_countWords_1 : decode cX1_countWords 1 = .ok (.getfield 52, 3) := by decide +kernel
theorem dX1_countWords_4 : decode cX1_countWords 4 = .ok (.bipush 63, 2) := by decide +kernel
theorem dX1_countWords_6 : decode cX1_countWords 6 = .ok (.iadd, 1) := by decide +kernel
theorem dX1_countWords_7 : decode cX1_countWords 7 = .ok (.bipush 64, 2) := by decide +kernel
theorem dX1_countWords_9 : decode cX1_countWords 9 = .ok (.idiv, 1) := by decide +kernel
theorem dX1_countWords_10 : decode cX1_countWords 10 = .ok (.ireturn, 1) := by decide +kernel
theorem dX1_wordOf_0 : decode cX1_wordOf 0 = .ok (.aload_n 0, 1) := by decide +kernel
theorem dX1_wordOf_1 : decode cX1_wordOf 1 = .ok (.getfield 18, 3) := by decide +kernel
theorem dX1_wordOf_4 : decode cX1_wordOf 4 = .ok (.iload_n 1, 1) := by decide +kernel
theorem dX1_wordOf_5 : decode cX1_wordOf 5 = .ok (.bipush 14, 2) := by decide +kernel
theorem dX1_wordOf_7 : decode cX1_wordOf 7 = .ok (.imul, 1) := by decide +kernel
theorem dX1_wordOf_8 : decode cX1_wordOf 8 = .ok (.iload_n 2, 1) := by decide +kernel
theorem dX1_wordOf_9 : decode cX1_wordOf 9 = .ok (.iadd, 1) := by decide +kernel
theorem dX1_wordOf_10 : decode cX1_wordOf 10 = .ok (.laload, 1) := by decide +kernel
theorem dX1_wordOf_11 : decode cX1_wordOf 11 = .ok (.lreturn, 1) := by decide +kernel
theorem dX1_learnPlaces_0 : decode cX1_learnPlaces 0 = .ok (.aload_n 0, 1) := by decide +kernel
theorem dX1_learnPlaces_1 : decode cX1_learnPlaces 1 = .ok (.invokevirtual 41, 3) := by decide +kernel
theorem dX1_learnPlaces_4 : decode cX1_learnPlaces 4 = .ok (.aload_n 0, 1) := by decide +kernel
theorem dX1_learnPlaces_5 : decode cX1_learnPlaces 5 = .ok (.getfield 55, 3) := by decide +kernel
theorem dX1_learnPlaces_8 : decode cX1_learnPlaces 8 = .ok (.ifCond .eq 13, 3) := by decide +kernel
theorem dX1_learnPlaces_11 : decode cX1_learnPlaces 11 = .ok (.aload_n 0, 1) := by decide +kernel
theorem dX1_learnPlaces_12 : decode cX1_learnPlaces 12 = .ok (.getfield 58, 3) := by decide +kernel
theorem dX1_learnPlaces_15 : decode cX1_learnPlaces 15 = .ok (.lload_n 1, 1) := by decide +kernel
theorem dX1_learnPlaces_16 : decode cX1_learnPlaces 16 = .ok (.lcmp, 1) := by decide +kernel
theorem dX1_learnPlaces_17 : decode cX1_learnPlaces 17 = .ok (.ifCond .ne 4, 3) := by decide +kernel
theorem dX1_learnPlaces_20 : decode cX1_learnPlaces 20 = .ok (.return_, 1) := by decide +kernel
theorem dX1_learnPlaces_21 : decode cX1_learnPlaces 21 = .ok (.aload_n 0, 1) := by decide +kernel
theorem dX1_learnPlaces_22 : decode cX1_learnPlaces 22 = .ok (.iconst 0, 1) := by decide +kernel
theorem dX1_learnPlaces_23 : decode cX1_learnPlaces 23 = .ok (.putfield 52, 3) := by decide +kernel
theorem dX1_learnPlaces_26 : decode cX1_learnPlaces 26 = .ok (.iconst 0, 1) := by decide +kernel
theorem dX1_learnPlaces_27 : decode cX1_learnPlaces 27 = .ok (.istore_n 3, 1) := by decide +kernel
theorem dX1_learnPlaces_28 : decode cX1_learnPlaces 28 = .ok (.iload_n 3, 1) := by decide +kernel
theorem dX1_learnPlaces_29 : decode cX1_learnPlaces 29 = .ok (.aload_n 0, 1) := by decide +kernel
theorem dX1_learnPlaces_30 : decode cX1_learnPlaces 30 = .ok (.getfield 44, 3) := by decide +kernel
theorem dX1_learnPlaces_33 : decode cX1_learnPlaces 33 = .ok (.if_icmp .ge 24, 3) := by decide +kernel
theorem dX1_learnPlaces_36 : decode cX1_learnPlaces 36 = .ok (.aload_n 0, 1) := by decide +kernel
theorem dX1_learnPlaces_37 : decode cX1_learnPlaces 37 = .ok (.aload_n 0, 1) := by decide +kernel
theorem dX1_learnPlaces_38 : decode cX1_learnPlaces 38 = .ok (.aload_n 0, 1) := by decide +kernel
theorem dX1_learnPlaces_39 : decode cX1_learnPlaces 39 = .ok (.getfield 11, 3) := by decide +kernel
theorem dX1_learnPlaces_42 : decode cX1_learnPlaces 42 = .ok (.iload_n 3, 1) := by decide +kernel
theorem dX1_learnPlaces_43 : decode cX1_learnPlaces 43 = .ok (.laload, 1) := by decide +kernel
theorem dX1_learnPlaces_44 : decode cX1_learnPlaces 44 = .ok (.lload_n 1, 1) := by decide +kernel
theorem dX1_learnPlaces_45 : decode cX1_learnPlaces 45 = .ok (.invokevirtual 61, 3) := by decide +kernel
theorem dX1_learnPlaces_48 : decode cX1_learnPlaces 48 = .ok (.invokevirtual 65, 3) := by decide +kernel
theorem dX1_learnPlaces_51 : decode cX1_learnPlaces 51 = .ok (.iinc 3 1, 3) := by decide +kernel
theorem dX1_learnPlaces_54 : decode cX1_learnPlaces 54 = .ok (.goto (-26), 3) := by decide +kernel
theorem dX1_learnPlaces_57 : decode cX1_learnPlaces 57 = .ok (.aload_n 0, 1) := by decide +kernel
theorem dX1_learnPlaces_58 : decode cX1_learnPlaces 58 = .ok (.invokevirtual 69, 3) := by decide +kernel
theorem dX1_learnPlaces_61 : decode cX1_learnPlaces 61 = .ok (.aload_n 0, 1) := by decide +kernel
theorem dX1_learnPlaces_62 : decode cX1_learnPlaces 62 = .ok (.lload_n 1, 1) := by decide +kernel
theorem dX1_learnPlaces_63 : decode cX1_learnPlaces 63 = .ok (.putfield 58, 3) := by decide +kernel
theorem dX1_learnPlaces_66 : decode cX1_learnPlaces 66 = .ok (.aload_n 0, 1) := by decide +kernel
theorem dX1_learnPlaces_67 : decode cX1_learnPlaces 67 = .ok (.iconst 1, 1) := by decide +kernel
theorem dX1_learnPlaces_68 : decode cX1_learnPlaces 68 = .ok (.putfield 55, 3) := by decide +kernel
theorem dX1_learnPlaces_71 : decode cX1_learnPlaces 71 = .ok (.return_, 1) := by decide +kernel
theorem dX1_forget_0 : decode cX1_forget 0 = .ok (.aload_n 0, 1) := by decide +kernel
theorem dX1_forget_1 : decode cX1_forget 1 = .ok (.iconst 0, 1) := by decide +kernel
theorem dX1_forget_2 : decode cX1_forget 2 = .ok (.putfield 72, 3) := by decide +kernel
theorem dX1_forget_5 : decode cX1_forget 5 = .ok (.aload_n 0, 1) := by decide +kernel
theorem dX1_forget_6 : decode cX1_forget 6 = .ok (.iconst 0, 1) := by decide +kernel
theorem dX1_forget_7 : decode cX1_forget 7 = .ok (.putfield 55, 3) := by decide +kernel
theorem dX1_forget_10 : decode cX1_forget 10 = .ok (.return_, 1) := by decide +kernel
theorem dX1_learnShapes_0 : decode cX1_learnShapes 0 = .ok (.aload_n 0, 1) := by decide +kernel
theorem dX1_learnShapes_1 : decode cX1_learnShapes 1 = .ok (.getfield 72, 3) := by decide +kernel
theorem dX1_learnShapes_4 : decode cX1_learnShapes 4 = .ok (.ifCond .eq 4, 3) := by decide +kernel
theorem dX1_learnShapes_7 : decode cX1_learnShapes 7 = .ok (.return_, 1) := by decide +kernel
theorem dX1_learnShapes_8 : decode cX1_learnShapes 8 = .ok (.aload_n 0, 1) := by decide +kernel
theorem dX1_learnShapes_9 : decode cX1_learnShapes 9 = .ok (.iconst 0, 1) := by decide +kernel
theorem dX1_learnShapes_10 : decode cX1_learnShapes 10 = .ok (.putfield 44, 3) := by decide +kernel
theorem dX1_learnShapes_13 : decode cX1_learnShapes 13 = .ok (.aload_n 0, 1) := by decide +kernel
theorem dX1_learnShapes_14 : decode cX1_learnShapes 14 = .ok (.getfield 24, 3) := by decide +kernel
theorem dX1_learnShapes_17 : decode cX1_learnShapes 17 = .ok (.invokestatic 75, 3) := by decide +kernel
theorem dX1_learnShapes_20 : decode cX1_learnShapes 20 = .ok (.ifCond .eq 46, 3) := by decide +kernel
theorem dX1_learnShapes_23 : decode cX1_learnShapes 23 = .ok (.iconst 0, 1) := by decide +kernel
theorem dX1_learnShapes_24 : decode cX1_learnShapes 24 = .ok (.istore_n 1, 1) := by decide +kernel
theorem dX1_learnShapes_25 : decode cX1_learnShapes 25 = .ok (.iload_n 1, 1) := by decide +kernel
theorem dX1_learnShapes_26 : decode cX1_learnShapes 26 = .ok (.bipush 48, 2) := by decide +kernel
theorem dX1_learnShapes_28 : decode cX1_learnShapes 28 = .ok (.if_icmp .ge 38, 3) := by decide +kernel
theorem dX1_learnShapes_31 : decode cX1_learnShapes 31 = .ok (.aload_n 0, 1) := by decide +kernel
theorem dX1_learnShapes_32 : decode cX1_learnShapes 32 = .ok (.getfield 37, 3) := by decide +kernel
theorem dX1_learnShapes_35 : decode cX1_learnShapes 35 = .ok (.ifCond .ne 10, 3) := by decide +kernel
theorem dX1_learnShapes_38 : decode cX1_learnShapes 38 = .ok (.iload_n 1, 1) := by decide +kernel
theorem dX1_learnShapes_39 : decode cX1_learnShapes 39 = .ok (.invokestatic 81, 3) := by decide +kernel
theorem dX1_learnShapes_42 : decode cX1_learnShapes 42 = .ok (.ifCond .ne 18, 3) := by decide +kernel
theorem dX1_learnShapes_45 : decode cX1_learnShapes 45 = .ok (.aload_n 0, 1) := by decide +kernel
theorem dX1_learnShapes_46 : decode cX1_learnShapes 46 = .ok (.aload_n 0, 1) := by decide +kernel
theorem dX1_learnShapes_47 : decode cX1_learnShapes 47 = .ok (.getfield 24, 3) := by decide +kernel
theorem dX1_learnShapes_50 : decode cX1_learnShapes 50 = .ok (.iload_n 1, 1) := by decide +kernel
theorem dX1_learnShapes_51 : decode cX1_learnShapes 51 = .ok (.invokestatic 85, 3) := by decide +kernel
theorem dX1_learnShapes_54 : decode cX1_learnShapes 54 = .ok (.invokestatic 89, 3) := by decide +kernel
theorem dX1_learnShapes_57 : decode cX1_learnShapes 57 = .ok (.invokevirtual 93, 3) := by decide +kernel
theorem dX1_learnShapes_60 : decode cX1_learnShapes 60 = .ok (.iinc 1 1, 3) := by decide +kernel
theorem dX1_learnShapes_63 : decode cX1_learnShapes 63 = .ok (.goto (-38), 3) := by decide +kernel
theorem dX1_learnShapes_66 : decode cX1_learnShapes 66 = .ok (.aload_n 0, 1) := by decide +kernel
theorem dX1_learnShapes_67 : decode cX1_learnShapes 67 = .ok (.iconst 1, 1) := by decide +kernel
theorem dX1_learnShapes_68 : decode cX1_learnShapes 68 = .ok (.putfield 72, 3) := by decide +kernel
theorem dX1_learnShapes_71 : decode cX1_learnShapes 71 = .ok (.return_, 1) := by decide +kernel
theorem dX1_addShape_0 : decode cX1_addShape 0 = .ok (.iconst 0, 1) := by decide +kernel
theorem dX1_addShape_1 : decode cX1_addShape 1 = .ok (.istore_n 3, 1) := by decide +kernel
theorem dX1_addShape_2 : decode cX1_addShape 2 = .ok (.iload_n 3, 1) := by decide +kernel
theorem dX1_addShape_3 : decode cX1_addShape 3 = .ok (.aload_n 0, 1) := by decide +kernel
theorem dX1_addShape_4 : decode cX1_addShape 4 = .ok (.getfield 44, 3) := by decide +kernel
theorem dX1_addShape_7 : decode cX1_addShape 7 = .ok (.if_icmp .ge 22, 3) := by decide +kernel
theorem dX1_addShape_10 : decode cX1_addShape 10 = .ok (.aload_n 0, 1) := by decide +kernel
theorem dX1_addShape_11 : decode cX1_addShape 11 = .ok (.getfield 11, 3) := by decide +kernel
theorem dX1_addShape_14 : decode cX1_addShape 14 = .ok (.iload_n 3, 1) := by decide +kernel
theorem dX1_addShape_15 : decode cX1_addShape 15 = .ok (.laload, 1) := by decide +kernel
theorem dX1_addShape_16 : decode cX1_addShape 16 = .ok (.lload_n 1, 1) := by decide +kernel
theorem dX1_addShape_17 : decode cX1_addShape 17 = .ok (.invokestatic 97, 3) := by decide +kernel
theorem dX1_addShape_20 : decode cX1_addShape 20 = .ok (.ifCond .eq 9, 3) := by decide +kernel
theorem dX1_addShape_23 : decode cX1_addShape 23 = .ok (.iinc 3 1, 3) := by decide +kernel
theorem dX1_addShape_26 : decode cX1_addShape 26 = .ok (.goto (-24), 3) := by decide +kernel
theorem dX1_addShape_29 : decode cX1_addShape 29 = .ok (.iload_n 3, 1) := by decide +kernel
theorem dX1_addShape_30 : decode cX1_addShape 30 = .ok (.aload_n 0, 1) := by decide +kernel
theorem dX1_addShape_31 : decode cX1_addShape 31 = .ok (.getfield 44, 3) := by decide +kernel
theorem dX1_addShape_34 : decode cX1_addShape 34 = .ok (.if_icmp .ge 14, 3) := by decide +kernel
theorem dX1_addShape_37 : decode cX1_addShape 37 = .ok (.aload_n 0, 1) := by decide +kernel
theorem dX1_addShape_38 : decode cX1_addShape 38 = .ok (.getfield 11, 3) := by decide +kernel
theorem dX1_addShape_41 : decode cX1_addShape 41 = .ok (.iload_n 3, 1) := by decide +kernel
theorem dX1_addShape_42 : decode cX1_addShape 42 = .ok (.laload, 1) := by decide +kernel
theorem dX1_addShape_43 : decode cX1_addShape 43 = .ok (.lload_n 1, 1) := by decide +kernel
theorem dX1_addShape_44 : decode cX1_addShape 44 = .ok (.lcmp, 1) := by decide +kernel
theorem dX1_addShape_45 : decode cX1_addShape 45 = .ok (.ifCond .eq 12, 3) := by decide +kernel
theorem dX1_addShape_48 : decode cX1_addShape 48 = .ok (.aload_n 0, 1) := by decide +kernel
theorem dX1_addShape_49 : decode cX1_addShape 49 = .ok (.getfield 44, 3) := by decide +kernel
theorem dX1_addShape_52 : decode cX1_addShape 52 = .ok (.bipush 48, 2) := by decide +kernel
theorem dX1_addShape_54 : decode cX1_addShape 54 = .ok (.if_icmp .lt 4, 3) := by decide +kernel
theorem dX1_addShape_57 : decode cX1_addShape 57 = .ok (.return_, 1) := by decide +kernel
theorem dX1_addShape_58 : decode cX1_addShape 58 = .ok (.aload_n 0, 1) := by decide +kernel
theorem dX1_addShape_59 : decode cX1_addShape 59 = .ok (.getfield 44, 3) := by decide +kernel
theorem dX1_addShape_62 : decode cX1_addShape 62 = .ok (.istore 4, 2) := by decide +kernel
theorem dX1_addShape_64 : decode cX1_addShape 64 = .ok (.iload 4, 2) := by decide +kernel
theorem dX1_addShape_66 : decode cX1_addShape 66 = .ok (.iload_n 3, 1) := by decide +kernel
theorem dX1_addShape_67 : decode cX1_addShape 67 = .ok (.if_icmp .le 25, 3) := by decide +kernel
theorem dX1_addShape_70 : decode cX1_addShape 70 = .ok (.aload_n 0, 1) := by decide +kernel
theorem dX1_addShape_71 : decode cX1_addShape 71 = .ok (.getfield 11, 3) := by decide +kernel
theorem dX1_addShape_74 : decode cX1_addShape 74 = .ok (.iload 4, 2) := by decide +kernel
theorem dX1_addShape_76 : decode cX1_addShape 76 = .ok (.aload_n 0, 1) := by decide +kernel
theorem dX1_addShape_77 : decode cX1_addShape 77 = .ok (.getfield 11, 3) := by decide +kernel
theorem dX1_addShape_80 : decode cX1_addShape 80 = .ok (.iload 4, 2) := by decide +kernel
theorem dX1_addShape_82 : decode cX1_addShape 82 = .ok (.iconst 1, 1) := by decide +kernel
theorem dX1_addShape_83 : decode cX1_addShape 83 = .ok (.isub, 1) := by decide +kernel
theorem dX1_addShape_84 : decode cX1_addShape 84 = .ok (.laload, 1) := by decide +kernel
theorem dX1_addShape_85 : decode cX1_addShape 85 = .ok (.lastore, 1) := by decide +kernel
theorem dX1_addShape_86 : decode cX1_addShape 86 = .ok (.iinc 4 (-1), 3) := by decide +kernel
theorem dX1_addShape_89 : decode cX1_addShape 89 = .ok (.goto (-25), 3) := by decide +kernel
theorem dX1_addShape_92 : decode cX1_addShape 92 = .ok (.aload_n 0, 1) := by decide +kernel
theorem dX1_addShape_93 : decode cX1_addShape 93 = .ok (.getfield 11, 3) := by decide +kernel
theorem dX1_addShape_96 : decode cX1_addShape 96 = .ok (.iload_n 3, 1) := by decide +kernel
theorem dX1_addShape_97 : decode cX1_addShape 97 = .ok (.lload_n 1, 1) := by decide +kernel
theorem dX1_addShape_98 : decode cX1_addShape 98 = .ok (.lastore, 1) := by decide +kernel
theorem dX1_addShape_99 : decode cX1_addShape 99 = .ok (.aload_n 0, 1) := by decide +kernel
theorem dX1_addShape_100 : decode cX1_addShape 100 = .ok (.dup, 1) := by decide +kernel
theorem dX1_addShape_101 : decode cX1_addShape 101 = .ok (.getfield 44, 3) := by decide +kernel
theorem dX1_addShape_104 : decode cX1_addShape 104 = .ok (.iconst 1, 1) := by decide +kernel
theorem dX1_addShape_105 : decode cX1_addShape 105 = .ok (.iadd, 1) := by decide +kernel
theorem dX1_addShape_106 : decode cX1_addShape 106 = .ok (.putfield 44, 3) := by decide +kernel
theorem dX1_addShape_109 : decode cX1_addShape 109 = .ok (.return_, 1) := by decide +kernel
theorem dX1_placeOneShape_0 : decode cX1_placeOneShape 0 = .ok (.iconst 3, 1) := by decide +kernel
theorem dX1_placeOneShape_1 : decode cX1_placeOneShape 1 = .ok (.lload_n 1, 1) := by decide +kernel
theorem dX1_placeOneShape_2 : decode cX1_placeOneShape 2 = .ok (.iconst 0, 1) := by decide +kernel
theorem dX1_placeOneShape_3 : decode cX1_placeOneShape 3 = .ok (.invokestatic 101, 3) := by decide +kernel
theorem dX1_placeOneShape_6 : decode cX1_placeOneShape 6 = .ok (.isub, 1) := by decide +kernel
theorem dX1_placeOneShape_7 : decode cX1_placeOneShape 7 = .ok (.istore 5, 2) := by decide +kernel
theorem dX1_placeOneShape_9 : decode cX1_placeOneShape 9 = .ok (.iconst 3, 1) := by decide +kernel
theorem dX1_placeOneShape_10 : decode cX1_placeOneShape 10 = .ok (.lload_n 1, 1) := by decide +kernel
theorem dX1_placeOneShape_11 : decode cX1_placeOneShape 11 = .ok (.iconst 1, 1) := by decide +kernel
theorem dX1_placeOneShape_12 : decode cX1_placeOneShape 12 = .ok (.invokestatic 101, 3) := by decide +kernel
theorem dX1_placeOneShape_15 : decode cX1_placeOneShape 15 = .ok (.isub, 1) := by decide +kernel
theorem dX1_placeOneShape_16 : decode cX1_placeOneShape 16 = .ok (.istore 6, 2) := by decide +kernel
theorem dX1_placeOneShape_18 : decode cX1_placeOneShape 18 = .ok (.iconst 3, 1) := by decide +kernel
theorem dX1_placeOneShape_19 : decode cX1_placeOneShape 19 = .ok (.lload_n 1, 1) := by decide +kernel
theorem dX1_placeOneShape_20 : decode cX1_placeOneShape 20 = .ok (.iconst 2, 1) := by decide +kernel
theorem dX1_placeOneShape_21 : decode cX1_placeOneShape 21 = .ok (.invokestatic 101, 3) := by decide +kernel
theorem dX1_placeOneShape_24 : decode cX1_placeOneShape 24 = .ok (.isub, 1) := by decide +kernel
theorem dX1_placeOneShape_25 : decode cX1_placeOneShape 25 = .ok (.istore 7, 2) := by decide +kernel
theorem dX1_placeOneShape_27 : decode cX1_placeOneShape 27 = .ok (.iconst 0, 1) := by decide +kernel
theorem dX1_placeOneShape_28 : decode cX1_placeOneShape 28 = .ok (.istore 8, 2) := by decide +kernel
theorem dX1_placeOneShape_30 : decode cX1_placeOneShape 30 = .ok (.iconst 0, 1) := by decide +kernel
theorem dX1_placeOneShape_31 : decode cX1_placeOneShape 31 = .ok (.istore 9, 2) := by decide +kernel
theorem dX1_placeOneShape_33 : decode cX1_placeOneShape 33 = .ok (.iload 9, 2) := by decide +kernel
theorem dX1_placeOneShape_35 : decode cX1_placeOneShape 35 = .ok (.iload 7, 2) := by decide +kernel
theorem dX1_placeOneShape_37 : decode cX1_placeOneShape 37 = .ok (.if_icmp .gt 83, 3) := by decide +kernel
theorem dX1_placeOneShape_40 : decode cX1_placeOneShape 40 = .ok (.iconst 0, 1) := by decide +kernel
theorem dX1_placeOneShape_41 : decode cX1_placeOneShape 41 = .ok (.istore 10, 2) := by decide +kernel
theorem dX1_placeOneShape_43 : decode cX1_placeOneShape 43 = .ok (.iload 10, 2) := by decide +kernel
theorem dX1_placeOneShape_45 : decode cX1_placeOneShape 45 = .ok (.iload 6, 2) := by decide +kernel
theorem dX1_placeOneShape_47 : decode cX1_placeOneShape 47 = .ok (.if_icmp .gt 67, 3) := by decide +kernel
theorem dX1_placeOneShape_50 : decode cX1_placeOneShape 50 = .ok (.iconst 0, 1) := by decide +kernel
theorem dX1_placeOneShape_51 : decode cX1_placeOneShape 51 = .ok (.istore 11, 2) := by decide +kernel
theorem dX1_placeOneShape_53 : decode cX1_placeOneShape 53 = .ok (.iload 11, 2) := by decide +kernel
theorem dX1_placeOneShape_55 : decode cX1_placeOneShape 55 = .ok (.iload 5, 2) := by decide +kernel
theorem dX1_placeOneShape_57 : decode cX1_placeOneShape 57 = .ok (.if_icmp .gt 51, 3) := by decide +kernel
theorem dX1_placeOneShape_60 : decode cX1_placeOneShape 60 = .ok (.lload_n 1, 1) := by decide +kernel
theorem dX1_placeOneShape_61 : decode cX1_placeOneShape 61 = .ok (.iload 11, 2) := by decide +kernel
theorem dX1_placeOneShape_63 : decode cX1_placeOneShape 63 = .ok (.iconst 4, 1) := by decide +kernel
theorem dX1_placeOneShape_64 : decode cX1_placeOneShape 64 = .ok (.iload 10, 2) := by decide +kernel
theorem dX1_placeOneShape_66 : decode cX1_placeOneShape 66 = .ok (.imul, 1) := by decide +kernel
theorem dX1_placeOneShape_67 : decode cX1_placeOneShape 67 = .ok (.iadd, 1) := by decide +kernel
theorem dX1_placeOneShape_68 : decode cX1_placeOneShape 68 = .ok (.bipush 16, 2) := by decide +kernel
theorem dX1_placeOneShape_70 : decode cX1_placeOneShape 70 = .ok (.iload 9, 2) := by decide +kernel
theorem dX1_placeOneShape_72 : decode cX1_placeOneShape 72 = .ok (.imul, 1) := by decide +kernel
theorem dX1_placeOneShape_73 : decode cX1_placeOneShape 73 = .ok (.iadd, 1) := by decide +kernel
theorem dX1_placeOneShape_74 : decode cX1_placeOneShape 74 = .ok (.lshl, 1) := by decide +kernel
theorem dX1_placeOneShape_75 : decode cX1_placeOneShape 75 = .ok (.lstore 12, 2) := by decide +kernel
theorem dX1_placeOneShape_77 : decode cX1_placeOneShape 77 = .ok (.lload 12, 2) := by decide +kernel
theorem dX1_placeOneShape_79 : decode cX1_placeOneShape 79 = .ok (.lload_n 3, 1) := by decide +kernel
theorem dX1_placeOneShape_80 : decode cX1_placeOneShape 80 = .ok (.ldc2_w 105, 3) := by decide +kernel
theorem dX1_placeOneShape_83 : decode cX1_placeOneShape 83 = .ok (.lxor, 1) := by decide +kernel
theorem dX1_placeOneShape_84 : decode cX1_placeOneShape 84 = .ok (.land, 1) := by decide +kernel
theorem dX1_placeOneShape_85 : decode cX1_placeOneShape 85 = .ok (.lconst 0, 1) := by decide +kernel
theorem dX1_placeOneShape_86 : decode cX1_placeOneShape 86 = .ok (.lcmp, 1) := by decide +kernel
theorem dX1_placeOneShape_87 : decode cX1_placeOneShape 87 = .ok (.ifCond .ne 15, 3) := by decide +kernel
theorem dX1_placeOneShape_90 : decode cX1_placeOneShape 90 = .ok (.aload_n 0, 1) := by decide +kernel
theorem dX1_placeOneShape_91 : decode cX1_placeOneShape 91 = .ok (.getfield 21, 3) := by decide +kernel
theorem dX1_placeOneShape_94 : decode cX1_placeOneShape 94 = .ok (.iload 8, 2) := by decide +kernel
theorem dX1_placeOneShape_96 : decode cX1_placeOneShape 96 = .ok (.lload 12, 2) := by decide +kernel
theorem dX1_placeOneShape_98 : decode cX1_placeOneShape 98 = .ok (.lastore, 1) := by decide +kernel
theorem dX1_placeOneShape_99 : decode cX1_placeOneShape 99 = .ok (.iinc 8 1, 3) := by decide +kernel
theorem dX1_placeOneShape_102 : decode cX1_placeOneShape 102 = .ok (.iinc 11 1, 3) := by decide +kernel
theorem dX1_placeOneShape_105 : decode cX1_placeOneShape 105 = .ok (.goto (-52), 3) := by decide +kernel
theorem dX1_placeOneShape_108 : decode cX1_placeOneShape 108 = .ok (.iinc 10 1, 3) := by decide +kernel
theorem dX1_placeOneShape_111 : decode cX1_placeOneShape 111 = .ok (.goto (-68), 3) := by decide +kernel
theorem dX1_placeOneShape_114 : decode cX1_placeOneShape 114 = .ok (.iinc 9 1, 3) := by decide +kernel
theorem dX1_placeOneShape_117 : decode cX1_placeOneShape 117 = .ok (.goto (-84), 3) := by decide +kernel
theorem dX1_placeOneShape_120 : decode cX1_placeOneShape 120 = .ok (.iload 8, 2) := by decide +kernel
theorem dX1_placeOneShape_122 : decode cX1_placeOneShape 122 = .ok (.ireturn, 1) := by decide +kernel
theorem dX1_mergeIn_0 : decode cX1_mergeIn 0 = .ok (.aload_n 0, 1) := by decide +kernel
theorem dX1_mergeIn_1 : decode cX1_mergeIn 1 = .ok (.getfield 52, 3) := by decide +kernel
theorem dX1_mergeIn_4 : decode cX1_mergeIn 4 = .ok (.iload_n 1, 1) := by decide +kernel
theorem dX1_mergeIn_5 : decode cX1_mergeIn 5 = .ok (.iadd, 1) := by decide +kernel
theorem dX1_mergeIn_6 : decode cX1_mergeIn 6 = .ok (.sipush 896, 3) := by decide +kernel
theorem dX1_mergeIn_9 : decode cX1_mergeIn 9 = .ok (.if_icmp .le 4, 3) := by decide +kernel
theorem dX1_mergeIn_12 : decode cX1_mergeIn 12 = .ok (.return_, 1) := by decide +kernel
theorem dX1_mergeIn_13 : decode cX1_mergeIn 13 = .ok (.aload_n 0, 1) := by decide +kernel
theorem dX1_mergeIn_14 : decode cX1_mergeIn 14 = .ok (.getfield 52, 3) := by decide +kernel
theorem dX1_mergeIn_17 : decode cX1_mergeIn 17 = .ok (.iconst 1, 1) := by decide +kernel
theorem dX1_mergeIn_18 : decode cX1_mergeIn 18 = .ok (.isub, 1) := by decide +kernel
theorem dX1_mergeIn_19 : decode cX1_mergeIn 19 = .ok (.istore_n 2, 1) := by decide +kernel
theorem dX1_mergeIn_20 : decode cX1_mergeIn 20 = .ok (.iload_n 1, 1) := by decide +kernel
theorem dX1_mergeIn_21 : decode cX1_mergeIn 21 = .ok (.iconst 1, 1) := by decide +kernel
theorem dX1_mergeIn_22 : decode cX1_mergeIn 22 = .ok (.isub, 1) := by decide +kernel
theorem dX1_mergeIn_23 : decode cX1_mergeIn 23 = .ok (.istore_n 3, 1) := by decide +kernel
theorem dX1_mergeIn_24 : decode cX1_mergeIn 24 = .ok (.aload_n 0, 1) := by decide +kernel
theorem dX1_mergeIn_25 : decode cX1_mergeIn 25 = .ok (.dup, 1) := by decide +kernel
theorem dX1_mergeIn_26 : decode cX1_mergeIn 26 = .ok (.getfield 52, 3) := by decide +kernel
theorem dX1_mergeIn_29 : decode cX1_mergeIn 29 = .ok (.iload_n 1, 1) := by decide +kernel
theorem dX1_mergeIn_30 : decode cX1_mergeIn 30 = .ok (.iadd, 1) := by decide +kernel
theorem dX1_mergeIn_31 : decode cX1_mergeIn 31 = .ok (.putfield 52, 3) := by decide +kernel
theorem dX1_mergeIn_34 : decode cX1_mergeIn 34 = .ok (.aload_n 0, 1) := by decide +kernel
theorem dX1_mergeIn_35 : decode cX1_mergeIn 35 = .ok (.getfield 52, 3) := by decide +kernel
theorem dX1_mergeIn_38 : decode cX1_mergeIn 38 = .ok (.iconst 1, 1) := by decide +kernel
theorem dX1_mergeIn_39 : decode cX1_mergeIn 39 = .ok (.isub, 1) := by decide +kernel
theorem dX1_mergeIn_40 : decode cX1_mergeIn 40 = .ok (.istore 4, 2) := by decide +kernel
theorem dX1_mergeIn_42 : decode cX1_mergeIn 42 = .ok (.iload 4, 2) := by decide +kernel
theorem dX1_mergeIn_44 : decode cX1_mergeIn 44 = .ok (.ifCond .lt 70, 3) := by decide +kernel
theorem dX1_mergeIn_47 : decode cX1_mergeIn 47 = .ok (.iload_n 3, 1) := by decide +kernel
theorem dX1_mergeIn_48 : decode cX1_mergeIn 48 = .ok (.ifCond .lt 66, 3) := by decide +kernel
theorem dX1_mergeIn_51 : decode cX1_mergeIn 51 = .ok (.iload_n 2, 1) := by decide +kernel
theorem dX1_mergeIn_52 : decode cX1_mergeIn 52 = .ok (.ifCond .lt 40, 3) := by decide +kernel
theorem dX1_mergeIn_55 : decode cX1_mergeIn 55 = .ok (.aload_n 0, 1) := by decide +kernel
theorem dX1_mergeIn_56 : decode cX1_mergeIn 56 = .ok (.getfield 21, 3) := by decide +kernel
theorem dX1_mergeIn_59 : decode cX1_mergeIn 59 = .ok (.iload_n 3, 1) := by decide +kernel
theorem dX1_mergeIn_60 : decode cX1_mergeIn 60 = .ok (.laload, 1) := by decide +kernel
theorem dX1_mergeIn_61 : decode cX1_mergeIn 61 = .ok (.aload_n 0, 1) := by decide +kernel
theorem dX1_mergeIn_62 : decode cX1_mergeIn 62 = .ok (.getfield 15, 3) := by decide +kernel
theorem dX1_mergeIn_65 : decode cX1_mergeIn 65 = .ok (.iload_n 2, 1) := by decide +kernel
theorem dX1_mergeIn_66 : decode cX1_mergeIn 66 = .ok (.laload, 1) := by decide +kernel
theorem dX1_mergeIn_67 : decode cX1_mergeIn 67 = .ok (.invokestatic 97, 3) := by decide +kernel
theorem dX1_mergeIn_70 : decode cX1_mergeIn 70 = .ok (.ifCond .eq 22, 3) := by decide +kernel
theorem dX1_mergeIn_73 : decode cX1_mergeIn 73 = .ok (.aload_n 0, 1) := by decide +kernel
theorem dX1_mergeIn_74 : decode cX1_mergeIn 74 = .ok (.getfield 15, 3) := by decide +kernel
theorem dX1_mergeIn_77 : decode cX1_mergeIn 77 = .ok (.iload 4, 2) := by decide +kernel
theorem dX1_mergeIn_79 : decode cX1_mergeIn 79 = .ok (.aload_n 0, 1) := by decide +kernel
theorem dX1_mergeIn_80 : decode cX1_mergeIn 80 = .ok (.getfield 15, 3) := by decide +kernel
theorem dX1_mergeIn_83 : decode cX1_mergeIn 83 = .ok (.iload_n 2, 1) := by decide +kernel
theorem dX1_mergeIn_84 : decode cX1_mergeIn 84 = .ok (.laload, 1) := by decide +kernel
theorem dX1_mergeIn_85 : decode cX1_mergeIn 85 = .ok (.lastore, 1) := by decide +kernel
theorem dX1_mergeIn_86 : decode cX1_mergeIn 86 = .ok (.iinc 2 (-1), 3) := by decide +kernel
theorem dX1_mergeIn_89 : decode cX1_mergeIn 89 = .ok (.goto 19, 3) := by decide +kernel
theorem dX1_mergeIn_92 : decode cX1_mergeIn 92 = .ok (.aload_n 0, 1) := by decide +kernel
theorem dX1_mergeIn_93 : decode cX1_mergeIn 93 = .ok (.getfield 15, 3) := by decide +kernel
theorem dX1_mergeIn_96 : decode cX1_mergeIn 96 = .ok (.iload 4, 2) := by decide +kernel
theorem dX1_mergeIn_98 : decode cX1_mergeIn 98 = .ok (.aload_n 0, 1) := by decide +kernel
theorem dX1_mergeIn_99 : decode cX1_mergeIn 99 = .ok (.getfield 21, 3) := by decide +kernel
theorem dX1_mergeIn_102 : decode cX1_mergeIn 102 = .ok (.iload_n 3, 1) := by decide +kernel
theorem dX1_mergeIn_103 : decode cX1_mergeIn 103 = .ok (.laload, 1) := by decide +kernel
theorem dX1_mergeIn_104 : decode cX1_mergeIn 104 = .ok (.lastore, 1) := by decide +kernel
theorem dX1_mergeIn_105 : decode cX1_mergeIn 105 = .ok (.iinc 3 (-1), 3) := by decide +kernel
theorem dX1_mergeIn_108 : decode cX1_mergeIn 108 = .ok (.iinc 4 (-1), 3) := by decide +kernel
theorem dX1_mergeIn_111 : decode cX1_mergeIn 111 = .ok (.goto (-69), 3) := by decide +kernel
theorem dX1_mergeIn_114 : decode cX1_mergeIn 114 = .ok (.return_, 1) := by decide +kernel
theorem dX1_indexPlaces_0 : decode cX1_indexPlaces 0 = .ok (.aload_n 0, 1) := by decide +kernel
theorem dX1_indexPlaces_1 : decode cX1_indexPlaces 1 = .ok (.getfield 18, 3) := by decide +kernel
theorem dX1_indexPlaces_4 : decode cX1_indexPlaces 4 = .ok (.lconst 0, 1) := by decide +kernel
theorem dX1_indexPlaces_5 : decode cX1_indexPlaces 5 = .ok (.invokestatic 107, 3) := by decide +kernel
theorem dX1_indexPlaces_8 : decode cX1_indexPlaces 8 = .ok (.iconst 0, 1) := by decide +kernel
theorem dX1_indexPlaces_9 : decode cX1_indexPlaces 9 = .ok (.istore_n 1, 1) := by decide +kernel
theorem dX1_indexPlaces_10 : decode cX1_indexPlaces 10 = .ok (.iload_n 1, 1) := by decide +kernel
theorem dX1_indexPlaces_11 : decode cX1_indexPlaces 11 = .ok (.aload_n 0, 1) := by decide +kernel
theorem dX1_indexPlaces_12 : decode cX1_indexPlaces 12 = .ok (.getfield 52, 3) := by decide +kernel
theorem dX1_indexPlaces_15 : decode cX1_indexPlaces 15 = .ok (.if_icmp .ge 81, 3) := by decide +kernel
theorem dX1_indexPlaces_18 : decode cX1_indexPlaces 18 = .ok (.iload_n 1, 1) := by decide +kernel
theorem dX1_indexPlaces_19 : decode cX1_indexPlaces 19 = .ok (.bipush 64, 2) := by decide +kernel
theorem dX1_indexPlaces_21 : decode cX1_indexPlaces 21 = .ok (.idiv, 1) := by decide +kernel
theorem dX1_indexPlaces_22 : decode cX1_indexPlaces 22 = .ok (.istore_n 2, 1) := by decide +kernel
theorem dX1_indexPlaces_23 : decode cX1_indexPlaces 23 = .ok (.lconst 1, 1) := by decide +kernel
theorem dX1_indexPlaces_24 : decode cX1_indexPlaces 24 = .ok (.iload_n 1, 1) := by decide +kernel
theorem dX1_indexPlaces_25 : decode cX1_indexPlaces 25 = .ok (.bipush 64, 2) := by decide +kernel
theorem dX1_indexPlaces_27 : decode cX1_indexPlaces 27 = .ok (.irem, 1) := by decide +kernel
theorem dX1_indexPlaces_28 : decode cX1_indexPlaces 28 = .ok (.lshl, 1) := by decide +kernel
theorem dX1_indexPlaces_29 : decode cX1_indexPlaces 29 = .ok (.lstore_n 3, 1) := by decide +kernel
theorem dX1_indexPlaces_30 : decode cX1_indexPlaces 30 = .ok (.aload_n 0, 1) := by decide +kernel
theorem dX1_indexPlaces_31 : decode cX1_indexPlaces 31 = .ok (.getfield 18, 3) := by decide +kernel
theorem dX1_indexPlaces_34 : decode cX1_indexPlaces 34 = .ok (.sipush 896, 3) := by decide +kernel
theorem dX1_indexPlaces_37 : decode cX1_indexPlaces 37 = .ok (.iload_n 2, 1) := by decide +kernel
theorem dX1_indexPlaces_38 : decode cX1_indexPlaces 38 = .ok (.iadd, 1) := by decide +kernel
theorem dX1_indexPlaces_39 : decode cX1_indexPlaces 39 = .ok (.dup2, 1) := by decide +kernel
theorem dX1_indexPlaces_40 : decode cX1_indexPlaces 40 = .ok (.laload, 1) := by decide +kernel
theorem dX1_indexPlaces_41 : decode cX1_indexPlaces 41 = .ok (.lload_n 3, 1) := by decide +kernel
theorem dX1_indexPlaces_42 : decode cX1_indexPlaces 42 = .ok (.lor, 1) := by decide +kernel
theorem dX1_indexPlaces_43 : decode cX1_indexPlaces 43 = .ok (.lastore, 1) := by decide +kernel
theorem dX1_indexPlaces_44 : decode cX1_indexPlaces 44 = .ok (.aload_n 0, 1) := by decide +kernel
theorem dX1_indexPlaces_45 : decode cX1_indexPlaces 45 = .ok (.getfield 15, 3) := by decide +kernel
theorem dX1_indexPlaces_48 : decode cX1_indexPlaces 48 = .ok (.iload_n 1, 1) := by decide +kernel
theorem dX1_indexPlaces_49 : decode cX1_indexPlaces 49 = .ok (.laload, 1) := by decide +kernel
theorem dX1_indexPlaces_50 : decode cX1_indexPlaces 50 = .ok (.lstore 5, 2) := by decide +kernel
theorem dX1_indexPlaces_52 : decode cX1_indexPlaces 52 = .ok (.lload 5, 2) := by decide +kernel
theorem dX1_indexPlaces_54 : decode cX1_indexPlaces 54 = .ok (.lconst 0, 1) := by decide +kernel
theorem dX1_indexPlaces_55 : decode cX1_indexPlaces 55 = .ok (.lcmp, 1) := by decide +kernel
theorem dX1_indexPlaces_56 : decode cX1_indexPlaces 56 = .ok (.ifCond .eq 34, 3) := by decide +kernel
theorem dX1_indexPlaces_59 : decode cX1_indexPlaces 59 = .ok (.aload_n 0, 1) := by decide +kernel
theorem dX1_indexPlaces_60 : decode cX1_indexPlaces 60 = .ok (.getfield 18, 3) := by decide +kernel
theorem dX1_indexPlaces_63 : decode cX1_indexPlaces 63 = .ok (.lload 5, 2) := by decide +kernel
theorem dX1_indexPlaces_65 : decode cX1_indexPlaces 65 = .ok (.invokestatic 113, 3) := by decide +kernel
theorem dX1_indexPlaces_68 : decode cX1_indexPlaces 68 = .ok (.bipush 14, 2) := by decide +kernel
theorem dX1_indexPlaces_70 : decode cX1_indexPlaces 70 = .ok (.imul, 1) := by decide +kernel
theorem dX1_indexPlaces_71 : decode cX1_indexPlaces 71 = .ok (.iload_n 2, 1) := by decide +kernel
theorem dX1_indexPlaces_72 : decode cX1_indexPlaces 72 = .ok (.iadd, 1) := by decide +kernel
theorem dX1_indexPlaces_73 : decode cX1_indexPlaces 73 = .ok (.dup2, 1) := by decide +kernel
theorem dX1_indexPlaces_74 : decode cX1_indexPlaces 74 = .ok (.laload, 1) := by decide +kernel
theorem dX1_indexPlaces_75 : decode cX1_indexPlaces 75 = .ok (.lload_n 3, 1) := by decide +kernel
theorem dX1_indexPlaces_76 : decode cX1_indexPlaces 76 = .ok (.lor, 1) := by decide +kernel
theorem dX1_indexPlaces_77 : decode cX1_indexPlaces 77 = .ok (.lastore, 1) := by decide +kernel
theorem dX1_indexPlaces_78 : decode cX1_indexPlaces 78 = .ok (.lload 5, 2) := by decide +kernel
theorem dX1_indexPlaces_80 : decode cX1_indexPlaces 80 = .ok (.lload 5, 2) := by decide +kernel
theorem dX1_indexPlaces_82 : decode cX1_indexPlaces 82 = .ok (.lconst 1, 1) := by decide +kernel
theorem dX1_indexPlaces_83 : decode cX1_indexPlaces 83 = .ok (.lsub, 1) := by decide +kernel
theorem dX1_indexPlaces_84 : decode cX1_indexPlaces 84 = .ok (.land, 1) := by decide +kernel
theorem dX1_indexPlaces_85 : decode cX1_indexPlaces 85 = .ok (.lstore 5, 2) := by decide +kernel
theorem dX1_indexPlaces_87 : decode cX1_indexPlaces 87 = .ok (.goto (-35), 3) := by decide +kernel
theorem dX1_indexPlaces_90 : decode cX1_indexPlaces 90 = .ok (.iinc 1 1, 3) := by decide +kernel
theorem dX1_indexPlaces_93 : decode cX1_indexPlaces 93 = .ok (.goto (-83), 3) := by decide +kernel
theorem dX1_indexPlaces_96 : decode cX1_indexPlaces 96 = .ok (.return_, 1) := by decide +kernel
theorem dX2_init_0 : decode cX2_init 0 = .ok (.aload_n 0, 1) := by decide +kernel
theorem dX2_init_1 : decode cX2_init 1 = .ok (.invokespecial 3, 3) := by decide +kernel
theorem dX2_init_4 : decode cX2_init 4 = .ok (.aload_n 0, 1) := by decide +kernel
theorem dX2_init_5 : decode cX2_init 5 = .ok (.aload_n 1, 1) := by decide +kernel
theorem dX2_init_6 : decode cX2_init 6 = .ok (.putfield 9, 3) := by decide +kernel
theorem dX2_init_9 : decode cX2_init 9 = .ok (.aload_n 0, 1) := by decide +kernel
theorem dX2_init_10 : decode cX2_init 10 = .ok (.bipush 6, 2) := by decide +kernel
theorem dX2_init_12 : decode cX2_init 12 = .ok (.newarray .long, 2) := by decide +kernel
theorem dX2_init_14 : decode cX2_init 14 = .ok (.putfield 15, 3) := by decide +kernel
theorem dX2_init_17 : decode cX2_init 17 = .ok (.return_, 1) := by decide +kernel
theorem dX2_countTried_0 : decode cX2_countTried 0 = .ok (.aload_n 0, 1) := by decide +kernel
theorem dX2_countTried_1 : decode cX2_countTried 1 = .ok (.getfield 19, 3) := by decide +kernel
theorem dX2_countTried_4 : decode cX2_countTried 4 = .ok (.ireturn, 1) := by decide +kernel
theorem dX2_countFound_0 : decode cX2_countFound 0 = .ok (.aload_n 0, 1) := by decide +kernel
theorem dX2_countFound_1 : decode cX2_countFound 1 = .ok (.getfield 23, 3) := by decide +kernel
theorem dX2_countFound_4 : decode cX2_countFound 4 = .ok (.ireturn, 1) := by decide +kernel
theorem dX2_wasEnough_0 : decode cX2_wasEnough 0 = .ok (.aload_n 0, 1) := by decide +kernel
theorem dX2_wasEnough_1 : decode cX2_wasEnough 1 = .ok (.getfield 26, 3) := by decide +kernel
theorem dX2_wasEnough_4 : decode cX2_wasEnough 4 = .ok (.ireturn, 1) := by decide +kernel
theorem dX2_hasWanted_0 : decode cX2_hasWanted 0 = .ok (.aload_n 0, 1) := by decide +kernel
theorem dX2_hasWanted_1 : decode cX2_hasWanted 1 = .ok (.getfield 30, 3) := by decide +kernel
theorem dX2_hasWanted_4 : decode cX2_hasWanted 4 = .ok (.iconst (-1), 1) := by decide +kernel
theorem dX2_hasWanted_5 : decode cX2_hasWanted 5 = .ok (.if_icmp .eq 18, 3) := by decide +kernel
theorem dX2_hasWanted_8 : decode cX2_hasWanted 8 = .ok (.aload_n 0, 1) := by decide +kernel
theorem dX2_hasWanted_9 : decode cX2_hasWanted 9 = .ok (.getfield 23, 3) := by decide +kernel
theorem dX2_hasWanted_12 : decode cX2_hasWanted 12 = .ok (.aload_n 0, 1) := by decide +kernel
theorem dX2_hasWanted_13 : decode cX2_hasWanted 13 = .ok (.getfield 30, 3) := by decide +kernel
theorem dX2_hasWanted_16 : decode cX2_hasWanted 16 = .ok (.if_icmp .le 7, 3) := by decide +kernel
theorem dX2_hasWanted_19 : decode cX2_hasWanted 19 = .ok (.iconst 1, 1) := by decide +kernel
theorem dX2_hasWanted_20 : decode cX2_hasWanted 20 = .ok (.goto 4, 3) := by decide +kernel
theorem dX2_hasWanted_23 : decode cX2_hasWanted 23 = .ok (.iconst 0, 1) := by decide +kernel
theorem dX2_hasWanted_24 : decode cX2_hasWanted 24 = .ok (.ireturn, 1) := by decide +kernel
theorem dX2_chosenFor_0 : decode cX2_chosenFor 0 = .ok (.aload_n 0, 1) := by decide +kernel
theorem dX2_chosenFor_1 : decode cX2_chosenFor 1 = .ok (.getfield 15, 3) := by decide +kernel
theorem dX2_chosenFor_4 : decode cX2_chosenFor 4 = .ok (.iload_n 1, 1) := by decide +kernel
theorem dX2_chosenFor_5 : decode cX2_chosenFor 5 = .ok (.laload, 1) := by decide +kernel
theorem dX2_chosenFor_6 : decode cX2_chosenFor 6 = .ok (.lreturn, 1) := by decide +kernel
theorem dX2_run_0 : decode cX2_run 0 = .ok (.aload_n 0, 1) := by decide +kernel
theorem dX2_run_1 : decode cX2_run 1 = .ok (.lload_n 1, 1) := by decide +kernel
theorem dX2_run_2 : decode cX2_run 2 = .ok (.putfield 33, 3) := by decide +kernel
theorem dX2_run_5 : decode cX2_run 5 = .ok (.aload_n 0, 1) := by decide +kernel
theorem dX2_run_6 : decode cX2_run 6 = .ok (.iload 5, 2) := by decide +kernel
theorem dX2_run_8 : decode cX2_run 8 = .ok (.putfield 37, 3) := by decide +kernel
theorem dX2_run_11 : decode cX2_run 11 = .ok (.aload_n 0, 1) := by decide +kernel
theorem dX2_run_12 : decode cX2_run 12 = .ok (.iload 6, 2) := by decide +kernel
theorem dX2_run_14 : decode cX2_run 14 = .ok (.putfield 30, 3) := by decide +kernel
theorem dX2_run_17 : decode cX2_run 17 = .ok (.aload_n 0, 1) := by decide +kernel
theorem dX2_run_18 : decode cX2_run 18 = .ok (.iconst 0, 1) := by decide +kernel
theorem dX2_run_19 : decode cX2_run 19 = .ok (.putfield 19, 3) := by decide +kernel
theorem dX2_run_22 : decode cX2_run 22 = .ok (.aload_n 0, 1) := by decide +kernel
theorem dX2_run_23 : decode cX2_run 23 = .ok (.iconst 0, 1) := by decide +kernel
theorem dX2_run_24 : decode cX2_run 24 = .ok (.putfield 23, 3) := by decide +kernel
theorem dX2_run_27 : decode cX2_run 27 = .ok (.aload_n 0, 1) := by decide +kernel
theorem dX2_run_28 : decode cX2_run 28 = .ok (.iconst 0, 1) := by decide +kernel
theorem dX2_run_29 : decode cX2_run 29 = .ok (.putfield 40, 3) := by decide +kernel
theorem dX2_run_32 : decode cX2_run 32 = .ok (.aload_n 0, 1) := by decide +kernel
theorem dX2_run_33 : decode cX2_run 33 = .ok (.iconst 1, 1) := by decide +kernel
theorem dX2_run_34 : decode cX2_run 34 = .ok (.putfield 26, 3) := by decide +kernel
theorem dX2_run_37 : decode cX2_run 37 = .ok (.iconst 0, 1) := by decide +kernel
theorem dX2_run_38 : decode cX2_run 38 = .ok (.istore 7, 2) := by decide +kernel
theorem dX2_run_40 : decode cX2_run 40 = .ok (.iconst 0, 1) := by decide +kernel
theorem dX2_run_41 : decode cX2_run 41 = .ok (.istore 8, 2) := by decide +kernel
theorem dX2_run_43 : decode cX2_run 43 = .ok (.iload 8, 2) := by decide +kernel
theorem dX2_run_45 : decode cX2_run 45 = .ok (.bipush 6, 2) := by decide +kernel
theorem dX2_run_47 : decode cX2_run 47 = .ok (.if_icmp .ge 52, 3) := by decide +kernel
theorem dX2_run_50 : decode cX2_run 50 = .ok (.aload_n 0, 1) := by decide +kernel
theorem dX2_run_51 : decode cX2_run 51 = .ok (.getfield 15, 3) := by decide +kernel
theorem dX2_run_54 : decode cX2_run 54 = .ok (.iload 8, 2) := by decide +kernel
theorem dX2_run_56 : decode cX2_run 56 = .ok (.lconst 0, 1) := by decide +kernel
theorem dX2_run_57 : decode cX2_run 57 = .ok (.lastore, 1) := by decide +kernel
theorem dX2_run_58 : decode cX2_run 58 = .ok (.aload_n 0, 1) := by decide +kernel
theorem dX2_run_59 : decode cX2_run 59 = .ok (.getfield 9, 3) := by decide +kernel
theorem dX2_run_62 : decode cX2_run 62 = .ok (.iload 8, 2) := by decide +kernel
theorem dX2_run_64 : decode cX2_run 64 = .ok (.aaload, 1) := by decide +kernel
theorem dX2_run_65 : decode cX2_run 65 = .ok (.invokevirtual 43, 3) := by decide +kernel
theorem dX2_run_68 : decode cX2_run 68 = .ok (.ifCond .le 25, 3) := by decide +kernel
theorem dX2_run_71 : decode cX2_run 71 = .ok (.aload_n 0, 1) := by decide +kernel
theorem dX2_run_72 : decode cX2_run 72 = .ok (.getfield 9, 3) := by decide +kernel
theorem dX2_run_75 : decode cX2_run 75 = .ok (.iload 8, 2) := by decide +kernel
theorem dX2_run_77 : decode cX2_run 77 = .ok (.aaload, 1) := by decide +kernel
theorem dX2_run_78 : decode cX2_run 78 = .ok (.lload_n 1, 1) := by decide +kernel
theorem dX2_run_79 : decode cX2_run 79 = .ok (.lload_n 3, 1) := by decide +kernel
theorem dX2_run_80 : decode cX2_run 80 = .ok (.lor, 1) := by decide +kernel
theorem dX2_run_81 : decode cX2_run 81 = .ok (.invokevirtual 49, 3) := by decide +kernel
theorem dX2_run_84 : decode cX2_run 84 = .ok (.iload 7, 2) := by decide +kernel
theorem dX2_run_86 : decode cX2_run 86 = .ok (.iconst 1, 1) := by decide +kernel
theorem dX2_run_87 : decode cX2_run 87 = .ok (.iload 8, 2) := by decide +kernel
theorem dX2_run_89 : decode cX2_run 89 = .ok (.ishl, 1) := by decide +kernel
theorem dX2_run_90 : decode cX2_run 90 = .ok (.ior, 1) := by decide +kernel
theorem dX2_run_91 : decode cX2_run 91 = .ok (.istore 7, 2) := by decide +kernel
theorem dX2_run_93 : decode cX2_run 93 = .ok (.iinc 8 1, 3) := by decide +kernel
theorem dX2_run_96 : decode cX2_run 96 = .ok (.goto (-53), 3) := by decide +kernel
theorem dX2_run_99 : decode cX2_run 99 = .ok (.aload_n 0, 1) := by decide +kernel
theorem dX2_run_100 : decode cX2_run 100 = .ok (.iconst 0, 1) := by decide +kernel
theorem dX2_run_101 : decode cX2_run 101 = .ok (.lconst 0, 1) := by decide +kernel
theorem dX2_run_102 : decode cX2_run 102 = .ok (.iload 7, 2) := by decide +kernel
theorem dX2_run_104 : decode cX2_run 104 = .ok (.invokevirtual 53, 3) := by decide +kernel
theorem dX2_run_107 : decode cX2_run 107 = .ok (.return_, 1) := by decide +kernel
theorem dX2_goOn_0 : decode cX2_goOn 0 = .ok (.aload_n 0, 1) := by decide +kernel
theorem dX2_goOn_1 : decode cX2_goOn 1 = .ok (.getfield 33, 3) := by decide +kernel
theorem dX2_goOn_4 : decode cX2_goOn 4 = .ok (.lload_n 2, 1) := by decide +kernel
theorem dX2_goOn_5 : decode cX2_goOn 5 = .ok (.ldc2_w 57, 3) := by decide +kernel
theorem dX2_goOn_8 : decode cX2_goOn 8 = .ok (.lxor, 1) := by decide +kernel
theorem dX2_goOn_9 : decode cX2_goOn 9 = .ok (.land, 1) := by decide +kernel
theorem dX2_goOn_10 : decode cX2_goOn 10 = .ok (.lstore 5, 2) := by decide +kernel
theorem dX2_goOn_12 : decode cX2_goOn 12 = .ok (.iload 4, 2) := by decide +kernel
theorem dX2_goOn_14 : decode cX2_goOn 14 = .ok (.ifCond .eq 9, 3) := by decide +kernel
theorem dX2_goOn_17 : decode cX2_goOn 17 = .ok (.iload_n 1, 1) := by decide +kernel
theorem dX2_goOn_18 : decode cX2_goOn 18 = .ok (.bipush 6, 2) := by decide +kernel
theorem dX2_goOn_20 : decode cX2_goOn 20 = .ok (.if_icmp .lt 22, 3) := by decide +kernel
theorem dX2_goOn_23 : decode cX2_goOn 23 = .ok (.iload 4, 2) := by decide +kernel
theorem dX2_goOn_25 : decode cX2_goOn 25 = .ok (.ifCond .ne 92, 3) := by decide +kernel
theorem dX2_goOn_28 : decode cX2_goOn 28 = .ok (.lload 5, 2) := by decide +kernel
theorem dX2_goOn_30 : decode cX2_goOn 30 = .ok (.lconst 0, 1) := by decide +kernel
theorem dX2_goOn_31 : decode cX2_goOn 31 = .ok (.lcmp, 1) := by decide +kernel
theorem dX2_goOn_32 : decode cX2_goOn 32 = .ok (.ifCond .ne 85, 3) := by decide +kernel
theorem dX2_goOn_35 : decode cX2_goOn 35 = .ok (.aload_n 0, 1) := by decide +kernel
theorem dX2_goOn_36 : decode cX2_goOn 36 = .ok (.invokevirtual 59, 3) := by decide +kernel
theorem dX2_goOn_39 : decode cX2_goOn 39 = .ok (.goto 78, 3) := by decide +kernel
theorem dX2_goOn_42 : decode cX2_goOn 42 = .ok (.lload 5, 2) := by decide +kernel
theorem dX2_goOn_44 : decode cX2_goOn 44 = .ok (.lconst 0, 1) := by decide +kernel
theorem dX2_goOn_45 : decode cX2_goOn 45 = .ok (.lcmp, 1) := by decide +kernel
theorem dX2_goOn_46 : decode cX2_goOn 46 = .ok (.ifCond .ne 21, 3) := by decide +kernel
theorem dX2_goOn_49 : decode cX2_goOn 49 = .ok (.aload_n 0, 1) := by decide +kernel
theorem dX2_goOn_50 : decode cX2_goOn 50 = .ok (.iload 4, 2) := by decide +kernel
theorem dX2_goOn_52 : decode cX2_goOn 52 = .ok (.invokestatic 62, 3) := by decide +kernel
theorem dX2_goOn_55 : decode cX2_goOn 55 = .ok (.bipush 64, 2) := by decide +kernel
theorem dX2_goOn_57 : decode cX2_goOn 57 = .ok (.iload_n 1, 1) := by decide +kernel
theorem dX2_goOn_58 : decode cX2_goOn 58 = .ok (.lload_n 2, 1) := by decide +kernel
theorem dX2_goOn_59 : decode cX2_goOn 59 = .ok (.iload 4, 2) := by decide +kernel
theorem dX2_goOn_61 : decode cX2_goOn 61 = .ok (.invokevirtual 66, 3) := by decide +kernel
theorem dX2_goOn_64 : decode cX2_goOn 64 = .ok (.goto 53, 3) := by decide +kernel
theorem dX2_goOn_67 : decode cX2_goOn 67 = .ok (.lload 5, 2) := by decide +kernel
theorem dX2_goOn_69 : decode cX2_goOn 69 = .ok (.invokestatic 70, 3) := by decide +kernel
theorem dX2_goOn_72 : decode cX2_goOn 72 = .ok (.istore 7, 2) := by decide +kernel
theorem dX2_goOn_74 : decode cX2_goOn 74 = .ok (.iload 4, 2) := by decide +kernel
theorem dX2_goOn_76 : decode cX2_goOn 76 = .ok (.istore 8, 2) := by decide +kernel
theorem dX2_goOn_78 : decode cX2_goOn 78 = .ok (.iload 8, 2) := by decide +kernel
theorem dX2_goOn_80 : decode cX2_goOn 80 = .ok (.ifCond .eq 37, 3) := by decide +kernel
theorem dX2_goOn_83 : decode cX2_goOn 83 = .ok (.aload_n 0, 1) := by decide +kernel
theorem dX2_goOn_84 : decode cX2_goOn 84 = .ok (.getfield 40, 3) := by decide +kernel
theorem dX2_goOn_87 : decode cX2_goOn 87 = .ok (.ifCond .ne 30, 3) := by decide +kernel
theorem dX2_goOn_90 : decode cX2_goOn 90 = .ok (.aload_n 0, 1) := by decide +kernel
theorem dX2_goOn_91 : decode cX2_goOn 91 = .ok (.iload 8, 2) := by decide +kernel
theorem dX2_goOn_93 : decode cX2_goOn 93 = .ok (.invokestatic 62, 3) := by decide +kernel
theorem dX2_goOn_96 : decode cX2_goOn 96 = .ok (.iload 7, 2) := by decide +kernel
theorem dX2_goOn_98 : decode cX2_goOn 98 = .ok (.iload_n 1, 1) := by decide +kernel
theorem dX2_goOn_99 : decode cX2_goOn 99 = .ok (.lload_n 2, 1) := by decide +kernel
theorem dX2_goOn_100 : decode cX2_goOn 100 = .ok (.iload 4, 2) := by decide +kernel
theorem dX2_goOn_102 : decode cX2_goOn 102 = .ok (.invokevirtual 66, 3) := by decide +kernel
theorem dX2_goOn_105 : decode cX2_goOn 105 = .ok (.iload 8, 2) := by decide +kernel
theorem dX2_goOn_107 : decode cX2_goOn 107 = .ok (.iload 8, 2) := by decide +kernel
theorem dX2_goOn_109 : decode cX2_goOn 109 = .ok (.iconst 1, 1) := by decide +kernel
theorem dX2_goOn_110 : decode cX2_goOn 110 = .ok (.isub, 1) := by decide +kernel
theorem dX2_goOn_111 : decode cX2_goOn 111 = .ok (.iand, 1) := by decide +kernel
theorem dX2_goOn_112 : decode cX2_goOn 112 = .ok (.istore 8, 2) := by decide +kernel
theorem dX2_goOn_114 : decode cX2_goOn 114 = .ok (.goto (-36), 3) := by decide +kernel
theorem dX2_goOn_117 : decode cX2_goOn 117 = .ok (.return_, 1) := by decide +kernel
theorem dX2_countPacking_0 : decode cX2_countPacking 0 = .ok (.aload_n 0, 1) := by decide +kernel
theorem dX2_countPacking_1 : decode cX2_countPacking 1 = .ok (.getfield 23, 3) := by decide +kernel
theorem dX2_countPacking_4 : decode cX2_countPacking 4 = .ok (.aload_n 0, 1) := by decide +kernel
theorem dX2_countPacking_5 : decode cX2_countPacking 5 = .ok (.getfield 30, 3) := by decide +kernel
end
section
theorem dX2_countPacking_8 : decode cX2_countPacking 8 = .ok (.if_icmp .ne 8, 3) := by decide +kernel
theorem dX2_countPacking_11 : decode cX2_countPacking 11 = .ok (.aload_n 0, 1) := by decide +kernel
theorem dX2_countPacking_12 : decode cX2_countPacking 12 = .ok (.iconst 1, 1) := by decide +kernel
theorem dX2_countPacking_13 : decode cX2_countPacking 13 = .ok (.putfield 40, 3) := by decide +kernel
theorem dX2_countPacking_16 : decode cX2_countPacking 16 = .ok (.aload_n 0, 1) := by decide +kernel
theorem dX2_countPacking_17 : decode cX2_countPacking 17 = .ok (.dup, 1) := by decide +kernel
theorem dX2_countPacking_18 : decode cX2_countPacking 18 = .ok (.getfield 23, 3) := by decide +kernel
theorem dX2_countPacking_21 : decode cX2_countPacking 21 = .ok (.iconst 1, 1) := by decide +kernel
theorem dX2_countPacking_22 : decode cX2_countPacking 22 = .ok (.iadd, 1) := by decide +kernel
theorem dX2_countPacking_23 : decode cX2_countPacking 23 = .ok (.putfield 23, 3) := by decide +kernel
theorem dX2_countPacking_26 : decode cX2_countPacking 26 = .ok (.return_, 1) := by decide +kernel
theorem dX2_tryPiece_0 : decode cX2_tryPiece 0 = .ok (.aload_n 0, 1) := by decide +kernel
theorem dX2_tryPiece_1 : decode cX2_tryPiece 1 = .ok (.getfield 9, 3) := by decide +kernel
theorem dX2_tryPiece_4 : decode cX2_tryPiece 4 = .ok (.iload_n 1, 1) := by decide +kernel
theorem dX2_tryPiece_5 : decode cX2_tryPiece 5 = .ok (.aaload, 1) := by decide +kernel
theorem dX2_tryPiece_6 : decode cX2_tryPiece 6 = .ok (.astore 7, 2) := by decide +kernel
theorem dX2_tryPiece_8 : decode cX2_tryPiece 8 = .ok (.aload 7, 2) := by decide +kernel
theorem dX2_tryPiece_10 : decode cX2_tryPiece 10 = .ok (.invokevirtual 76, 3) := by decide +kernel
theorem dX2_tryPiece_13 : decode cX2_tryPiece 13 = .ok (.istore 8, 2) := by decide +kernel
theorem dX2_tryPiece_15 : decode cX2_tryPiece 15 = .ok (.iconst 0, 1) := by decide +kernel
theorem dX2_tryPiece_16 : decode cX2_tryPiece 16 = .ok (.istore 9, 2) := by decide +kernel
theorem dX2_tryPiece_18 : decode cX2_tryPiece 18 = .ok (.iload 9, 2) := by decide +kernel
theorem dX2_tryPiece_20 : decode cX2_tryPiece 20 = .ok (.iload 8, 2) := by decide +kernel
theorem dX2_tryPiece_22 : decode cX2_tryPiece 22 = .ok (.if_icmp .ge 133, 3) := by decide +kernel
theorem dX2_tryPiece_25 : decode cX2_tryPiece 25 = .ok (.aload 7, 2) := by decide +kernel
theorem dX2_tryPiece_27 : decode cX2_tryPiece 27 = .ok (.iload_n 2, 1) := by decide +kernel
theorem dX2_tryPiece_28 : decode cX2_tryPiece 28 = .ok (.iload 9, 2) := by decide +kernel
theorem dX2_tryPiece_30 : decode cX2_tryPiece 30 = .ok (.invokevirtual 79, 3) := by decide +kernel
theorem dX2_tryPiece_33 : decode cX2_tryPiece 33 = .ok (.lstore 10, 2) := by decide +kernel
theorem dX2_tryPiece_35 : decode cX2_tryPiece 35 = .ok (.lload 10, 2) := by decide +kernel
theorem dX2_tryPiece_37 : decode cX2_tryPiece 37 = .ok (.lconst 0, 1) := by decide +kernel
theorem dX2_tryPiece_38 : decode cX2_tryPiece 38 = .ok (.lcmp, 1) := by decide +kernel
theorem dX2_tryPiece_39 : decode cX2_tryPiece 39 = .ok (.ifCond .eq 110, 3) := by decide +kernel
theorem dX2_tryPiece_42 : decode cX2_tryPiece 42 = .ok (.aload_n 0, 1) := by decide +kernel
theorem dX2_tryPiece_43 : decode cX2_tryPiece 43 = .ok (.getfield 40, 3) := by decide +kernel
theorem dX2_tryPiece_46 : decode cX2_tryPiece 46 = .ok (.ifCond .ne 103, 3) := by decide +kernel
theorem dX2_tryPiece_49 : decode cX2_tryPiece 49 = .ok (.aload_n 0, 1) := by decide +kernel
theorem dX2_tryPiece_50 : decode cX2_tryPiece 50 = .ok (.getfield 19, 3) := by decide +kernel
theorem dX2_tryPiece_53 : decode cX2_tryPiece 53 = .ok (.aload_n 0, 1) := by decide +kernel
theorem dX2_tryPiece_54 : decode cX2_tryPiece 54 = .ok (.getfield 37, 3) := by decide +kernel
theorem dX2_tryPiece_57 : decode cX2_tryPiece 57 = .ok (.if_icmp .lt 14, 3) := by decide +kernel
theorem dX2_tryPiece_60 : decode cX2_tryPiece 60 = .ok (.aload_n 0, 1) := by decide +kernel
theorem dX2_tryPiece_61 : decode cX2_tryPiece 61 = .ok (.iconst 1, 1) := by decide +kernel
theorem dX2_tryPiece_62 : decode cX2_tryPiece 62 = .ok (.putfield 40, 3) := by decide +kernel
theorem dX2_tryPiece_65 : decode cX2_tryPiece 65 = .ok (.aload_n 0, 1) := by decide +kernel
theorem dX2_tryPiece_66 : decode cX2_tryPiece 66 = .ok (.iconst 0, 1) := by decide +kernel
theorem dX2_tryPiece_67 : decode cX2_tryPiece 67 = .ok (.putfield 26, 3) := by decide +kernel
theorem dX2_tryPiece_70 : decode cX2_tryPiece 70 = .ok (.return_, 1) := by decide +kernel
theorem dX2_tryPiece_71 : decode cX2_tryPiece 71 = .ok (.aload_n 0, 1) := by decide +kernel
theorem dX2_tryPiece_72 : decode cX2_tryPiece 72 = .ok (.dup, 1) := by decide +kernel
theorem dX2_tryPiece_73 : decode cX2_tryPiece 73 = .ok (.getfield 19, 3) := by decide +kernel
theorem dX2_tryPiece_76 : decode cX2_tryPiece 76 = .ok (.iconst 1, 1) := by decide +kernel
theorem dX2_tryPiece_77 : decode cX2_tryPiece 77 = .ok (.iadd, 1) := by decide +kernel
theorem dX2_tryPiece_78 : decode cX2_tryPiece 78 = .ok (.putfield 19, 3) := by decide +kernel
theorem dX2_tryPiece_81 : decode cX2_tryPiece 81 = .ok (.aload 7, 2) := by decide +kernel
theorem dX2_tryPiece_83 : decode cX2_tryPiece 83 = .ok (.iload 9, 2) := by decide +kernel
theorem dX2_tryPiece_85 : decode cX2_tryPiece 85 = .ok (.bipush 64, 2) := by decide +kernel
theorem dX2_tryPiece_87 : decode cX2_tryPiece 87 = .ok (.imul, 1) := by decide +kernel
theorem dX2_tryPiece_88 : decode cX2_tryPiece 88 = .ok (.lload 10, 2) := by decide +kernel
theorem dX2_tryPiece_90 : decode cX2_tryPiece 90 = .ok (.invokestatic 70, 3) := by decide +kernel
theorem dX2_tryPiece_93 : decode cX2_tryPiece 93 = .ok (.iadd, 1) := by decide +kernel
theorem dX2_tryPiece_94 : decode cX2_tryPiece 94 = .ok (.invokevirtual 83, 3) := by decide +kernel
theorem dX2_tryPiece_97 : decode cX2_tryPiece 97 = .ok (.lstore 12, 2) := by decide +kernel
theorem dX2_tryPiece_99 : decode cX2_tryPiece 99 = .ok (.lload 12, 2) := by decide +kernel
theorem dX2_tryPiece_101 : decode cX2_tryPiece 101 = .ok (.lload 4, 2) := by decide +kernel
theorem dX2_tryPiece_103 : decode cX2_tryPiece 103 = .ok (.land, 1) := by decide +kernel
theorem dX2_tryPiece_104 : decode cX2_tryPiece 104 = .ok (.lconst 0, 1) := by decide +kernel
theorem dX2_tryPiece_105 : decode cX2_tryPiece 105 = .ok (.lcmp, 1) := by decide +kernel
theorem dX2_tryPiece_106 : decode cX2_tryPiece 106 = .ok (.ifCond .ne 31, 3) := by decide +kernel
theorem dX2_tryPiece_109 : decode cX2_tryPiece 109 = .ok (.aload_n 0, 1) := by decide +kernel
theorem dX2_tryPiece_110 : decode cX2_tryPiece 110 = .ok (.getfield 15, 3) := by decide +kernel
theorem dX2_tryPiece_113 : decode cX2_tryPiece 113 = .ok (.iload_n 1, 1) := by decide +kernel
theorem dX2_tryPiece_114 : decode cX2_tryPiece 114 = .ok (.lload 12, 2) := by decide +kernel
theorem dX2_tryPiece_116 : decode cX2_tryPiece 116 = .ok (.lastore, 1) := by decide +kernel
theorem dX2_tryPiece_117 : decode cX2_tryPiece 117 = .ok (.aload_n 0, 1) := by decide +kernel
theorem dX2_tryPiece_118 : decode cX2_tryPiece 118 = .ok (.iload_n 3, 1) := by decide +kernel
theorem dX2_tryPiece_119 : decode cX2_tryPiece 119 = .ok (.iconst 1, 1) := by decide +kernel
theorem dX2_tryPiece_120 : decode cX2_tryPiece 120 = .ok (.iadd, 1) := by decide +kernel
theorem dX2_tryPiece_121 : decode cX2_tryPiece 121 = .ok (.lload 4, 2) := by decide +kernel
theorem dX2_tryPiece_123 : decode cX2_tryPiece 123 = .ok (.lload 12, 2) := by decide +kernel
theorem dX2_tryPiece_125 : decode cX2_tryPiece 125 = .ok (.lor, 1) := by decide +kernel
theorem dX2_tryPiece_126 : decode cX2_tryPiece 126 = .ok (.iload 6, 2) := by decide +kernel
theorem dX2_tryPiece_128 : decode cX2_tryPiece 128 = .ok (.iconst 1, 1) := by decide +kernel
theorem dX2_tryPiece_129 : decode cX2_tryPiece 129 = .ok (.iload_n 1, 1) := by decide +kernel
theorem dX2_tryPiece_130 : decode cX2_tryPiece 130 = .ok (.ishl, 1) := by decide +kernel
theorem dX2_tryPiece_131 : decode cX2_tryPiece 131 = .ok (.iconst (-1), 1) := by decide +kernel
theorem dX2_tryPiece_132 : decode cX2_tryPiece 132 = .ok (.ixor, 1) := by decide +kernel
theorem dX2_tryPiece_133 : decode cX2_tryPiece 133 = .ok (.iand, 1) := by decide +kernel
theorem dX2_tryPiece_134 : decode cX2_tryPiece 134 = .ok (.invokevirtual 53, 3) := by decide +kernel
theorem dX2_tryPiece_137 : decode cX2_tryPiece 137 = .ok (.lload 10, 2) := by decide +kernel
theorem dX2_tryPiece_139 : decode cX2_tryPiece 139 = .ok (.lload 10, 2) := by decide +kernel
theorem dX2_tryPiece_141 : decode cX2_tryPiece 141 = .ok (.lconst 1, 1) := by decide +kernel
theorem dX2_tryPiece_142 : decode cX2_tryPiece 142 = .ok (.lsub, 1) := by decide +kernel
theorem dX2_tryPiece_143 : decode cX2_tryPiece 143 = .ok (.land, 1) := by decide +kernel
theorem dX2_tryPiece_144 : decode cX2_tryPiece 144 = .ok (.lstore 10, 2) := by decide +kernel
theorem dX2_tryPiece_146 : decode cX2_tryPiece 146 = .ok (.goto (-111), 3) := by decide +kernel
theorem dX2_tryPiece_149 : decode cX2_tryPiece 149 = .ok (.iinc 9 1, 3) := by decide +kernel
theorem dX2_tryPiece_152 : decode cX2_tryPiece 152 = .ok (.goto (-134), 3) := by decide +kernel
theorem dX2_tryPiece_155 : decode cX2_tryPiece 155 = .ok (.return_, 1) := by decide +kernel
theorem dX3_init_0 : decode cX3_init 0 = .ok (.aload_n 0, 1) := by decide +kernel
theorem dX3_init_1 : decode cX3_init 1 = .ok (.invokespecial 3, 3) := by decide +kernel
theorem dX3_init_4 : decode cX3_init 4 = .ok (.aload_n 0, 1) := by decide +kernel
theorem dX3_init_5 : decode cX3_init 5 = .ok (.iconst 3, 1) := by decide +kernel
theorem dX3_init_6 : decode cX3_init 6 = .ok (.newarray .int, 2) := by decide +kernel
theorem dX3_init_8 : decode cX3_init 8 = .ok (.putfield 9, 3) := by decide +kernel
theorem dX3_init_11 : decode cX3_init 11 = .ok (.aload_n 0, 1) := by decide +kernel
theorem dX3_init_12 : decode cX3_init 12 = .ok (.iconst 3, 1) := by decide +kernel
theorem dX3_init_13 : decode cX3_init 13 = .ok (.newarray .int, 2) := by decide +kernel
theorem dX3_init_15 : decode cX3_init 15 = .ok (.putfield 15, 3) := by decide +kernel
theorem dX3_init_18 : decode cX3_init 18 = .ok (.aload_n 0, 1) := by decide +kernel
theorem dX3_init_19 : decode cX3_init 19 = .ok (.iconst 1, 1) := by decide +kernel
theorem dX3_init_20 : decode cX3_init 20 = .ok (.putfield 18, 3) := by decide +kernel
theorem dX3_init_23 : decode cX3_init 23 = .ok (.return_, 1) := by decide +kernel
theorem dX3_clear_0 : decode cX3_clear 0 = .ok (.aload_n 0, 1) := by decide +kernel
theorem dX3_clear_1 : decode cX3_clear 1 = .ok (.iconst 1, 1) := by decide +kernel
theorem dX3_clear_2 : decode cX3_clear 2 = .ok (.putfield 18, 3) := by decide +kernel
theorem dX3_clear_5 : decode cX3_clear 5 = .ok (.return_, 1) := by decide +kernel
theorem dX3_cover_0 : decode cX3_cover 0 = .ok (.iconst 0, 1) := by decide +kernel
theorem dX3_cover_1 : decode cX3_cover 1 = .ok (.istore 4, 2) := by decide +kernel
theorem dX3_cover_3 : decode cX3_cover 3 = .ok (.iload 4, 2) := by decide +kernel
theorem dX3_cover_5 : decode cX3_cover 5 = .ok (.iconst 3, 1) := by decide +kernel
theorem dX3_cover_6 : decode cX3_cover 6 = .ok (.if_icmp .ge 103, 3) := by decide +kernel
theorem dX3_cover_9 : decode cX3_cover 9 = .ok (.aload_n 1, 1) := by decide +kernel
theorem dX3_cover_10 : decode cX3_cover 10 = .ok (.getfield 9, 3) := by decide +kernel
theorem dX3_cover_13 : decode cX3_cover 13 = .ok (.iload 4, 2) := by decide +kernel
theorem dX3_cover_15 : decode cX3_cover 15 = .ok (.iaload, 1) := by decide +kernel
theorem dX3_cover_16 : decode cX3_cover 16 = .ok (.aload_n 2, 1) := by decide +kernel
theorem dX3_cover_17 : decode cX3_cover 17 = .ok (.iload_n 3, 1) := by decide +kernel
theorem dX3_cover_18 : decode cX3_cover 18 = .ok (.iload 4, 2) := by decide +kernel
theorem dX3_cover_20 : decode cX3_cover 20 = .ok (.iadd, 1) := by decide +kernel
theorem dX3_cover_21 : decode cX3_cover 21 = .ok (.iaload, 1) := by decide +kernel
theorem dX3_cover_22 : decode cX3_cover 22 = .ok (.iadd, 1) := by decide +kernel
theorem dX3_cover_23 : decode cX3_cover 23 = .ok (.istore 5, 2) := by decide +kernel
theorem dX3_cover_25 : decode cX3_cover 25 = .ok (.aload_n 1, 1) := by decide +kernel
theorem dX3_cover_26 : decode cX3_cover 26 = .ok (.getfield 15, 3) := by decide +kernel
theorem dX3_cover_29 : decode cX3_cover 29 = .ok (.iload 4, 2) := by decide +kernel
theorem dX3_cover_31 : decode cX3_cover 31 = .ok (.iaload, 1) := by decide +kernel
theorem dX3_cover_32 : decode cX3_cover 32 = .ok (.aload_n 2, 1) := by decide +kernel
theorem dX3_cover_33 : decode cX3_cover 33 = .ok (.iload_n 3, 1) := by decide +kernel
theorem dX3_cover_34 : decode cX3_cover 34 = .ok (.iload 4, 2) := by decide +kernel
theorem dX3_cover_36 : decode cX3_cover 36 = .ok (.iadd, 1) := by decide +kernel
theorem dX3_cover_37 : decode cX3_cover 37 = .ok (.iaload, 1) := by decide +kernel
theorem dX3_cover_38 : decode cX3_cover 38 = .ok (.iadd, 1) := by decide +kernel
theorem dX3_cover_39 : decode cX3_cover 39 = .ok (.istore 6, 2) := by decide +kernel
theorem dX3_cover_41 : decode cX3_cover 41 = .ok (.aload_n 0, 1) := by decide +kernel
theorem dX3_cover_42 : decode cX3_cover 42 = .ok (.getfield 9, 3) := by decide +kernel
theorem dX3_cover_45 : decode cX3_cover 45 = .ok (.iload 4, 2) := by decide +kernel
theorem dX3_cover_47 : decode cX3_cover 47 = .ok (.aload_n 0, 1) := by decide +kernel
theorem dX3_cover_48 : decode cX3_cover 48 = .ok (.getfield 18, 3) := by decide +kernel
theorem dX3_cover_51 : decode cX3_cover 51 = .ok (.ifCond .eq 8, 3) := by decide +kernel
theorem dX3_cover_54 : decode cX3_cover 54 = .ok (.iload 5, 2) := by decide +kernel
theorem dX3_cover_56 : decode cX3_cover 56 = .ok (.goto 15, 3) := by decide +kernel
theorem dX3_cover_59 : decode cX3_cover 59 = .ok (.aload_n 0, 1) := by decide +kernel
theorem dX3_cover_60 : decode cX3_cover 60 = .ok (.getfield 9, 3) := by decide +kernel
theorem dX3_cover_63 : decode cX3_cover 63 = .ok (.iload 4, 2) := by decide +kernel
theorem dX3_cover_65 : decode cX3_cover 65 = .ok (.iaload, 1) := by decide +kernel
theorem dX3_cover_66 : decode cX3_cover 66 = .ok (.iload 5, 2) := by decide +kernel
theorem dX3_cover_68 : decode cX3_cover 68 = .ok (.invokestatic 22, 3) := by decide +kernel
theorem dX3_cover_71 : decode cX3_cover 71 = .ok (.iastore, 1) := by decide +kernel
theorem dX3_cover_72 : decode cX3_cover 72 = .ok (.aload_n 0, 1) := by decide +kernel
theorem dX3_cover_73 : decode cX3_cover 73 = .ok (.getfield 15, 3) := by decide +kernel
theorem dX3_cover_76 : decode cX3_cover 76 = .ok (.iload 4, 2) := by decide +kernel
theorem dX3_cover_78 : decode cX3_cover 78 = .ok (.aload_n 0, 1) := by decide +kernel
theorem dX3_cover_79 : decode cX3_cover 79 = .ok (.getfield 18, 3) := by decide +kernel
theorem dX3_cover_82 : decode cX3_cover 82 = .ok (.ifCond .eq 8, 3) := by decide +kernel
theorem dX3_cover_85 : decode cX3_cover 85 = .ok (.iload 6, 2) := by decide +kernel
theorem dX3_cover_87 : decode cX3_cover 87 = .ok (.goto 15, 3) := by decide +kernel
theorem dX3_cover_90 : decode cX3_cover 90 = .ok (.aload_n 0, 1) := by decide +kernel
theorem dX3_cover_91 : decode cX3_cover 91 = .ok (.getfield 15, 3) := by decide +kernel
theorem dX3_cover_94 : decode cX3_cover 94 = .ok (.iload 4, 2) := by decide +kernel
theorem dX3_cover_96 : decode cX3_cover 96 = .ok (.iaload, 1) := by decide +kernel
theorem dX3_cover_97 : decode cX3_cover 97 = .ok (.iload 6, 2) := by decide +kernel
theorem dX3_cover_99 : decode cX3_cover 99 = .ok (.invokestatic 28, 3) := by decide +kernel
theorem dX3_cover_102 : decode cX3_cover 102 = .ok (.iastore, 1) := by decide +kernel
theorem dX3_cover_103 : decode cX3_cover 103 = .ok (.iinc 4 1, 3) := by decide +kernel
theorem dX3_cover_106 : decode cX3_cover 106 = .ok (.goto (-103), 3) := by decide +kernel
theorem dX3_cover_109 : decode cX3_cover 109 = .ok (.aload_n 0, 1) := by decide +kernel
theorem dX3_cover_110 : decode cX3_cover 110 = .ok (.iconst 0, 1) := by decide +kernel
theorem dX3_cover_111 : decode cX3_cover 111 = .ok (.putfield 18, 3) := by decide +kernel
theorem dX3_cover_114 : decode cX3_cover 114 = .ok (.return_, 1) := by decide +kernel
theorem dX3_fit_0 : decode cX3_fit 0 = .ok (.iconst 0, 1) := by decide +kernel
theorem dX3_fit_1 : decode cX3_fit 1 = .ok (.istore_n 3, 1) := by decide +kernel
theorem dX3_fit_2 : decode cX3_fit 2 = .ok (.iload_n 3, 1) := by decide +kernel
theorem dX3_fit_3 : decode cX3_fit 3 = .ok (.iconst 3, 1) := by decide +kernel
theorem dX3_fit_4 : decode cX3_fit 4 = .ok (.if_icmp .ge 31, 3) := by decide +kernel
theorem dX3_fit_7 : decode cX3_fit 7 = .ok (.aload_n 0, 1) := by decide +kernel
theorem dX3_fit_8 : decode cX3_fit 8 = .ok (.getfield 9, 3) := by decide +kernel
theorem dX3_fit_11 : decode cX3_fit 11 = .ok (.iload_n 3, 1) := by decide +kernel
theorem dX3_fit_12 : decode cX3_fit 12 = .ok (.lload_n 1, 1) := by decide +kernel
theorem dX3_fit_13 : decode cX3_fit 13 = .ok (.iload_n 3, 1) := by decide +kernel
theorem dX3_fit_14 : decode cX3_fit 14 = .ok (.invokestatic 31, 3) := by decide +kernel
theorem dX3_fit_17 : decode cX3_fit 17 = .ok (.iastore, 1) := by decide +kernel
theorem dX3_fit_18 : decode cX3_fit 18 = .ok (.aload_n 0, 1) := by decide +kernel
theorem dX3_fit_19 : decode cX3_fit 19 = .ok (.getfield 15, 3) := by decide +kernel
theorem dX3_fit_22 : decode cX3_fit 22 = .ok (.iload_n 3, 1) := by decide +kernel
theorem dX3_fit_23 : decode cX3_fit 23 = .ok (.lload_n 1, 1) := by decide +kernel
theorem dX3_fit_24 : decode cX3_fit 24 = .ok (.iload_n 3, 1) := by decide +kernel
theorem dX3_fit_25 : decode cX3_fit 25 = .ok (.invokestatic 37, 3) := by decide +kernel
theorem dX3_fit_28 : decode cX3_fit 28 = .ok (.iastore, 1) := by decide +kernel
theorem dX3_fit_29 : decode cX3_fit 29 = .ok (.iinc 3 1, 3) := by decide +kernel
theorem dX3_fit_32 : decode cX3_fit 32 = .ok (.goto (-30), 3) := by decide +kernel
theorem dX3_fit_35 : decode cX3_fit 35 = .ok (.aload_n 0, 1) := by decide +kernel
theorem dX3_fit_36 : decode cX3_fit 36 = .ok (.iconst 0, 1) := by decide +kernel
theorem dX3_fit_37 : decode cX3_fit 37 = .ok (.putfield 18, 3) := by decide +kernel
theorem dX3_fit_40 : decode cX3_fit 40 = .ok (.return_, 1) := by decide +kernel
theorem dX3_isApart_0 : decode cX3_isApart 0 = .ok (.iconst 0, 1) := by decide +kernel
theorem dX3_isApart_1 : decode cX3_isApart 1 = .ok (.istore 4, 2) := by decide +kernel
theorem dX3_isApart_3 : decode cX3_isApart 3 = .ok (.iload 4, 2) := by decide +kernel
theorem dX3_isApart_5 : decode cX3_isApart 5 = .ok (.iconst 3, 1) := by decide +kernel
theorem dX3_isApart_6 : decode cX3_isApart 6 = .ok (.if_icmp .ge 64, 3) := by decide +kernel
theorem dX3_isApart_9 : decode cX3_isApart 9 = .ok (.iload 4, 2) := by decide +kernel
theorem dX3_isApart_11 : decode cX3_isApart 11 = .ok (.iload_n 2, 1) := by decide +kernel
theorem dX3_isApart_12 : decode cX3_isApart 12 = .ok (.if_icmp .ne 7, 3) := by decide +kernel
theorem dX3_isApart_15 : decode cX3_isApart 15 = .ok (.iload_n 3, 1) := by decide +kernel
theorem dX3_isApart_16 : decode cX3_isApart 16 = .ok (.goto 4, 3) := by decide +kernel
theorem dX3_isApart_19 : decode cX3_isApart 19 = .ok (.iconst 0, 1) := by decide +kernel
theorem dX3_isApart_20 : decode cX3_isApart 20 = .ok (.istore 5, 2) := by decide +kernel
theorem dX3_isApart_22 : decode cX3_isApart 22 = .ok (.aload_n 0, 1) := by decide +kernel
theorem dX3_isApart_23 : decode cX3_isApart 23 = .ok (.getfield 9, 3) := by decide +kernel
theorem dX3_isApart_26 : decode cX3_isApart 26 = .ok (.iload 4, 2) := by decide +kernel
theorem dX3_isApart_28 : decode cX3_isApart 28 = .ok (.iaload, 1) := by decide +kernel
theorem dX3_isApart_29 : decode cX3_isApart 29 = .ok (.iload 5, 2) := by decide +kernel
theorem dX3_isApart_31 : decode cX3_isApart 31 = .ok (.iadd, 1) := by decide +kernel
theorem dX3_isApart_32 : decode cX3_isApart 32 = .ok (.aload_n 1, 1) := by decide +kernel
theorem dX3_isApart_33 : decode cX3_isApart 33 = .ok (.getfield 15, 3) := by decide +kernel
theorem dX3_isApart_36 : decode cX3_isApart 36 = .ok (.iload 4, 2) := by decide +kernel
theorem dX3_isApart_38 : decode cX3_isApart 38 = .ok (.iaload, 1) := by decide +kernel
theorem dX3_isApart_39 : decode cX3_isApart 39 = .ok (.if_icmp .gt 23, 3) := by decide +kernel
theorem dX3_isApart_42 : decode cX3_isApart 42 = .ok (.aload_n 0, 1) := by decide +kernel
theorem dX3_isApart_43 : decode cX3_isApart 43 = .ok (.getfield 15, 3) := by decide +kernel
theorem dX3_isApart_46 : decode cX3_isApart 46 = .ok (.iload 4, 2) := by decide +kernel
theorem dX3_isApart_48 : decode cX3_isApart 48 = .ok (.iaload, 1) := by decide +kernel
theorem dX3_isApart_49 : decode cX3_isApart 49 = .ok (.iload 5, 2) := by decide +kernel
theorem dX3_isApart_51 : decode cX3_isApart 51 = .ok (.iadd, 1) := by decide +kernel
theorem dX3_isApart_52 : decode cX3_isApart 52 = .ok (.aload_n 1, 1) := by decide +kernel
theorem dX3_isApart_53 : decode cX3_isApart 53 = .ok (.getfield 9, 3) := by decide +kernel
theorem dX3_isApart_56 : decode cX3_isApart 56 = .ok (.iload 4, 2) := by decide +kernel
theorem dX3_isApart_58 : decode cX3_isApart 58 = .ok (.iaload, 1) := by decide +kernel
theorem dX3_isApart_59 : decode cX3_isApart 59 = .ok (.if_icmp .ge 5, 3) := by decide +kernel
theorem dX3_isApart_62 : decode cX3_isApart 62 = .ok (.iconst 1, 1) := by decide +kernel
theorem dX3_isApart_63 : decode cX3_isApart 63 = .ok (.ireturn, 1) := by decide +kernel
theorem dX3_isApart_64 : decode cX3_isApart 64 = .ok (.iinc 4 1, 3) := by decide +kernel
theorem dX3_isApart_67 : decode cX3_isApart 67 = .ok (.goto (-64), 3) := by decide +kernel
theorem dX3_isApart_70 : decode cX3_isApart 70 = .ok (.iconst 0, 1) := by decide +kernel
theorem dX3_isApart_71 : decode cX3_isApart 71 = .ok (.ireturn, 1) := by decide +kernel
theorem dX4_init_0 : decode cX4_init 0 = .ok (.aload_n 0, 1) := by decide +kernel
theorem dX4_init_1 : decode cX4_init 1 = .ok (.invokespecial 3, 3) := by decide +kernel
theorem dX4_init_4 : decode cX4_init 4 = .ok (.aload_n 0, 1) := by decide +kernel
theorem dX4_init_5 : decode cX4_init 5 = .ok (.sipush 5418, 3) := by decide +kernel
theorem dX4_init_8 : decode cX4_init 8 = .ok (.newarray .int, 2) := by decide +kernel
theorem dX4_init_10 : decode cX4_init 10 = .ok (.putfield 11, 3) := by decide +kernel
theorem dX4_init_13 : decode cX4_init 13 = .ok (.aload_n 0, 1) := by decide +kernel
theorem dX4_init_14 : decode cX4_init 14 = .ok (.sipush 300, 3) := by decide +kernel
theorem dX4_init_17 : decode cX4_init 17 = .ok (.newarray .int, 2) := by decide +kernel
theorem dX4_init_19 : decode cX4_init 19 = .ok (.putfield 15, 3) := by decide +kernel
theorem dX4_init_22 : decode cX4_init 22 = .ok (.aload_n 0, 1) := by decide +kernel
theorem dX4_init_23 : decode cX4_init 23 = .ok (.sipush 300, 3) := by decide +kernel
theorem dX4_init_26 : decode cX4_init 26 = .ok (.newarray .int, 2) := by decide +kernel
theorem dX4_init_28 : decode cX4_init 28 = .ok (.putfield 18, 3) := by decide +kernel
theorem dX4_init_31 : decode cX4_init 31 = .ok (.aload_n 0, 1) := by decide +kernel
theorem dX4_init_32 : decode cX4_init 32 = .ok (.sipush 300, 3) := by decide +kernel
theorem dX4_init_35 : decode cX4_init 35 = .ok (.newarray .int, 2) := by decide +kernel
theorem dX4_init_37 : decode cX4_init 37 = .ok (.putfield 21, 3) := by decide +kernel
theorem dX4_init_40 : decode cX4_init 40 = .ok (.aload_n 0, 1) := by decide +kernel
theorem dX4_init_41 : decode cX4_init 41 = .ok (.sipush 512, 3) := by decide +kernel
theorem dX4_init_44 : decode cX4_init 44 = .ok (.newarray .int, 2) := by decide +kernel
theorem dX4_init_46 : decode cX4_init 46 = .ok (.putfield 24, 3) := by decide +kernel
theorem dX4_init_49 : decode cX4_init 49 = .ok (.aload_n 0, 1) := by decide +kernel
theorem dX4_init_50 : decode cX4_init 50 = .ok (.sipush 300, 3) := by decide +kernel
theorem dX4_init_53 : decode cX4_init 53 = .ok (.newarray .int, 2) := by decide +kernel
theorem dX4_init_55 : decode cX4_init 55 = .ok (.putfield 27, 3) := by decide +kernel
theorem dX4_init_58 : decode cX4_init 58 = .ok (.return_, 1) := by decide +kernel
theorem dX4_size_0 : decode cX4_size 0 = .ok (.aload_n 0, 1) := by decide +kernel
theorem dX4_size_1 : decode cX4_size 1 = .ok (.getfield 30, 3) := by decide +kernel
theorem dX4_size_4 : decode cX4_size 4 = .ok (.ireturn, 1) := by decide +kernel
theorem dX4_offsets_0 : decode cX4_offsets 0 = .ok (.aload_n 0, 1) := by decide +kernel
theorem dX4_offsets_1 : decode cX4_offsets 1 = .ok (.getfield 11, 3) := by decide +kernel
theorem dX4_offsets_4 : decode cX4_offsets 4 = .ok (.areturn, 1) := by decide +kernel
theorem dX4_rowOf_0 : decode cX4_rowOf 0 = .ok (.iload_n 1, 1) := by decide +kernel
theorem dX4_rowOf_1 : decode cX4_rowOf 1 = .ok (.bipush 18, 2) := by decide +kernel
theorem dX4_rowOf_3 : decode cX4_rowOf 3 = .ok (.imul, 1) := by decide +kernel
theorem dX4_rowOf_4 : decode cX4_rowOf 4 = .ok (.iload_n 2, 1) := by decide +kernel
theorem dX4_rowOf_5 : decode cX4_rowOf 5 = .ok (.iconst 3, 1) := by decide +kernel
theorem dX4_rowOf_6 : decode cX4_rowOf 6 = .ok (.imul, 1) := by decide +kernel
theorem dX4_rowOf_7 : decode cX4_rowOf 7 = .ok (.iadd, 1) := by decide +kernel
theorem dX4_rowOf_8 : decode cX4_rowOf 8 = .ok (.ireturn, 1) := by decide +kernel
theorem dX4_levelOf_0 : decode cX4_levelOf 0 = .ok (.aload_n 0, 1) := by decide +kernel
theorem dX4_levelOf_1 : decode cX4_levelOf 1 = .ok (.getfield 21, 3) := by decide +kernel
theorem dX4_levelOf_4 : decode cX4_levelOf 4 = .ok (.iload_n 1, 1) := by decide +kernel
theorem dX4_levelOf_5 : decode cX4_levelOf 5 = .ok (.iaload, 1) := by decide +kernel
theorem dX4_levelOf_6 : decode cX4_levelOf 6 = .ok (.ireturn, 1) := by decide +kernel
theorem dX4_parentOf_0 : decode cX4_parentOf 0 = .ok (.aload_n 0, 1) := by decide +kernel
theorem dX4_parentOf_1 : decode cX4_parentOf 1 = .ok (.getfield 15, 3) := by decide +kernel
theorem dX4_parentOf_4 : decode cX4_parentOf 4 = .ok (.iload_n 1, 1) := by decide +kernel
theorem dX4_parentOf_5 : decode cX4_parentOf 5 = .ok (.iaload, 1) := by decide +kernel
theorem dX4_parentOf_6 : decode cX4_parentOf 6 = .ok (.ireturn, 1) := by decide +kernel
theorem dX4_moveTo_0 : decode cX4_moveTo 0 = .ok (.aload_n 0, 1) := by decide +kernel
theorem dX4_moveTo_1 : decode cX4_moveTo 1 = .ok (.getfield 18, 3) := by decide +kernel
theorem dX4_moveTo_4 : decode cX4_moveTo 4 = .ok (.iload_n 1, 1) := by decide +kernel
theorem dX4_moveTo_5 : decode cX4_moveTo 5 = .ok (.iaload, 1) := by decide +kernel
theorem dX4_moveTo_6 : decode cX4_moveTo 6 = .ok (.ireturn, 1) := by decide +kernel
theorem dX4_start_0 : decode cX4_start 0 = .ok (.aload_n 0, 1) := by decide +kernel
theorem dX4_start_1 : decode cX4_start 1 = .ok (.getfield 24, 3) := by decide +kernel
theorem dX4_start_4 : decode cX4_start 4 = .ok (.iconst (-1), 1) := by decide +kernel
theorem dX4_start_5 : decode cX4_start 5 = .ok (.invokestatic 34, 3) := by decide +kernel
theorem dX4_start_8 : decode cX4_start 8 = .ok (.aload_n 0, 1) := by decide +kernel
theorem dX4_start_9 : decode cX4_start 9 = .ok (.iconst 0, 1) := by decide +kernel
theorem dX4_start_10 : decode cX4_start 10 = .ok (.putfield 30, 3) := by decide +kernel
theorem dX4_start_13 : decode cX4_start 13 = .ok (.iconst 0, 1) := by decide +kernel
theorem dX4_start_14 : decode cX4_start 14 = .ok (.istore_n 1, 1) := by decide +kernel
theorem dX4_start_15 : decode cX4_start 15 = .ok (.iload_n 1, 1) := by decide +kernel
theorem dX4_start_16 : decode cX4_start 16 = .ok (.bipush 18, 2) := by decide +kernel
theorem dX4_start_18 : decode cX4_start 18 = .ok (.if_icmp .ge 16, 3) := by decide +kernel
theorem dX4_start_21 : decode cX4_start 21 = .ok (.aload_n 0, 1) := by decide +kernel
theorem dX4_start_22 : decode cX4_start 22 = .ok (.getfield 11, 3) := by decide +kernel
theorem dX4_start_25 : decode cX4_start 25 = .ok (.iload_n 1, 1) := by decide +kernel
theorem dX4_start_26 : decode cX4_start 26 = .ok (.iconst 0, 1) := by decide +kernel
theorem dX4_start_27 : decode cX4_start 27 = .ok (.iastore, 1) := by decide +kernel
theorem dX4_start_28 : decode cX4_start 28 = .ok (.iinc 1 1, 3) := by decide +kernel
theorem dX4_start_31 : decode cX4_start 31 = .ok (.goto (-16), 3) := by decide +kernel
theorem dX4_start_34 : decode cX4_start 34 = .ok (.aload_n 0, 1) := by decide +kernel
theorem dX4_start_35 : decode cX4_start 35 = .ok (.iconst (-1), 1) := by decide +kernel
theorem dX4_start_36 : decode cX4_start 36 = .ok (.iconst 0, 1) := by decide +kernel
theorem dX4_start_37 : decode cX4_start 37 = .ok (.invokevirtual 40, 3) := by decide +kernel
theorem dX4_start_40 : decode cX4_start 40 = .ok (.return_, 1) := by decide +kernel
theorem dX4_draft_0 : decode cX4_draft 0 = .ok (.aload_n 0, 1) := by decide +kernel
theorem dX4_draft_1 : decode cX4_draft 1 = .ok (.getfield 11, 3) := by decide +kernel
theorem dX4_draft_4 : decode cX4_draft 4 = .ok (.iload_n 1, 1) := by decide +kernel
theorem dX4_draft_5 : decode cX4_draft 5 = .ok (.bipush 18, 2) := by decide +kernel
theorem dX4_draft_7 : decode cX4_draft 7 = .ok (.imul, 1) := by decide +kernel
theorem dX4_draft_8 : decode cX4_draft 8 = .ok (.aload_n 0, 1) := by decide +kernel
theorem dX4_draft_9 : decode cX4_draft 9 = .ok (.getfield 11, 3) := by decide +kernel
theorem dX4_draft_12 : decode cX4_draft 12 = .ok (.aload_n 0, 1) := by decide +kernel
theorem dX4_draft_13 : decode cX4_draft 13 = .ok (.getfield 30, 3) := by decide +kernel
theorem dX4_draft_16 : decode cX4_draft 16 = .ok (.bipush 18, 2) := by decide +kernel
theorem dX4_draft_18 : decode cX4_draft 18 = .ok (.imul, 1) := by decide +kernel
theorem dX4_draft_19 : decode cX4_draft 19 = .ok (.bipush 18, 2) := by decide +kernel
theorem dX4_draft_21 : decode cX4_draft 21 = .ok (.invokestatic 44, 3) := by decide +kernel
theorem dX4_draft_24 : decode cX4_draft 24 = .ok (.iconst 0, 1) := by decide +kernel
theorem dX4_draft_25 : decode cX4_draft 25 = .ok (.istore 5, 2) := by decide +kernel
theorem dX4_draft_27 : decode cX4_draft 27 = .ok (.iload 5, 2) := by decide +kernel
theorem dX4_draft_29 : decode cX4_draft 29 = .ok (.bipush 6, 2) := by decide +kernel
theorem dX4_draft_31 : decode cX4_draft 31 = .ok (.if_icmp .ge 40, 3) := by decide +kernel
theorem dX4_draft_34 : decode cX4_draft 34 = .ok (.iload_n 2, 1) := by decide +kernel
theorem dX4_draft_35 : decode cX4_draft 35 = .ok (.iload 5, 2) := by decide +kernel
theorem dX4_draft_37 : decode cX4_draft 37 = .ok (.ishr, 1) := by decide +kernel
theorem dX4_draft_38 : decode cX4_draft 38 = .ok (.iconst 1, 1) := by decide +kernel
theorem dX4_draft_39 : decode cX4_draft 39 = .ok (.iand, 1) := by decide +kernel
theorem dX4_draft_40 : decode cX4_draft 40 = .ok (.ifCond .eq 25, 3) := by decide +kernel
theorem dX4_draft_43 : decode cX4_draft 43 = .ok (.aload_n 0, 1) := by decide +kernel
theorem dX4_draft_44 : decode cX4_draft 44 = .ok (.getfield 11, 3) := by decide +kernel
theorem dX4_draft_47 : decode cX4_draft 47 = .ok (.aload_n 0, 1) := by decide +kernel
theorem dX4_draft_48 : decode cX4_draft 48 = .ok (.aload_n 0, 1) := by decide +kernel
theorem dX4_draft_49 : decode cX4_draft 49 = .ok (.getfield 30, 3) := by decide +kernel
theorem dX4_draft_52 : decode cX4_draft 52 = .ok (.iload 5, 2) := by decide +kernel
theorem dX4_draft_54 : decode cX4_draft 54 = .ok (.invokevirtual 50, 3) := by decide +kernel
theorem dX4_draft_57 : decode cX4_draft 57 = .ok (.iload_n 3, 1) := by decide +kernel
theorem dX4_draft_58 : decode cX4_draft 58 = .ok (.iadd, 1) := by decide +kernel
theorem dX4_draft_59 : decode cX4_draft 59 = .ok (.dup2, 1) := by decide +kernel
theorem dX4_draft_60 : decode cX4_draft 60 = .ok (.iaload, 1) := by decide +kernel
theorem dX4_draft_61 : decode cX4_draft 61 = .ok (.iload 4, 2) := by decide +kernel
theorem dX4_draft_63 : decode cX4_draft 63 = .ok (.iadd, 1) := by decide +kernel
theorem dX4_draft_64 : decode cX4_draft 64 = .ok (.iastore, 1) := by decide +kernel
theorem dX4_draft_65 : decode cX4_draft 65 = .ok (.iinc 5 1, 3) := by decide +kernel
theorem dX4_draft_68 : decode cX4_draft 68 = .ok (.goto (-41), 3) := by decide +kernel
theorem dX4_draft_71 : decode cX4_draft 71 = .ok (.return_, 1) := by decide +kernel
theorem dX4_knowsDraft_0 : decode cX4_knowsDraft 0 = .ok (.aload_n 0, 1) := by decide +kernel
theorem dX4_knowsDraft_1 : decode cX4_knowsDraft 1 = .ok (.getfield 24, 3) := by decide +kernel
theorem dX4_knowsDraft_4 : decode cX4_knowsDraft 4 = .ok (.aload_n 0, 1) := by decide +kernel
theorem dX4_knowsDraft_5 : decode cX4_knowsDraft 5 = .ok (.invokevirtual 54, 3) := by decide +kernel
theorem dX4_knowsDraft_8 : decode cX4_knowsDraft 8 = .ok (.iaload, 1) := by decide +kernel
theorem dX4_knowsDraft_9 : decode cX4_knowsDraft 9 = .ok (.istore_n 1, 1) := by decide +kernel
theorem dX4_knowsDraft_10 : decode cX4_knowsDraft 10 = .ok (.iconst 0, 1) := by decide +kernel
theorem dX4_knowsDraft_11 : decode cX4_knowsDraft 11 = .ok (.istore_n 2, 1) := by decide +kernel
theorem dX4_knowsDraft_12 : decode cX4_knowsDraft 12 = .ok (.iload_n 2, 1) := by decide +kernel
theorem dX4_knowsDraft_13 : decode cX4_knowsDraft 13 = .ok (.sipush 300, 3) := by decide +kernel
theorem dX4_knowsDraft_16 : decode cX4_knowsDraft 16 = .ok (.if_icmp .ge 31, 3) := by decide +kernel
theorem dX4_knowsDraft_19 : decode cX4_knowsDraft 19 = .ok (.iload_n 1, 1) := by decide +kernel
theorem dX4_knowsDraft_20 : decode cX4_knowsDraft 20 = .ok (.iconst (-1), 1) := by decide +kernel
theorem dX4_knowsDraft_21 : decode cX4_knowsDraft 21 = .ok (.if_icmp .eq 26, 3) := by decide +kernel
theorem dX4_knowsDraft_24 : decode cX4_knowsDraft 24 = .ok (.aload_n 0, 1) := by decide +kernel
theorem dX4_knowsDraft_25 : decode cX4_knowsDraft 25 = .ok (.iload_n 1, 1) := by decide +kernel
theorem dX4_knowsDraft_26 : decode cX4_knowsDraft 26 = .ok (.invokevirtual 58, 3) := by decide +kernel
theorem dX4_knowsDraft_29 : decode cX4_knowsDraft 29 = .ok (.ifCond .eq 5, 3) := by decide +kernel
theorem dX4_knowsDraft_32 : decode cX4_knowsDraft 32 = .ok (.iconst 1, 1) := by decide +kernel
theorem dX4_knowsDraft_33 : decode cX4_knowsDraft 33 = .ok (.ireturn, 1) := by decide +kernel
theorem dX4_knowsDraft_34 : decode cX4_knowsDraft 34 = .ok (.aload_n 0, 1) := by decide +kernel
theorem dX4_knowsDraft_35 : decode cX4_knowsDraft 35 = .ok (.getfield 27, 3) := by decide +kernel
theorem dX4_knowsDraft_38 : decode cX4_knowsDraft 38 = .ok (.iload_n 1, 1) := by decide +kernel
theorem dX4_knowsDraft_39 : decode cX4_knowsDraft 39 = .ok (.iaload, 1) := by decide +kernel
theorem dX4_knowsDraft_40 : decode cX4_knowsDraft 40 = .ok (.istore_n 1, 1) := by decide +kernel
theorem dX4_knowsDraft_41 : decode cX4_knowsDraft 41 = .ok (.iinc 2 1, 3) := by decide +kernel
theorem dX4_knowsDraft_44 : decode cX4_knowsDraft 44 = .ok (.goto (-32), 3) := by decide +kernel
theorem dX4_knowsDraft_47 : decode cX4_knowsDraft 47 = .ok (.iconst 0, 1) := by decide +kernel
theorem dX4_knowsDraft_48 : decode cX4_knowsDraft 48 = .ok (.ireturn, 1) := by decide +kernel
theorem dX4_add_0 : decode cX4_add 0 = .ok (.aload_n 0, 1) := by decide +kernel
theorem dX4_add_1 : decode cX4_add 1 = .ok (.getfield 30, 3) := by decide +kernel
theorem dX4_add_4 : decode cX4_add 4 = .ok (.sipush 300, 3) := by decide +kernel
theorem dX4_add_7 : decode cX4_add 7 = .ok (.if_icmp .lt 4, 3) := by decide +kernel
theorem dX4_add_10 : decode cX4_add 10 = .ok (.return_, 1) := by decide +kernel
theorem dX4_add_11 : decode cX4_add 11 = .ok (.aload_n 0, 1) := by decide +kernel
theorem dX4_add_12 : decode cX4_add 12 = .ok (.invokevirtual 54, 3) := by decide +kernel
theorem dX4_add_15 : decode cX4_add 15 = .ok (.istore_n 3, 1) := by decide +kernel
theorem dX4_add_16 : decode cX4_add 16 = .ok (.aload_n 0, 1) := by decide +kernel
theorem dX4_add_17 : decode cX4_add 17 = .ok (.getfield 15, 3) := by decide +kernel
theorem dX4_add_20 : decode cX4_add 20 = .ok (.aload_n 0, 1) := by decide +kernel
theorem dX4_add_21 : decode cX4_add 21 = .ok (.getfield 30, 3) := by decide +kernel
theorem dX4_add_24 : decode cX4_add 24 = .ok (.iload_n 1, 1) := by decide +kernel
theorem dX4_add_25 : decode cX4_add 25 = .ok (.iastore, 1) := by decide +kernel
theorem dX4_add_26 : decode cX4_add 26 = .ok (.aload_n 0, 1) := by decide +kernel
theorem dX4_add_27 : decode cX4_add 27 = .ok (.getfield 18, 3) := by decide +kernel
theorem dX4_add_30 : decode cX4_add 30 = .ok (.aload_n 0, 1) := by decide +kernel
theorem dX4_add_31 : decode cX4_add 31 = .ok (.getfield 30, 3) := by decide +kernel
theorem dX4_add_34 : decode cX4_add 34 = .ok (.iload_n 2, 1) := by decide +kernel
theorem dX4_add_35 : decode cX4_add 35 = .ok (.iastore, 1) := by decide +kernel
theorem dX4_add_36 : decode cX4_add 36 = .ok (.aload_n 0, 1) := by decide +kernel
theorem dX4_add_37 : decode cX4_add 37 = .ok (.getfield 21, 3) := by decide +kernel
theorem dX4_add_40 : decode cX4_add 40 = .ok (.aload_n 0, 1) := by decide +kernel
theorem dX4_add_41 : decode cX4_add 41 = .ok (.getfield 30, 3) := by decide +kernel
theorem dX4_add_44 : decode cX4_add 44 = .ok (.iload_n 1, 1) := by decide +kernel
theorem dX4_add_45 : decode cX4_add 45 = .ok (.iconst (-1), 1) := by decide +kernel
theorem dX4_add_46 : decode cX4_add 46 = .ok (.if_icmp .ne 7, 3) := by decide +kernel
theorem dX4_add_49 : decode cX4_add 49 = .ok (.iconst 0, 1) := by decide +kernel
theorem dX4_add_50 : decode cX4_add 50 = .ok (.goto 11, 3) := by decide +kernel
theorem dX4_add_53 : decode cX4_add 53 = .ok (.aload_n 0, 1) := by decide +kernel
theorem dX4_add_54 : decode cX4_add 54 = .ok (.getfield 21, 3) := by decide +kernel
theorem dX4_add_57 : decode cX4_add 57 = .ok (.iload_n 1, 1) := by decide +kernel
theorem dX4_add_58 : decode cX4_add 58 = .ok (.iaload, 1) := by decide +kernel
theorem dX4_add_59 : decode cX4_add 59 = .ok (.iconst 1, 1) := by decide +kernel
theorem dX4_add_60 : decode cX4_add 60 = .ok (.iadd, 1) := by decide +kernel
theorem dX4_add_61 : decode cX4_add 61 = .ok (.iastore, 1) := by decide +kernel
theorem dX4_add_62 : decode cX4_add 62 = .ok (.aload_n 0, 1) := by decide +kernel
theorem dX4_add_63 : decode cX4_add 63 = .ok (.getfield 27, 3) := by decide +kernel
theorem dX4_add_66 : decode cX4_add 66 = .ok (.aload_n 0, 1) := by decide +kernel
theorem dX4_add_67 : decode cX4_add 67 = .ok (.getfield 30, 3) := by decide +kernel
theorem dX4_add_70 : decode cX4_add 70 = .ok (.aload_n 0, 1) := by decide +kernel
theorem dX4_add_71 : decode cX4_add 71 = .ok (.getfield 24, 3) := by decide +kernel
theorem dX4_add_74 : decode cX4_add 74 = .ok (.iload_n 3, 1) := by decide +kernel
theorem dX4_add_75 : decode cX4_add 75 = .ok (.iaload, 1) := by decide +kernel
theorem dX4_add_76 : decode cX4_add 76 = .ok (.iastore, 1) := by decide +kernel
theorem dX4_add_77 : decode cX4_add 77 = .ok (.aload_n 0, 1) := by decide +kernel
theorem dX4_add_78 : decode cX4_add 78 = .ok (.getfield 24, 3) := by decide +kernel
theorem dX4_add_81 : decode cX4_add 81 = .ok (.iload_n 3, 1) := by decide +kernel
theorem dX4_add_82 : decode cX4_add 82 = .ok (.aload_n 0, 1) := by decide +kernel
theorem dX4_add_83 : decode cX4_add 83 = .ok (.getfield 30, 3) := by decide +kernel
theorem dX4_add_86 : decode cX4_add 86 = .ok (.iastore, 1) := by decide +kernel
theorem dX4_add_87 : decode cX4_add 87 = .ok (.aload_n 0, 1) := by decide +kernel
theorem dX4_add_88 : decode cX4_add 88 = .ok (.dup, 1) := by decide +kernel
theorem dX4_add_89 : decode cX4_add 89 = .ok (.getfield 30, 3) := by decide +kernel
theorem dX4_add_92 : decode cX4_add 92 = .ok (.iconst 1, 1) := by decide +kernel
theorem dX4_add_93 : decode cX4_add 93 = .ok (.iadd, 1) := by decide +kernel
theorem dX4_add_94 : decode cX4_add 94 = .ok (.putfield 30, 3) := by decide +kernel
theorem dX4_add_97 : decode cX4_add 97 = .ok (.return_, 1) := by decide +kernel
theorem dX4_hashOfDraft_0 : decode cX4_hashOfDraft 0 = .ok (.iconst 0, 1) := by decide +kernel
theorem dX4_hashOfDraft_1 : decode cX4_hashOfDraft 1 = .ok (.istore_n 1, 1) := by decide +kernel
theorem dX4_hashOfDraft_2 : decode cX4_hashOfDraft 2 = .ok (.iconst 0, 1) := by decide +kernel
theorem dX4_hashOfDraft_3 : decode cX4_hashOfDraft 3 = .ok (.istore_n 2, 1) := by decide +kernel
theorem dX4_hashOfDraft_4 : decode cX4_hashOfDraft 4 = .ok (.iload_n 2, 1) := by decide +kernel
theorem dX4_hashOfDraft_5 : decode cX4_hashOfDraft 5 = .ok (.bipush 18, 2) := by decide +kernel
theorem dX4_hashOfDraft_7 : decode cX4_hashOfDraft 7 = .ok (.if_icmp .ge 29, 3) := by decide +kernel
theorem dX4_hashOfDraft_10 : decode cX4_hashOfDraft 10 = .ok (.iload_n 1, 1) := by decide +kernel
theorem dX4_hashOfDraft_11 : decode cX4_hashOfDraft 11 = .ok (.bipush 31, 2) := by decide +kernel
theorem dX4_hashOfDraft_13 : decode cX4_hashOfDraft 13 = .ok (.imul, 1) := by decide +kernel
theorem dX4_hashOfDraft_14 : decode cX4_hashOfDraft 14 = .ok (.aload_n 0, 1) := by decide +kernel
theorem dX4_hashOfDraft_15 : decode cX4_hashOfDraft 15 = .ok (.getfield 11, 3) := by decide +kernel
theorem dX4_hashOfDraft_18 : decode cX4_hashOfDraft 18 = .ok (.aload_n 0, 1) := by decide +kernel
theorem dX4_hashOfDraft_19 : decode cX4_hashOfDraft 19 = .ok (.getfield 30, 3) := by decide +kernel
theorem dX4_hashOfDraft_22 : decode cX4_hashOfDraft 22 = .ok (.bipush 18, 2) := by decide +kernel
theorem dX4_hashOfDraft_24 : decode cX4_hashOfDraft 24 = .ok (.imul, 1) := by decide +kernel
theorem dX4_hashOfDraft_25 : decode cX4_hashOfDraft 25 = .ok (.iload_n 2, 1) := by decide +kernel
theorem dX4_hashOfDraft_26 : decode cX4_hashOfDraft 26 = .ok (.iadd, 1) := by decide +kernel
theorem dX4_hashOfDraft_27 : decode cX4_hashOfDraft 27 = .ok (.iaload, 1) := by decide +kernel
theorem dX4_hashOfDraft_28 : decode cX4_hashOfDraft 28 = .ok (.iadd, 1) := by decide +kernel
theorem dX4_hashOfDraft_29 : decode cX4_hashOfDraft 29 = .ok (.istore_n 1, 1) := by decide +kernel
theorem dX4_hashOfDraft_30 : decode cX4_hashOfDraft 30 = .ok (.iinc 2 1, 3) := by decide +kernel
theorem dX4_hashOfDraft_33 : decode cX4_hashOfDraft 33 = .ok (.goto (-29), 3) := by decide +kernel
theorem dX4_hashOfDraft_36 : decode cX4_hashOfDraft 36 = .ok (.iload_n 1, 1) := by decide +kernel
theorem dX4_hashOfDraft_37 : decode cX4_hashOfDraft 37 = .ok (.iload_n 1, 1) := by decide +kernel
theorem dX4_hashOfDraft_38 : decode cX4_hashOfDraft 38 = .ok (.bipush 9, 2) := by decide +kernel
theorem dX4_hashOfDraft_40 : decode cX4_hashOfDraft 40 = .ok (.iushr, 1) := by decide +kernel
theorem dX4_hashOfDraft_41 : decode cX4_hashOfDraft 41 = .ok (.ixor, 1) := by decide +kernel
theorem dX4_hashOfDraft_42 : decode cX4_hashOfDraft 42 = .ok (.sipush 511, 3) := by decide +kernel
theorem dX4_hashOfDraft_45 : decode cX4_hashOfDraft 45 = .ok (.iand, 1) := by decide +kernel
theorem dX4_hashOfDraft_46 : decode cX4_hashOfDraft 46 = .ok (.ireturn, 1) := by decide +kernel
theorem dX4_isDraft_0 : decode cX4_isDraft 0 = .ok (.iconst 0, 1) := by decide +kernel
theorem dX4_isDraft_1 : decode cX4_isDraft 1 = .ok (.istore_n 2, 1) := by decide +kernel
theorem dX4_isDraft_2 : decode cX4_isDraft 2 = .ok (.iload_n 2, 1) := by decide +kernel
theorem dX4_isDraft_3 : decode cX4_isDraft 3 = .ok (.bipush 18, 2) := by decide +kernel
theorem dX4_isDraft_5 : decode cX4_isDraft 5 = .ok (.if_icmp .ge 39, 3) := by decide +kernel
theorem dX4_isDraft_8 : decode cX4_isDraft 8 = .ok (.aload_n 0, 1) := by decide +kernel
theorem dX4_isDraft_9 : decode cX4_isDraft 9 = .ok (.getfield 11, 3) := by decide +kernel
theorem dX4_isDraft_12 : decode cX4_isDraft 12 = .ok (.iload_n 1, 1) := by decide +kernel
theorem dX4_isDraft_13 : decode cX4_isDraft 13 = .ok (.bipush 18, 2) := by decide +kernel
theorem dX4_isDraft_15 : decode cX4_isDraft 15 = .ok (.imul, 1) := by decide +kernel
theorem dX4_isDraft_16 : decode cX4_isDraft 16 = .ok (.iload_n 2, 1) := by decide +kernel
theorem dX4_isDraft_17 : decode cX4_isDraft 17 = .ok (.iadd, 1) := by decide +kernel
theorem dX4_isDraft_18 : decode cX4_isDraft 18 = .ok (.iaload, 1) := by decide +kernel
theorem dX4_isDraft_19 : decode cX4_isDraft 19 = .ok (.aload_n 0, 1) := by decide +kernel
theorem dX4_isDraft_20 : decode cX4_isDraft 20 = .ok (.getfield 11, 3) := by decide +kernel
theorem dX4_isDraft_23 : decode cX4_isDraft 23 = .ok (.aload_n 0, 1) := by decide +kernel
theorem dX4_isDraft_24 : decode cX4_isDraft 24 = .ok (.getfield 30, 3) := by decide +kernel
theorem dX4_isDraft_27 : decode cX4_isDraft 27 = .ok (.bipush 18, 2) := by decide +kernel
theorem dX4_isDraft_29 : decode cX4_isDraft 29 = .ok (.imul, 1) := by decide +kernel
theorem dX4_isDraft_30 : decode cX4_isDraft 30 = .ok (.iload_n 2, 1) := by decide +kernel
theorem dX4_isDraft_31 : decode cX4_isDraft 31 = .ok (.iadd, 1) := by decide +kernel
theorem dX4_isDraft_32 : decode cX4_isDraft 32 = .ok (.iaload, 1) := by decide +kernel
theorem dX4_isDraft_33 : decode cX4_isDraft 33 = .ok (.if_icmp .eq 5, 3) := by decide +kernel
theorem dX4_isDraft_36 : decode cX4_isDraft 36 = .ok (.iconst 0, 1) := by decide +kernel
theorem dX4_isDraft_37 : decode cX4_isDraft 37 = .ok (.ireturn, 1) := by decide +kernel
theorem dX4_isDraft_38 : decode cX4_isDraft 38 = .ok (.iinc 2 1, 3) := by decide +kernel
theorem dX4_isDraft_41 : decode cX4_isDraft 41 = .ok (.goto (-39), 3) := by decide +kernel
theorem dX4_isDraft_44 : decode cX4_isDraft 44 = .ok (.iconst 1, 1) := by decide +kernel
theorem dX4_isDraft_45 : decode cX4_isDraft 45 = .ok (.ireturn, 1) := by decide +kernel
theorem dX5_init_0 : decode cX5_init 0 = .ok (.aload_n 0, 1) := by decide +kernel
theorem dX5_init_1 : decode cX5_init 1 = .ok (.invokespecial 3, 3) := by decide +kernel
theorem dX5_init_4 : decode cX5_init 4 = .ok (.aload_n 0, 1) := by decide +kernel
theorem dX5_init_5 : decode cX5_init 5 = .ok (.new 9, 3) := by decide +kernel
theorem dX5_init_8 : decode cX5_init 8 = .ok (.dup, 1) := by decide +kernel
theorem dX5_init_9 : decode cX5_init 9 = .ok (.invokespecial 11, 3) := by decide +kernel
theorem dX5_init_12 : decode cX5_init 12 = .ok (.putfield 12, 3) := by decide +kernel
theorem dX5_init_15 : decode cX5_init 15 = .ok (.aload_n 0, 1) := by decide +kernel
theorem dX5_init_16 : decode cX5_init 16 = .ok (.bipush 6, 2) := by decide +kernel
theorem dX5_init_18 : decode cX5_init 18 = .ok (.newarray .long, 2) := by decide +kernel
theorem dX5_init_20 : decode cX5_init 20 = .ok (.putfield 18, 3) := by decide +kernel
theorem dX5_init_23 : decode cX5_init 23 = .ok (.aload_n 0, 1) := by decide +kernel
theorem dX5_init_24 : decode cX5_init 24 = .ok (.bipush 6, 2) := by decide +kernel
theorem dX5_init_26 : decode cX5_init 26 = .ok (.anewarray 22, 3) := by decide +kernel
theorem dX5_init_29 : decode cX5_init 29 = .ok (.putfield 24, 3) := by decide +kernel
theorem dX5_init_32 : decode cX5_init 32 = .ok (.iconst 0, 1) := by decide +kernel
theorem dX5_init_33 : decode cX5_init 33 = .ok (.istore_n 1, 1) := by decide +kernel
theorem dX5_init_34 : decode cX5_init 34 = .ok (.iload_n 1, 1) := by decide +kernel
theorem dX5_init_35 : decode cX5_init 35 = .ok (.bipush 6, 2) := by decide +kernel
theorem dX5_init_37 : decode cX5_init 37 = .ok (.if_icmp .ge 22, 3) := by decide +kernel
theorem dX5_init_40 : decode cX5_init 40 = .ok (.aload_n 0, 1) := by decide +kernel
theorem dX5_init_41 : decode cX5_init 41 = .ok (.getfield 24, 3) := by decide +kernel
theorem dX5_init_44 : decode cX5_init 44 = .ok (.iload_n 1, 1) := by decide +kernel
theorem dX5_init_45 : decode cX5_init 45 = .ok (.new 22, 3) := by decide +kernel
theorem dX5_init_48 : decode cX5_init 48 = .ok (.dup, 1) := by decide +kernel
theorem dX5_init_49 : decode cX5_init 49 = .ok (.invokespecial 28, 3) := by decide +kernel
theorem dX5_init_52 : decode cX5_init 52 = .ok (.aastore, 1) := by decide +kernel
theorem dX5_init_53 : decode cX5_init 53 = .ok (.iinc 1 1, 3) := by decide +kernel
theorem dX5_init_56 : decode cX5_init 56 = .ok (.goto (-22), 3) := by decide +kernel
theorem dX5_init_59 : decode cX5_init 59 = .ok (.aload_n 0, 1) := by decide +kernel
theorem dX5_init_60 : decode cX5_init 60 = .ok (.new 22, 3) := by decide +kernel
theorem dX5_init_63 : decode cX5_init 63 = .ok (.dup, 1) := by decide +kernel
theorem dX5_init_64 : decode cX5_init 64 = .ok (.invokespecial 28, 3) := by decide +kernel
theorem dX5_init_67 : decode cX5_init 67 = .ok (.putfield 29, 3) := by decide +kernel
theorem dX5_init_70 : decode cX5_init 70 = .ok (.aload_n 0, 1) := by decide +kernel
theorem dX5_init_71 : decode cX5_init 71 = .ok (.new 22, 3) := by decide +kernel
theorem dX5_init_74 : decode cX5_init 74 = .ok (.dup, 1) := by decide +kernel
theorem dX5_init_75 : decode cX5_init 75 = .ok (.invokespecial 28, 3) := by decide +kernel
theorem dX5_init_78 : decode cX5_init 78 = .ok (.putfield 33, 3) := by decide +kernel
theorem dX5_init_81 : decode cX5_init 81 = .ok (.aload_n 0, 1) := by decide +kernel
theorem dX5_init_82 : decode cX5_init 82 = .ok (.sipush 216, 3) := by decide +kernel
theorem dX5_init_85 : decode cX5_init 85 = .ok (.newarray .int, 2) := by decide +kernel
theorem dX5_init_87 : decode cX5_init 87 = .ok (.putfield 36, 3) := by decide +kernel
theorem dX5_init_90 : decode cX5_init 90 = .ok (.aload_n 0, 1) := by decide +kernel
theorem dX5_init_91 : decode cX5_init 91 = .ok (.sipush 300, 3) := by decide +kernel
theorem dX5_init_94 : decode cX5_init 94 = .ok (.newarray .int, 2) := by decide +kernel
theorem dX5_init_96 : decode cX5_init 96 = .ok (.putfield 40, 3) := by decide +kernel
theorem dX5_init_99 : decode cX5_init 99 = .ok (.return_, 1) := by decide +kernel
theorem dX5_countKept_0 : decode cX5_countKept 0 = .ok (.aload_n 0, 1) := by decide +kernel
theorem dX5_countKept_1 : decode cX5_countKept 1 = .ok (.getfield 12, 3) := by decide +kernel
theorem dX5_countKept_4 : decode cX5_countKept 4 = .ok (.invokevirtual 43, 3) := by decide +kernel
theorem dX5_countKept_7 : decode cX5_countKept 7 = .ok (.ireturn, 1) := by decide +kernel
theorem dX5_countMoves_0 : decode cX5_countMoves 0 = .ok (.aload_n 0, 1) := by decide +kernel
theorem dX5_countMoves_1 : decode cX5_countMoves 1 = .ok (.getfield 47, 3) := by decide +kernel
theorem dX5_countMoves_4 : decode cX5_countMoves 4 = .ok (.ireturn, 1) := by decide +kernel
theorem dX5_moveAt_0 : decode cX5_moveAt 0 = .ok (.aload_n 0, 1) := by decide +kernel
theorem dX5_moveAt_1 : decode cX5_moveAt 1 = .ok (.getfield 40, 3) := by decide +kernel
theorem dX5_moveAt_4 : decode cX5_moveAt 4 = .ok (.iload_n 1, 1) := by decide +kernel
theorem dX5_moveAt_5 : decode cX5_moveAt 5 = .ok (.iaload, 1) := by decide +kernel
theorem dX5_moveAt_6 : decode cX5_moveAt 6 = .ok (.ireturn, 1) := by decide +kernel
theorem dX5_look_0 : decode cX5_look 0 = .ok (.aload_n 0, 1) := by decide +kernel
theorem dX5_look_1 : decode cX5_look 1 = .ok (.iload_n 2, 1) := by decide +kernel
theorem dX5_look_2 : decode cX5_look 2 = .ok (.putfield 51, 3) := by decide +kernel
theorem dX5_look_5 : decode cX5_look 5 = .ok (.aload_n 0, 1) := by decide +kernel
theorem dX5_look_6 : decode cX5_look 6 = .ok (.iload_n 3, 1) := by decide +kernel
theorem dX5_look_7 : decode cX5_look 7 = .ok (.putfield 54, 3) := by decide +kernel
theorem dX5_look_10 : decode cX5_look 10 = .ok (.aload_n 0, 1) := by decide +kernel
theorem dX5_look_11 : decode cX5_look 11 = .ok (.iconst 0, 1) := by decide +kernel
theorem dX5_look_12 : decode cX5_look 12 = .ok (.putfield 47, 3) := by decide +kernel
theorem dX5_look_15 : decode cX5_look 15 = .ok (.iconst 0, 1) := by decide +kernel
theorem dX5_look_16 : decode cX5_look 16 = .ok (.istore 4, 2) := by decide +kernel
theorem dX5_look_18 : decode cX5_look 18 = .ok (.iload 4, 2) := by decide +kernel
theorem dX5_look_20 : decode cX5_look 20 = .ok (.bipush 6, 2) := by decide +kernel
theorem dX5_look_22 : decode cX5_look 22 = .ok (.if_icmp .ge 34, 3) := by decide +kernel
theorem dX5_look_25 : decode cX5_look 25 = .ok (.aload_n 0, 1) := by decide +kernel
theorem dX5_look_26 : decode cX5_look 26 = .ok (.getfield 18, 3) := by decide +kernel
theorem dX5_look_29 : decode cX5_look 29 = .ok (.iload 4, 2) := by decide +kernel
theorem dX5_look_31 : decode cX5_look 31 = .ok (.aload_n 1, 1) := by decide +kernel
theorem dX5_look_32 : decode cX5_look 32 = .ok (.iload 4, 2) := by decide +kernel
theorem dX5_look_34 : decode cX5_look 34 = .ok (.laload, 1) := by decide +kernel
theorem dX5_look_35 : decode cX5_look 35 = .ok (.lastore, 1) := by decide +kernel
theorem dX5_look_36 : decode cX5_look 36 = .ok (.aload_n 0, 1) := by decide +kernel
theorem dX5_look_37 : decode cX5_look 37 = .ok (.getfield 24, 3) := by decide +kernel
theorem dX5_look_40 : decode cX5_look 40 = .ok (.iload 4, 2) := by decide +kernel
theorem dX5_look_42 : decode cX5_look 42 = .ok (.aaload, 1) := by decide +kernel
theorem dX5_look_43 : decode cX5_look 43 = .ok (.aload_n 1, 1) := by decide +kernel
theorem dX5_look_44 : decode cX5_look 44 = .ok (.iload 4, 2) := by decide +kernel
theorem dX5_look_46 : decode cX5_look 46 = .ok (.laload, 1) := by decide +kernel
theorem dX5_look_47 : decode cX5_look 47 = .ok (.invokevirtual 57, 3) := by decide +kernel
theorem dX5_look_50 : decode cX5_look 50 = .ok (.iinc 4 1, 3) := by decide +kernel
theorem dX5_look_53 : decode cX5_look 53 = .ok (.goto (-35), 3) := by decide +kernel
theorem dX5_look_56 : decode cX5_look 56 = .ok (.aload_n 0, 1) := by decide +kernel
theorem dX5_look_57 : decode cX5_look 57 = .ok (.getfield 12, 3) := by decide +kernel
theorem dX5_look_60 : decode cX5_look 60 = .ok (.invokevirtual 61, 3) := by decide +kernel
theorem dX5_look_63 : decode cX5_look 63 = .ok (.iconst 0, 1) := by decide +kernel
theorem dX5_look_64 : decode cX5_look 64 = .ok (.istore 4, 2) := by decide +kernel
theorem dX5_look_66 : decode cX5_look 66 = .ok (.iload 4, 2) := by decide +kernel
theorem dX5_look_68 : decode cX5_look 68 = .ok (.sipush 300, 3) := by decide +kernel
theorem dX5_look_71 : decode cX5_look 71 = .ok (.if_icmp .ge 37, 3) := by decide +kernel
theorem dX5_look_74 : decode cX5_look 74 = .ok (.iload 4, 2) := by decide +kernel
theorem dX5_look_76 : decode cX5_look 76 = .ok (.aload_n 0, 1) := by decide +kernel
theorem dX5_look_77 : decode cX5_look 77 = .ok (.getfield 12, 3) := by decide +kernel
theorem dX5_look_80 : decode cX5_look 80 = .ok (.invokevirtual 43, 3) := by decide +kernel
theorem dX5_look_83 : decode cX5_look 83 = .ok (.if_icmp .ge 25, 3) := by decide +kernel
theorem dX5_look_86 : decode cX5_look 86 = .ok (.aload_n 0, 1) := by decide +kernel
theorem dX5_look_87 : decode cX5_look 87 = .ok (.iload 4, 2) := by decide +kernel
theorem dX5_look_89 : decode cX5_look 89 = .ok (.invokevirtual 64, 3) := by decide +kernel
theorem dX5_look_92 : decode cX5_look 92 = .ok (.istore 5, 2) := by decide +kernel
theorem dX5_look_94 : decode cX5_look 94 = .ok (.iload 5, 2) := by decide +kernel
theorem dX5_look_96 : decode cX5_look 96 = .ok (.ifCond .eq 6, 3) := by decide +kernel
theorem dX5_look_99 : decode cX5_look 99 = .ok (.iload 5, 2) := by decide +kernel
theorem dX5_look_101 : decode cX5_look 101 = .ok (.ireturn, 1) := by decide +kernel
theorem dX5_look_102 : decode cX5_look 102 = .ok (.iinc 4 1, 3) := by decide +kernel
theorem dX5_look_105 : decode cX5_look 105 = .ok (.goto (-39), 3) := by decide +kernel
theorem dX5_look_108 : decode cX5_look 108 = .ok (.iconst (-1), 1) := by decide +kernel
theorem dX5_look_109 : decode cX5_look 109 = .ok (.ireturn, 1) := by decide +kernel
theorem dX5_expand_0 : decode cX5_expand 0 = .ok (.aload_n 0, 1) := by decide +kernel
theorem dX5_expand_1 : decode cX5_expand 1 = .ok (.iload_n 1, 1) := by decide +kernel
theorem dX5_expand_2 : decode cX5_expand 2 = .ok (.invokevirtual 68, 3) := by decide +kernel
theorem dX5_expand_5 : decode cX5_expand 5 = .ok (.iconst 1, 1) := by decide +kernel
theorem dX5_expand_6 : decode cX5_expand 6 = .ok (.istore_n 2, 1) := by decide +kernel
theorem dX5_expand_7 : decode cX5_expand 7 = .ok (.iload_n 2, 1) := by decide +kernel
theorem dX5_expand_8 : decode cX5_expand 8 = .ok (.aload_n 0, 1) := by decide +kernel
theorem dX5_expand_9 : decode cX5_expand 9 = .ok (.getfield 51, 3) := by decide +kernel
theorem dX5_expand_12 : decode cX5_expand 12 = .ok (.if_icmp .ge 69, 3) := by decide +kernel
theorem dX5_expand_15 : decode cX5_expand 15 = .ok (.iload_n 2, 1) := by decide +kernel
theorem dX5_expand_16 : decode cX5_expand 16 = .ok (.aload_n 0, 1) := by decide +kernel
theorem dX5_expand_17 : decode cX5_expand 17 = .ok (.getfield 51, 3) := by decide +kernel
theorem dX5_expand_20 : decode cX5_expand 20 = .ok (.iconst (-1), 1) := by decide +kernel
theorem dX5_expand_21 : decode cX5_expand 21 = .ok (.ixor, 1) := by decide +kernel
theorem dX5_expand_22 : decode cX5_expand 22 = .ok (.iand, 1) := by decide +kernel
theorem dX5_expand_23 : decode cX5_expand 23 = .ok (.ifCond .ne 52, 3) := by decide +kernel
theorem dX5_expand_26 : decode cX5_expand 26 = .ok (.iload_n 2, 1) := by decide +kernel
theorem dX5_expand_27 : decode cX5_expand 27 = .ok (.aload_n 0, 1) := by decide +kernel
theorem dX5_expand_28 : decode cX5_expand 28 = .ok (.getfield 51, 3) := by decide +kernel
theorem dX5_expand_31 : decode cX5_expand 31 = .ok (.iload_n 2, 1) := by decide +kernel
theorem dX5_expand_32 : decode cX5_expand 32 = .ok (.iconst (-1), 1) := by decide +kernel
theorem dX5_expand_33 : decode cX5_expand 33 = .ok (.ixor, 1) := by decide +kernel
theorem dX5_expand_34 : decode cX5_expand 34 = .ok (.iand, 1) := by decide +kernel
theorem dX5_expand_35 : decode cX5_expand 35 = .ok (.if_icmp .ge 40, 3) := by decide +kernel
theorem dX5_expand_38 : decode cX5_expand 38 = .ok (.aload_n 0, 1) := by decide +kernel
theorem dX5_expand_39 : decode cX5_expand 39 = .ok (.iload_n 1, 1) := by decide +kernel
theorem dX5_expand_40 : decode cX5_expand 40 = .ok (.iload_n 2, 1) := by decide +kernel
theorem dX5_expand_41 : decode cX5_expand 41 = .ok (.invokevirtual 72, 3) := by decide +kernel
theorem dX5_expand_44 : decode cX5_expand 44 = .ok (.iconst 0, 1) := by decide +kernel
theorem dX5_expand_45 : decode cX5_expand 45 = .ok (.istore_n 3, 1) := by decide +kernel
theorem dX5_expand_46 : decode cX5_expand 46 = .ok (.iload_n 3, 1) := by decide +kernel
theorem dX5_expand_47 : decode cX5_expand 47 = .ok (.bipush 6, 2) := by decide +kernel
theorem dX5_expand_49 : decode cX5_expand 49 = .ok (.if_icmp .ge 26, 3) := by decide +kernel
theorem dX5_expand_52 : decode cX5_expand 52 = .ok (.aload_n 0, 1) := by decide +kernel
theorem dX5_expand_53 : decode cX5_expand 53 = .ok (.iload_n 1, 1) := by decide +kernel
theorem dX5_expand_54 : decode cX5_expand 54 = .ok (.iload_n 2, 1) := by decide +kernel
theorem dX5_expand_55 : decode cX5_expand 55 = .ok (.iload_n 3, 1) := by decide +kernel
theorem dX5_expand_56 : decode cX5_expand 56 = .ok (.invokevirtual 76, 3) := by decide +kernel
theorem dX5_expand_59 : decode cX5_expand 59 = .ok (.istore 4, 2) := by decide +kernel
theorem dX5_expand_61 : decode cX5_expand 61 = .ok (.iload 4, 2) := by decide +kernel
theorem dX5_expand_63 : decode cX5_expand 63 = .ok (.ifCond .eq 6, 3) := by decide +kernel
theorem dX5_expand_66 : decode cX5_expand 66 = .ok (.iload 4, 2) := by decide +kernel
theorem dX5_expand_68 : decode cX5_expand 68 = .ok (.ireturn, 1) := by decide +kernel
theorem dX5_expand_69 : decode cX5_expand 69 = .ok (.iinc 3 1, 3) := by decide +kernel
theorem dX5_expand_72 : decode cX5_expand 72 = .ok (.goto (-26), 3) := by decide +kernel
theorem dX5_expand_75 : decode cX5_expand 75 = .ok (.iinc 2 1, 3) := by decide +kernel
theorem dX5_expand_78 : decode cX5_expand 78 = .ok (.goto (-71), 3) := by decide +kernel
theorem dX5_expand_81 : decode cX5_expand 81 = .ok (.iconst 0, 1) := by decide +kernel
theorem dX5_expand_82 : decode cX5_expand 82 = .ok (.ireturn, 1) := by decide +kernel
theorem dX5_tryRuns_0 : decode cX5_tryRuns 0 = .ok (.aload_n 0, 1) := by decide +kernel
theorem dX5_tryRuns_1 : decode cX5_tryRuns 1 = .ok (.iload_n 2, 1) := by decide +kernel
theorem dX5_tryRuns_2 : decode cX5_tryRuns 2 = .ok (.iload_n 3, 1) := by decide +kernel
theorem dX5_tryRuns_3 : decode cX5_tryRuns 3 = .ok (.invokevirtual 80, 3) := by decide +kernel
theorem dX5_tryRuns_6 : decode cX5_tryRuns 6 = .ok (.istore 4, 2) := by decide +kernel
theorem dX5_tryRuns_8 : decode cX5_tryRuns 8 = .ok (.iload_n 3, 1) := by decide +kernel
theorem dX5_tryRuns_9 : decode cX5_tryRuns 9 = .ok (.iconst 2, 1) := by decide +kernel
theorem dX5_tryRuns_10 : decode cX5_tryRuns 10 = .ok (.idiv, 1) := by decide +kernel
theorem dX5_tryRuns_11 : decode cX5_tryRuns 11 = .ok (.istore 5, 2) := by decide +kernel
theorem dX5_tryRuns_13 : decode cX5_tryRuns 13 = .ok (.iconst 1, 1) := by decide +kernel
theorem dX5_tryRuns_14 : decode cX5_tryRuns 14 = .ok (.istore 6, 2) := by decide +kernel
theorem dX5_tryRuns_16 : decode cX5_tryRuns 16 = .ok (.iload 6, 2) := by decide +kernel
theorem dX5_tryRuns_18 : decode cX5_tryRuns 18 = .ok (.iload 4, 2) := by decide +kernel
theorem dX5_tryRuns_20 : decode cX5_tryRuns 20 = .ok (.if_icmp .gt 116, 3) := by decide +kernel
theorem dX5_tryRuns_23 : decode cX5_tryRuns 23 = .ok (.iload_n 3, 1) := by decide +kernel
theorem dX5_tryRuns_24 : decode cX5_tryRuns 24 = .ok (.iconst 2, 1) := by decide +kernel
theorem dX5_tryRuns_25 : decode cX5_tryRuns 25 = .ok (.irem, 1) := by decide +kernel
theorem dX5_tryRuns_26 : decode cX5_tryRuns 26 = .ok (.ifCond .ne 8, 3) := by decide +kernel
theorem dX5_tryRuns_29 : decode cX5_tryRuns 29 = .ok (.iload 6, 2) := by decide +kernel
theorem dX5_tryRuns_31 : decode cX5_tryRuns 31 = .ok (.goto 6, 3) := by decide +kernel
theorem dX5_tryRuns_34 : decode cX5_tryRuns 34 = .ok (.iload 6, 2) := by decide +kernel
theorem dX5_tryRuns_36 : decode cX5_tryRuns 36 = .ok (.ineg, 1) := by decide +kernel
theorem dX5_tryRuns_37 : decode cX5_tryRuns 37 = .ok (.istore 7, 2) := by decide +kernel
theorem dX5_tryRuns_39 : decode cX5_tryRuns 39 = .ok (.sipush 1000, 3) := by decide +kernel
theorem dX5_tryRuns_42 : decode cX5_tryRuns 42 = .ok (.iload_n 2, 1) := by decide +kernel
theorem dX5_tryRuns_43 : decode cX5_tryRuns 43 = .ok (.imul, 1) := by decide +kernel
theorem dX5_tryRuns_44 : decode cX5_tryRuns 44 = .ok (.bipush 100, 2) := by decide +kernel
theorem dX5_tryRuns_46 : decode cX5_tryRuns 46 = .ok (.iload_n 3, 1) := by decide +kernel
theorem dX5_tryRuns_47 : decode cX5_tryRuns 47 = .ok (.imul, 1) := by decide +kernel
theorem dX5_tryRuns_48 : decode cX5_tryRuns 48 = .ok (.iadd, 1) := by decide +kernel
theorem dX5_tryRuns_49 : decode cX5_tryRuns 49 = .ok (.iload 6, 2) := by decide +kernel
theorem dX5_tryRuns_51 : decode cX5_tryRuns 51 = .ok (.iadd, 1) := by decide +kernel
theorem dX5_tryRuns_52 : decode cX5_tryRuns 52 = .ok (.istore 8, 2) := by decide +kernel
theorem dX5_tryRuns_54 : decode cX5_tryRuns 54 = .ok (.aload_n 0, 1) := by decide +kernel
theorem dX5_tryRuns_55 : decode cX5_tryRuns 55 = .ok (.getfield 29, 3) := by decide +kernel
theorem dX5_tryRuns_58 : decode cX5_tryRuns 58 = .ok (.aload_n 0, 1) := by decide +kernel
theorem dX5_tryRuns_59 : decode cX5_tryRuns 59 = .ok (.getfield 33, 3) := by decide +kernel
theorem dX5_tryRuns_62 : decode cX5_tryRuns 62 = .ok (.iload 5, 2) := by decide +kernel
theorem dX5_tryRuns_64 : decode cX5_tryRuns 64 = .ok (.iload 7, 2) := by decide +kernel
theorem dX5_tryRuns_66 : decode cX5_tryRuns 66 = .ok (.invokevirtual 84, 3) := by decide +kernel
theorem dX5_tryRuns_69 : decode cX5_tryRuns 69 = .ok (.ifCond .eq 11, 3) := by decide +kernel
theorem dX5_tryRuns_72 : decode cX5_tryRuns 72 = .ok (.aload_n 0, 1) := by decide +kernel
theorem dX5_tryRuns_73 : decode cX5_tryRuns 73 = .ok (.iload_n 1, 1) := by decide +kernel
theorem dX5_tryRuns_74 : decode cX5_tryRuns 74 = .ok (.iload 8, 2) := by decide +kernel
theorem dX5_tryRuns_76 : decode cX5_tryRuns 76 = .ok (.invokevirtual 88, 3) := by decide +kernel
theorem dX5_tryRuns_79 : decode cX5_tryRuns 79 = .ok (.ireturn, 1) := by decide +kernel
theorem dX5_tryRuns_80 : decode cX5_tryRuns 80 = .ok (.aload_n 0, 1) := by decide +kernel
theorem dX5_tryRuns_81 : decode cX5_tryRuns 81 = .ok (.getfield 12, 3) := by decide +kernel
theorem dX5_tryRuns_84 : decode cX5_tryRuns 84 = .ok (.iload_n 1, 1) := by decide +kernel
theorem dX5_tryRuns_85 : decode cX5_tryRuns 85 = .ok (.iload_n 2, 1) := by decide +kernel
theorem dX5_tryRuns_86 : decode cX5_tryRuns 86 = .ok (.iload 5, 2) := by decide +kernel
theorem dX5_tryRuns_88 : decode cX5_tryRuns 88 = .ok (.iload 7, 2) := by decide +kernel
theorem dX5_tryRuns_90 : decode cX5_tryRuns 90 = .ok (.invokevirtual 91, 3) := by decide +kernel
theorem dX5_tryRuns_93 : decode cX5_tryRuns 93 = .ok (.aload_n 0, 1) := by decide +kernel
theorem dX5_tryRuns_94 : decode cX5_tryRuns 94 = .ok (.getfield 12, 3) := by decide +kernel
theorem dX5_tryRuns_97 : decode cX5_tryRuns 97 = .ok (.invokevirtual 95, 3) := by decide +kernel
theorem dX5_tryRuns_100 : decode cX5_tryRuns 100 = .ok (.ifCond .ne 30, 3) := by decide +kernel
theorem dX5_tryRuns_103 : decode cX5_tryRuns 103 = .ok (.aload_n 0, 1) := by decide +kernel
theorem dX5_tryRuns_104 : decode cX5_tryRuns 104 = .ok (.getfield 12, 3) := by decide +kernel
theorem dX5_tryRuns_107 : decode cX5_tryRuns 107 = .ok (.invokevirtual 43, 3) := by decide +kernel
theorem dX5_tryRuns_110 : decode cX5_tryRuns 110 = .ok (.aload_n 0, 1) := by decide +kernel
theorem dX5_tryRuns_111 : decode cX5_tryRuns 111 = .ok (.getfield 54, 3) := by decide +kernel
theorem dX5_tryRuns_114 : decode cX5_tryRuns 114 = .ok (.if_icmp .lt 6, 3) := by decide +kernel
theorem dX5_tryRuns_117 : decode cX5_tryRuns 117 = .ok (.bipush (-2), 2) := by decide +kernel
theorem dX5_tryRuns_119 : decode cX5_tryRuns 119 = .ok (.ireturn, 1) := by decide +kernel
theorem dX5_tryRuns_120 : decode cX5_tryRuns 120 = .ok (.aload_n 0, 1) := by decide +kernel
theorem dX5_tryRuns_121 : decode cX5_tryRuns 121 = .ok (.getfield 12, 3) := by decide +kernel
theorem dX5_tryRuns_124 : decode cX5_tryRuns 124 = .ok (.iload_n 1, 1) := by decide +kernel
theorem dX5_tryRuns_125 : decode cX5_tryRuns 125 = .ok (.iload 8, 2) := by decide +kernel
theorem dX5_tryRuns_127 : decode cX5_tryRuns 127 = .ok (.invokevirtual 99, 3) := by decide +kernel
theorem dX5_tryRuns_130 : decode cX5_tryRuns 130 = .ok (.iinc 6 1, 3) := by decide +kernel
theorem dX5_tryRuns_133 : decode cX5_tryRuns 133 = .ok (.goto (-117), 3) := by decide +kernel
theorem dX5_tryRuns_136 : decode cX5_tryRuns 136 = .ok (.iconst 0, 1) := by decide +kernel
theorem dX5_tryRuns_137 : decode cX5_tryRuns 137 = .ok (.ireturn, 1) := by decide +kernel
theorem dX5_writePlan_0 : decode cX5_writePlan 0 = .ok (.aload_n 0, 1) := by decide +kernel
theorem dX5_writePlan_1 : decode cX5_writePlan 1 = .ok (.getfield 12, 3) := by decide +kernel
theorem dX5_writePlan_4 : decode cX5_writePlan 4 = .ok (.iload_n 1, 1) := by decide +kernel
theorem dX5_writePlan_5 : decode cX5_writePlan 5 = .ok (.invokevirtual 102, 3) := by decide +kernel
theorem dX5_writePlan_8 : decode cX5_writePlan 8 = .ok (.iconst 1, 1) := by decide +kernel
theorem dX5_writePlan_9 : decode cX5_writePlan 9 = .ok (.iadd, 1) := by decide +kernel
theorem dX5_writePlan_10 : decode cX5_writePlan 10 = .ok (.istore_n 3, 1) := by decide +kernel
theorem dX5_writePlan_11 : decode cX5_writePlan 11 = .ok (.iload_n 3, 1) := by decide +kernel
theorem dX5_writePlan_12 : decode cX5_writePlan 12 = .ok (.sipush 300, 3) := by decide +kernel
theorem dX5_writePlan_15 : decode cX5_writePlan 15 = .ok (.if_icmp .le 6, 3) := by decide +kernel
theorem dX5_writePlan_18 : decode cX5_writePlan 18 = .ok (.bipush (-2), 2) := by decide +kernel
theorem dX5_writePlan_20 : decode cX5_writePlan 20 = .ok (.ireturn, 1) := by decide +kernel
theorem dX5_writePlan_21 : decode cX5_writePlan 21 = .ok (.aload_n 0, 1) := by decide +kernel
theorem dX5_writePlan_22 : decode cX5_writePlan 22 = .ok (.getfield 40, 3) := by decide +kernel
theorem dX5_writePlan_25 : decode cX5_writePlan 25 = .ok (.iload_n 3, 1) := by decide +kernel
theorem dX5_writePlan_26 : decode cX5_writePlan 26 = .ok (.iconst 1, 1) := by decide +kernel
theorem dX5_writePlan_27 : decode cX5_writePlan 27 = .ok (.isub, 1) := by decide +kernel
theorem dX5_writePlan_28 : decode cX5_writePlan 28 = .ok (.iload_n 2, 1) := by decide +kernel
theorem dX5_writePlan_29 : decode cX5_writePlan 29 = .ok (.iastore, 1) := by decide +kernel
theorem dX5_writePlan_30 : decode cX5_writePlan 30 = .ok (.iload_n 1, 1) := by decide +kernel
theorem dX5_writePlan_31 : decode cX5_writePlan 31 = .ok (.istore 4, 2) := by decide +kernel
theorem dX5_writePlan_33 : decode cX5_writePlan 33 = .ok (.iload_n 3, 1) := by decide +kernel
theorem dX5_writePlan_34 : decode cX5_writePlan 34 = .ok (.iconst 2, 1) := by decide +kernel
theorem dX5_writePlan_35 : decode cX5_writePlan 35 = .ok (.isub, 1) := by decide +kernel
theorem dX5_writePlan_36 : decode cX5_writePlan 36 = .ok (.istore 5, 2) := by decide +kernel
theorem dX5_writePlan_38 : decode cX5_writePlan 38 = .ok (.iload 5, 2) := by decide +kernel
theorem dX5_writePlan_40 : decode cX5_writePlan 40 = .ok (.ifCond .lt 36, 3) := by decide +kernel
theorem dX5_writePlan_43 : decode cX5_writePlan 43 = .ok (.aload_n 0, 1) := by decide +kernel
theorem dX5_writePlan_44 : decode cX5_writePlan 44 = .ok (.getfield 40, 3) := by decide +kernel
theorem dX5_writePlan_47 : decode cX5_writePlan 47 = .ok (.iload 5, 2) := by decide +kernel
theorem dX5_writePlan_49 : decode cX5_writePlan 49 = .ok (.aload_n 0, 1) := by decide +kernel
theorem dX5_writePlan_50 : decode cX5_writePlan 50 = .ok (.getfield 12, 3) := by decide +kernel
theorem dX5_writePlan_53 : decode cX5_writePlan 53 = .ok (.iload 4, 2) := by decide +kernel
theorem dX5_writePlan_55 : decode cX5_writePlan 55 = .ok (.invokevirtual 105, 3) := by decide +kernel
theorem dX5_writePlan_58 : decode cX5_writePlan 58 = .ok (.iastore, 1) := by decide +kernel
theorem dX5_writePlan_59 : decode cX5_writePlan 59 = .ok (.aload_n 0, 1) := by decide +kernel
theorem dX5_writePlan_60 : decode cX5_writePlan 60 = .ok (.getfield 12, 3) := by decide +kernel
theorem dX5_writePlan_63 : decode cX5_writePlan 63 = .ok (.iload 4, 2) := by decide +kernel
theorem dX5_writePlan_65 : decode cX5_writePlan 65 = .ok (.invokevirtual 108, 3) := by decide +kernel
theorem dX5_writePlan_68 : decode cX5_writePlan 68 = .ok (.istore 4, 2) := by decide +kernel
theorem dX5_writePlan_70 : decode cX5_writePlan 70 = .ok (.iinc 5 (-1), 3) := by decide +kernel
theorem dX5_writePlan_73 : decode cX5_writePlan 73 = .ok (.goto (-35), 3) := by decide +kernel
theorem dX5_writePlan_76 : decode cX5_writePlan 76 = .ok (.aload_n 0, 1) := by decide +kernel
theorem dX5_writePlan_77 : decode cX5_writePlan 77 = .ok (.iload_n 3, 1) := by decide +kernel
theorem dX5_writePlan_78 : decode cX5_writePlan 78 = .ok (.putfield 47, 3) := by decide +kernel
theorem dX5_writePlan_81 : decode cX5_writePlan 81 = .ok (.iload_n 3, 1) := by decide +kernel
theorem dX5_writePlan_82 : decode cX5_writePlan 82 = .ok (.ireturn, 1) := by decide +kernel
theorem dX5_measureBoxes_0 : decode cX5_measureBoxes 0 = .ok (.aload_n 0, 1) := by decide +kernel
theorem dX5_measureBoxes_1 : decode cX5_measureBoxes 1 = .ok (.getfield 29, 3) := by decide +kernel
theorem dX5_measureBoxes_4 : decode cX5_measureBoxes 4 = .ok (.invokevirtual 111, 3) := by decide +kernel
theorem dX5_measureBoxes_7 : decode cX5_measureBoxes 7 = .ok (.aload_n 0, 1) := by decide +kernel
theorem dX5_measureBoxes_8 : decode cX5_measureBoxes 8 = .ok (.getfield 33, 3) := by decide +kernel
theorem dX5_measureBoxes_11 : decode cX5_measureBoxes 11 = .ok (.invokevirtual 111, 3) := by decide +kernel
theorem dX5_measureBoxes_14 : decode cX5_measureBoxes 14 = .ok (.iconst 0, 1) := by decide +kernel
theorem dX5_measureBoxes_15 : decode cX5_measureBoxes 15 = .ok (.istore_n 3, 1) := by decide +kernel
theorem dX5_measureBoxes_16 : decode cX5_measureBoxes 16 = .ok (.iload_n 3, 1) := by decide +kernel
theorem dX5_measureBoxes_17 : decode cX5_measureBoxes 17 = .ok (.bipush 6, 2) := by decide +kernel
theorem dX5_measureBoxes_19 : decode cX5_measureBoxes 19 = .ok (.if_icmp .ge 68, 3) := by decide +kernel
theorem dX5_measureBoxes_22 : decode cX5_measureBoxes 22 = .ok (.aload_n 0, 1) := by decide +kernel
theorem dX5_measureBoxes_23 : decode cX5_measureBoxes 23 = .ok (.getfield 51, 3) := by decide +kernel
theorem dX5_measureBoxes_26 : decode cX5_measureBoxes 26 = .ok (.iload_n 3, 1) := by decide +kernel
theorem dX5_measureBoxes_27 : decode cX5_measureBoxes 27 = .ok (.ishr, 1) := by decide +kernel
theorem dX5_measureBoxes_28 : decode cX5_measureBoxes 28 = .ok (.iconst 1, 1) := by decide +kernel
theorem dX5_measureBoxes_29 : decode cX5_measureBoxes 29 = .ok (.iand, 1) := by decide +kernel
theorem dX5_measureBoxes_30 : decode cX5_measureBoxes 30 = .ok (.ifCond .eq 51, 3) := by decide +kernel
theorem dX5_measureBoxes_33 : decode cX5_measureBoxes 33 = .ok (.iload_n 2, 1) := by decide +kernel
theorem dX5_measureBoxes_34 : decode cX5_measureBoxes 34 = .ok (.iload_n 3, 1) := by decide +kernel
theorem dX5_measureBoxes_35 : decode cX5_measureBoxes 35 = .ok (.ishr, 1) := by decide +kernel
theorem dX5_measureBoxes_36 : decode cX5_measureBoxes 36 = .ok (.iconst 1, 1) := by decide +kernel
theorem dX5_measureBoxes_37 : decode cX5_measureBoxes 37 = .ok (.iand, 1) := by decide +kernel
theorem dX5_measureBoxes_38 : decode cX5_measureBoxes 38 = .ok (.ifCond .eq 10, 3) := by decide +kernel
theorem dX5_measureBoxes_41 : decode cX5_measureBoxes 41 = .ok (.aload_n 0, 1) := by decide +kernel
theorem dX5_measureBoxes_42 : decode cX5_measureBoxes 42 = .ok (.getfield 29, 3) := by decide +kernel
theorem dX5_measureBoxes_45 : decode cX5_measureBoxes 45 = .ok (.goto 7, 3) := by decide +kernel
theorem dX5_measureBoxes_48 : decode cX5_measureBoxes 48 = .ok (.aload_n 0, 1) := by decide +kernel
theorem dX5_measureBoxes_49 : decode cX5_measureBoxes 49 = .ok (.getfield 33, 3) := by decide +kernel
theorem dX5_measureBoxes_52 : decode cX5_measureBoxes 52 = .ok (.astore 4, 2) := by decide +kernel
theorem dX5_measureBoxes_54 : decode cX5_measureBoxes 54 = .ok (.aload 4, 2) := by decide +kernel
theorem dX5_measureBoxes_56 : decode cX5_measureBoxes 56 = .ok (.aload_n 0, 1) := by decide +kernel
theorem dX5_measureBoxes_57 : decode cX5_measureBoxes 57 = .ok (.getfield 24, 3) := by decide +kernel
theorem dX5_measureBoxes_60 : decode cX5_measureBoxes 60 = .ok (.iload_n 3, 1) := by decide +kernel
theorem dX5_measureBoxes_61 : decode cX5_measureBoxes 61 = .ok (.aaload, 1) := by decide +kernel
theorem dX5_measureBoxes_62 : decode cX5_measureBoxes 62 = .ok (.aload_n 0, 1) := by decide +kernel
theorem dX5_measureBoxes_63 : decode cX5_measureBoxes 63 = .ok (.getfield 12, 3) := by decide +kernel
theorem dX5_measureBoxes_66 : decode cX5_measureBoxes 66 = .ok (.invokevirtual 114, 3) := by decide +kernel
theorem dX5_measureBoxes_69 : decode cX5_measureBoxes 69 = .ok (.aload_n 0, 1) := by decide +kernel
theorem dX5_measureBoxes_70 : decode cX5_measureBoxes 70 = .ok (.getfield 12, 3) := by decide +kernel
theorem dX5_measureBoxes_73 : decode cX5_measureBoxes 73 = .ok (.iload_n 1, 1) := by decide +kernel
theorem dX5_measureBoxes_74 : decode cX5_measureBoxes 74 = .ok (.iload_n 3, 1) := by decide +kernel
theorem dX5_measureBoxes_75 : decode cX5_measureBoxes 75 = .ok (.invokevirtual 118, 3) := by decide +kernel
theorem dX5_measureBoxes_78 : decode cX5_measureBoxes 78 = .ok (.invokevirtual 121, 3) := by decide +kernel
theorem dX5_measureBoxes_81 : decode cX5_measureBoxes 81 = .ok (.iinc 3 1, 3) := by decide +kernel
theorem dX5_measureBoxes_84 : decode cX5_measureBoxes 84 = .ok (.goto (-68), 3) := by decide +kernel
theorem dX5_measureBoxes_87 : decode cX5_measureBoxes 87 = .ok (.return_, 1) := by decide +kernel
theorem dX5_measureRoom_0 : decode cX5_measureRoom 0 = .ok (.iconst 0, 1) := by decide +kernel
theorem dX5_measureRoom_1 : decode cX5_measureRoom 1 = .ok (.istore_n 2, 1) := by decide +kernel
theorem dX5_measureRoom_2 : decode cX5_measureRoom 2 = .ok (.iload_n 2, 1) := by decide +kernel
theorem dX5_measureRoom_3 : decode cX5_measureRoom 3 = .ok (.bipush 6, 2) := by decide +kernel
theorem dX5_measureRoom_5 : decode cX5_measureRoom 5 = .ok (.if_icmp .ge 100, 3) := by decide +kernel
theorem dX5_measureRoom_8 : decode cX5_measureRoom 8 = .ok (.iload_n 2, 1) := by decide +kernel
theorem dX5_measureRoom_9 : decode cX5_measureRoom 9 = .ok (.iconst 1, 1) := by decide +kernel
theorem dX5_measureRoom_10 : decode cX5_measureRoom 10 = .ok (.iadd, 1) := by decide +kernel
theorem dX5_measureRoom_11 : decode cX5_measureRoom 11 = .ok (.istore_n 3, 1) := by decide +kernel
theorem dX5_measureRoom_12 : decode cX5_measureRoom 12 = .ok (.iload_n 3, 1) := by decide +kernel
theorem dX5_measureRoom_13 : decode cX5_measureRoom 13 = .ok (.bipush 6, 2) := by decide +kernel
theorem dX5_measureRoom_15 : decode cX5_measureRoom 15 = .ok (.if_icmp .ge 84, 3) := by decide +kernel
theorem dX5_measureRoom_18 : decode cX5_measureRoom 18 = .ok (.aload_n 0, 1) := by decide +kernel
theorem dX5_measureRoom_19 : decode cX5_measureRoom 19 = .ok (.getfield 51, 3) := by decide +kernel
theorem dX5_measureRoom_22 : decode cX5_measureRoom 22 = .ok (.iload_n 2, 1) := by decide +kernel
theorem dX5_measureRoom_23 : decode cX5_measureRoom 23 = .ok (.ishr, 1) := by decide +kernel
theorem dX5_measureRoom_24 : decode cX5_measureRoom 24 = .ok (.aload_n 0, 1) := by decide +kernel
theorem dX5_measureRoom_25 : decode cX5_measureRoom 25 = .ok (.getfield 51, 3) := by decide +kernel
theorem dX5_measureRoom_28 : decode cX5_measureRoom 28 = .ok (.iload_n 3, 1) := by decide +kernel
theorem dX5_measureRoom_29 : decode cX5_measureRoom 29 = .ok (.ishr, 1) := by decide +kernel
theorem dX5_measureRoom_30 : decode cX5_measureRoom 30 = .ok (.iand, 1) := by decide +kernel
theorem dX5_measureRoom_31 : decode cX5_measureRoom 31 = .ok (.iconst 1, 1) := by decide +kernel
theorem dX5_measureRoom_32 : decode cX5_measureRoom 32 = .ok (.iand, 1) := by decide +kernel
theorem dX5_measureRoom_33 : decode cX5_measureRoom 33 = .ok (.ifCond .eq 60, 3) := by decide +kernel
theorem dX5_measureRoom_36 : decode cX5_measureRoom 36 = .ok (.iconst 0, 1) := by decide +kernel
theorem dX5_measureRoom_37 : decode cX5_measureRoom 37 = .ok (.istore 4, 2) := by decide +kernel
theorem dX5_measureRoom_39 : decode cX5_measureRoom 39 = .ok (.iload 4, 2) := by decide +kernel
theorem dX5_measureRoom_41 : decode cX5_measureRoom 41 = .ok (.bipush 6, 2) := by decide +kernel
theorem dX5_measureRoom_43 : decode cX5_measureRoom 43 = .ok (.if_icmp .ge 50, 3) := by decide +kernel
theorem dX5_measureRoom_46 : decode cX5_measureRoom 46 = .ok (.aload_n 0, 1) := by decide +kernel
theorem dX5_measureRoom_47 : decode cX5_measureRoom 47 = .ok (.iload_n 1, 1) := by decide +kernel
theorem dX5_measureRoom_48 : decode cX5_measureRoom 48 = .ok (.iload_n 2, 1) := by decide +kernel
theorem dX5_measureRoom_49 : decode cX5_measureRoom 49 = .ok (.iload_n 3, 1) := by decide +kernel
theorem dX5_measureRoom_50 : decode cX5_measureRoom 50 = .ok (.iload 4, 2) := by decide +kernel
theorem dX5_measureRoom_52 : decode cX5_measureRoom 52 = .ok (.invokevirtual 125, 3) := by decide +kernel
theorem dX5_measureRoom_55 : decode cX5_measureRoom 55 = .ok (.istore 5, 2) := by decide +kernel
theorem dX5_measureRoom_57 : decode cX5_measureRoom 57 = .ok (.aload_n 0, 1) := by decide +kernel
theorem dX5_measureRoom_58 : decode cX5_measureRoom 58 = .ok (.getfield 36, 3) := by decide +kernel
theorem dX5_measureRoom_61 : decode cX5_measureRoom 61 = .ok (.iload 4, 2) := by decide +kernel
theorem dX5_measureRoom_63 : decode cX5_measureRoom 63 = .ok (.iload_n 2, 1) := by decide +kernel
theorem dX5_measureRoom_64 : decode cX5_measureRoom 64 = .ok (.iload_n 3, 1) := by decide +kernel
theorem dX5_measureRoom_65 : decode cX5_measureRoom 65 = .ok (.invokestatic 129, 3) := by decide +kernel
theorem dX5_measureRoom_68 : decode cX5_measureRoom 68 = .ok (.iload 5, 2) := by decide +kernel
theorem dX5_measureRoom_70 : decode cX5_measureRoom 70 = .ok (.iastore, 1) := by decide +kernel
theorem dX5_measureRoom_71 : decode cX5_measureRoom 71 = .ok (.aload_n 0, 1) := by decide +kernel
theorem dX5_measureRoom_72 : decode cX5_measureRoom 72 = .ok (.getfield 36, 3) := by decide +kernel
theorem dX5_measureRoom_75 : decode cX5_measureRoom 75 = .ok (.iload 4, 2) := by decide +kernel
theorem dX5_measureRoom_77 : decode cX5_measureRoom 77 = .ok (.iconst 1, 1) := by decide +kernel
theorem dX5_measureRoom_78 : decode cX5_measureRoom 78 = .ok (.ixor, 1) := by decide +kernel
theorem dX5_measureRoom_79 : decode cX5_measureRoom 79 = .ok (.iload_n 3, 1) := by decide +kernel
theorem dX5_measureRoom_80 : decode cX5_measureRoom 80 = .ok (.iload_n 2, 1) := by decide +kernel
theorem dX5_measureRoom_81 : decode cX5_measureRoom 81 = .ok (.invokestatic 129, 3) := by decide +kernel
theorem dX5_measureRoom_84 : decode cX5_measureRoom 84 = .ok (.iload 5, 2) := by decide +kernel
theorem dX5_measureRoom_86 : decode cX5_measureRoom 86 = .ok (.iastore, 1) := by decide +kernel
end
section
theorem dX5_measureRoom_87 : decode cX5_measureRoom 87 = .ok (.iinc 4 1, 3) := by decide +kernel
theorem dX5_measureRoom_90 : decode cX5_measureRoom 90 = .ok (.goto (-51), 3) := by decide +kernel
theorem dX5_measureRoom_93 : decode cX5_measureRoom 93 = .ok (.iinc 3 1, 3) := by decide +kernel
theorem dX5_measureRoom_96 : decode cX5_measureRoom 96 = .ok (.goto (-84), 3) := by decide +kernel
theorem dX5_measureRoom_99 : decode cX5_measureRoom 99 = .ok (.iinc 2 1, 3) := by decide +kernel
theorem dX5_measureRoom_102 : decode cX5_measureRoom 102 = .ok (.goto (-100), 3) := by decide +kernel
theorem dX5_measureRoom_105 : decode cX5_measureRoom 105 = .ok (.return_, 1) := by decide +kernel
theorem dX5_roomIndex_0 : decode cX5_roomIndex 0 = .ok (.iload_n 0, 1) := by decide +kernel
theorem dX5_roomIndex_1 : decode cX5_roomIndex 1 = .ok (.bipush 6, 2) := by decide +kernel
theorem dX5_roomIndex_3 : decode cX5_roomIndex 3 = .ok (.imul, 1) := by decide +kernel
theorem dX5_roomIndex_4 : decode cX5_roomIndex 4 = .ok (.iload_n 1, 1) := by decide +kernel
theorem dX5_roomIndex_5 : decode cX5_roomIndex 5 = .ok (.iadd, 1) := by decide +kernel
theorem dX5_roomIndex_6 : decode cX5_roomIndex 6 = .ok (.bipush 6, 2) := by decide +kernel
theorem dX5_roomIndex_8 : decode cX5_roomIndex 8 = .ok (.imul, 1) := by decide +kernel
theorem dX5_roomIndex_9 : decode cX5_roomIndex 9 = .ok (.iload_n 2, 1) := by decide +kernel
theorem dX5_roomIndex_10 : decode cX5_roomIndex 10 = .ok (.iadd, 1) := by decide +kernel
theorem dX5_roomIndex_11 : decode cX5_roomIndex 11 = .ok (.ireturn, 1) := by decide +kernel
theorem dX5_roomOfPair_0 : decode cX5_roomOfPair 0 = .ok (.iload 4, 2) := by decide +kernel
theorem dX5_roomOfPair_2 : decode cX5_roomOfPair 2 = .ok (.iconst 2, 1) := by decide +kernel
theorem dX5_roomOfPair_3 : decode cX5_roomOfPair 3 = .ok (.idiv, 1) := by decide +kernel
theorem dX5_roomOfPair_4 : decode cX5_roomOfPair 4 = .ok (.istore 5, 2) := by decide +kernel
theorem dX5_roomOfPair_6 : decode cX5_roomOfPair 6 = .ok (.iload 4, 2) := by decide +kernel
theorem dX5_roomOfPair_8 : decode cX5_roomOfPair 8 = .ok (.iconst 2, 1) := by decide +kernel
theorem dX5_roomOfPair_9 : decode cX5_roomOfPair 9 = .ok (.irem, 1) := by decide +kernel
theorem dX5_roomOfPair_10 : decode cX5_roomOfPair 10 = .ok (.ifCond .ne 7, 3) := by decide +kernel
theorem dX5_roomOfPair_13 : decode cX5_roomOfPair 13 = .ok (.iconst 1, 1) := by decide +kernel
theorem dX5_roomOfPair_14 : decode cX5_roomOfPair 14 = .ok (.goto 4, 3) := by decide +kernel
theorem dX5_roomOfPair_17 : decode cX5_roomOfPair 17 = .ok (.iconst (-1), 1) := by decide +kernel
theorem dX5_roomOfPair_18 : decode cX5_roomOfPair 18 = .ok (.istore 6, 2) := by decide +kernel
theorem dX5_roomOfPair_20 : decode cX5_roomOfPair 20 = .ok (.aload_n 0, 1) := by decide +kernel
theorem dX5_roomOfPair_21 : decode cX5_roomOfPair 21 = .ok (.getfield 18, 3) := by decide +kernel
theorem dX5_roomOfPair_24 : decode cX5_roomOfPair 24 = .ok (.iload_n 2, 1) := by decide +kernel
theorem dX5_roomOfPair_25 : decode cX5_roomOfPair 25 = .ok (.laload, 1) := by decide +kernel
theorem dX5_roomOfPair_26 : decode cX5_roomOfPair 26 = .ok (.lstore 7, 2) := by decide +kernel
theorem dX5_roomOfPair_28 : decode cX5_roomOfPair 28 = .ok (.iconst 0, 1) := by decide +kernel
theorem dX5_roomOfPair_29 : decode cX5_roomOfPair 29 = .ok (.istore 9, 2) := by decide +kernel
theorem dX5_roomOfPair_31 : decode cX5_roomOfPair 31 = .ok (.iload 9, 2) := by decide +kernel
theorem dX5_roomOfPair_33 : decode cX5_roomOfPair 33 = .ok (.iconst 3, 1) := by decide +kernel
theorem dX5_roomOfPair_34 : decode cX5_roomOfPair 34 = .ok (.if_icmp .ge 34, 3) := by decide +kernel
theorem dX5_roomOfPair_37 : decode cX5_roomOfPair 37 = .ok (.iload 9, 2) := by decide +kernel
theorem dX5_roomOfPair_39 : decode cX5_roomOfPair 39 = .ok (.iload 5, 2) := by decide +kernel
theorem dX5_roomOfPair_41 : decode cX5_roomOfPair 41 = .ok (.if_icmp .eq 21, 3) := by decide +kernel
theorem dX5_roomOfPair_44 : decode cX5_roomOfPair 44 = .ok (.lload 7, 2) := by decide +kernel
theorem dX5_roomOfPair_46 : decode cX5_roomOfPair 46 = .ok (.iload 9, 2) := by decide +kernel
theorem dX5_roomOfPair_48 : decode cX5_roomOfPair 48 = .ok (.aload_n 0, 1) := by decide +kernel
theorem dX5_roomOfPair_49 : decode cX5_roomOfPair 49 = .ok (.iload_n 1, 1) := by decide +kernel
theorem dX5_roomOfPair_50 : decode cX5_roomOfPair 50 = .ok (.iload_n 2, 1) := by decide +kernel
theorem dX5_roomOfPair_51 : decode cX5_roomOfPair 51 = .ok (.iload_n 3, 1) := by decide +kernel
theorem dX5_roomOfPair_52 : decode cX5_roomOfPair 52 = .ok (.iload 9, 2) := by decide +kernel
theorem dX5_roomOfPair_54 : decode cX5_roomOfPair 54 = .ok (.invokevirtual 132, 3) := by decide +kernel
theorem dX5_roomOfPair_57 : decode cX5_roomOfPair 57 = .ok (.invokestatic 135, 3) := by decide +kernel
theorem dX5_roomOfPair_60 : decode cX5_roomOfPair 60 = .ok (.lstore 7, 2) := by decide +kernel
theorem dX5_roomOfPair_62 : decode cX5_roomOfPair 62 = .ok (.iinc 9 1, 3) := by decide +kernel
theorem dX5_roomOfPair_65 : decode cX5_roomOfPair 65 = .ok (.goto (-34), 3) := by decide +kernel
theorem dX5_roomOfPair_68 : decode cX5_roomOfPair 68 = .ok (.iload 6, 2) := by decide +kernel
theorem dX5_roomOfPair_70 : decode cX5_roomOfPair 70 = .ok (.aload_n 0, 1) := by decide +kernel
theorem dX5_roomOfPair_71 : decode cX5_roomOfPair 71 = .ok (.iload_n 1, 1) := by decide +kernel
theorem dX5_roomOfPair_72 : decode cX5_roomOfPair 72 = .ok (.iload_n 2, 1) := by decide +kernel
theorem dX5_roomOfPair_73 : decode cX5_roomOfPair 73 = .ok (.iload_n 3, 1) := by decide +kernel
theorem dX5_roomOfPair_74 : decode cX5_roomOfPair 74 = .ok (.iload 5, 2) := by decide +kernel
theorem dX5_roomOfPair_76 : decode cX5_roomOfPair 76 = .ok (.invokevirtual 132, 3) := by decide +kernel
theorem dX5_roomOfPair_79 : decode cX5_roomOfPair 79 = .ok (.imul, 1) := by decide +kernel
theorem dX5_roomOfPair_80 : decode cX5_roomOfPair 80 = .ok (.istore 9, 2) := by decide +kernel
theorem dX5_roomOfPair_82 : decode cX5_roomOfPair 82 = .ok (.iconst 1, 1) := by decide +kernel
theorem dX5_roomOfPair_83 : decode cX5_roomOfPair 83 = .ok (.bipush (-3), 2) := by decide +kernel
theorem dX5_roomOfPair_85 : decode cX5_roomOfPair 85 = .ok (.iload 9, 2) := by decide +kernel
theorem dX5_roomOfPair_87 : decode cX5_roomOfPair 87 = .ok (.isub, 1) := by decide +kernel
theorem dX5_roomOfPair_88 : decode cX5_roomOfPair 88 = .ok (.invokestatic 141, 3) := by decide +kernel
theorem dX5_roomOfPair_91 : decode cX5_roomOfPair 91 = .ok (.istore 10, 2) := by decide +kernel
theorem dX5_roomOfPair_93 : decode cX5_roomOfPair 93 = .ok (.iload 10, 2) := by decide +kernel
theorem dX5_roomOfPair_95 : decode cX5_roomOfPair 95 = .ok (.iconst 4, 1) := by decide +kernel
theorem dX5_roomOfPair_96 : decode cX5_roomOfPair 96 = .ok (.iload 9, 2) := by decide +kernel
theorem dX5_roomOfPair_98 : decode cX5_roomOfPair 98 = .ok (.isub, 1) := by decide +kernel
theorem dX5_roomOfPair_99 : decode cX5_roomOfPair 99 = .ok (.if_icmp .ge 41, 3) := by decide +kernel
theorem dX5_roomOfPair_102 : decode cX5_roomOfPair 102 = .ok (.lload 7, 2) := by decide +kernel
theorem dX5_roomOfPair_104 : decode cX5_roomOfPair 104 = .ok (.iload 5, 2) := by decide +kernel
theorem dX5_roomOfPair_106 : decode cX5_roomOfPair 106 = .ok (.iload 6, 2) := by decide +kernel
theorem dX5_roomOfPair_108 : decode cX5_roomOfPair 108 = .ok (.iload 9, 2) := by decide +kernel
theorem dX5_roomOfPair_110 : decode cX5_roomOfPair 110 = .ok (.iload 10, 2) := by decide +kernel
theorem dX5_roomOfPair_112 : decode cX5_roomOfPair 112 = .ok (.iadd, 1) := by decide +kernel
theorem dX5_roomOfPair_113 : decode cX5_roomOfPair 113 = .ok (.imul, 1) := by decide +kernel
theorem dX5_roomOfPair_114 : decode cX5_roomOfPair 114 = .ok (.invokestatic 135, 3) := by decide +kernel
theorem dX5_roomOfPair_117 : decode cX5_roomOfPair 117 = .ok (.aload_n 0, 1) := by decide +kernel
theorem dX5_roomOfPair_118 : decode cX5_roomOfPair 118 = .ok (.getfield 18, 3) := by decide +kernel
theorem dX5_roomOfPair_121 : decode cX5_roomOfPair 121 = .ok (.iload_n 3, 1) := by decide +kernel
theorem dX5_roomOfPair_122 : decode cX5_roomOfPair 122 = .ok (.laload, 1) := by decide +kernel
theorem dX5_roomOfPair_123 : decode cX5_roomOfPair 123 = .ok (.land, 1) := by decide +kernel
theorem dX5_roomOfPair_124 : decode cX5_roomOfPair 124 = .ok (.lconst 0, 1) := by decide +kernel
theorem dX5_roomOfPair_125 : decode cX5_roomOfPair 125 = .ok (.lcmp, 1) := by decide +kernel
theorem dX5_roomOfPair_126 : decode cX5_roomOfPair 126 = .ok (.ifCond .eq 8, 3) := by decide +kernel
theorem dX5_roomOfPair_129 : decode cX5_roomOfPair 129 = .ok (.iload 10, 2) := by decide +kernel
theorem dX5_roomOfPair_131 : decode cX5_roomOfPair 131 = .ok (.iconst 1, 1) := by decide +kernel
theorem dX5_roomOfPair_132 : decode cX5_roomOfPair 132 = .ok (.isub, 1) := by decide +kernel
theorem dX5_roomOfPair_133 : decode cX5_roomOfPair 133 = .ok (.ireturn, 1) := by decide +kernel
theorem dX5_roomOfPair_134 : decode cX5_roomOfPair 134 = .ok (.iinc 10 1, 3) := by decide +kernel
theorem dX5_roomOfPair_137 : decode cX5_roomOfPair 137 = .ok (.goto (-44), 3) := by decide +kernel
theorem dX5_roomOfPair_140 : decode cX5_roomOfPair 140 = .ok (.sipush 500, 3) := by decide +kernel
theorem dX5_roomOfPair_143 : decode cX5_roomOfPair 143 = .ok (.ireturn, 1) := by decide +kernel
theorem dX5_gap_0 : decode cX5_gap 0 = .ok (.aload_n 0, 1) := by decide +kernel
theorem dX5_gap_1 : decode cX5_gap 1 = .ok (.getfield 12, 3) := by decide +kernel
theorem dX5_gap_4 : decode cX5_gap 4 = .ok (.invokevirtual 114, 3) := by decide +kernel
theorem dX5_gap_7 : decode cX5_gap 7 = .ok (.astore 5, 2) := by decide +kernel
theorem dX5_gap_9 : decode cX5_gap 9 = .ok (.aload 5, 2) := by decide +kernel
theorem dX5_gap_11 : decode cX5_gap 11 = .ok (.aload_n 0, 1) := by decide +kernel
theorem dX5_gap_12 : decode cX5_gap 12 = .ok (.getfield 12, 3) := by decide +kernel
theorem dX5_gap_15 : decode cX5_gap 15 = .ok (.iload_n 1, 1) := by decide +kernel
theorem dX5_gap_16 : decode cX5_gap 16 = .ok (.iload_n 2, 1) := by decide +kernel
theorem dX5_gap_17 : decode cX5_gap 17 = .ok (.invokevirtual 118, 3) := by decide +kernel
theorem dX5_gap_20 : decode cX5_gap 20 = .ok (.iload 4, 2) := by decide +kernel
theorem dX5_gap_22 : decode cX5_gap 22 = .ok (.iadd, 1) := by decide +kernel
theorem dX5_gap_23 : decode cX5_gap 23 = .ok (.iaload, 1) := by decide +kernel
theorem dX5_gap_24 : decode cX5_gap 24 = .ok (.aload 5, 2) := by decide +kernel
theorem dX5_gap_26 : decode cX5_gap 26 = .ok (.aload_n 0, 1) := by decide +kernel
theorem dX5_gap_27 : decode cX5_gap 27 = .ok (.getfield 12, 3) := by decide +kernel
theorem dX5_gap_30 : decode cX5_gap 30 = .ok (.iload_n 1, 1) := by decide +kernel
theorem dX5_gap_31 : decode cX5_gap 31 = .ok (.iload_n 3, 1) := by decide +kernel
theorem dX5_gap_32 : decode cX5_gap 32 = .ok (.invokevirtual 118, 3) := by decide +kernel
theorem dX5_gap_35 : decode cX5_gap 35 = .ok (.iload 4, 2) := by decide +kernel
theorem dX5_gap_37 : decode cX5_gap 37 = .ok (.iadd, 1) := by decide +kernel
theorem dX5_gap_38 : decode cX5_gap 38 = .ok (.iaload, 1) := by decide +kernel
theorem dX5_gap_39 : decode cX5_gap 39 = .ok (.isub, 1) := by decide +kernel
theorem dX5_gap_40 : decode cX5_gap 40 = .ok (.ireturn, 1) := by decide +kernel
theorem dX5_roomOfGroup_0 : decode cX5_roomOfGroup 0 = .ok (.aload_n 0, 1) := by decide +kernel
theorem dX5_roomOfGroup_1 : decode cX5_roomOfGroup 1 = .ok (.getfield 51, 3) := by decide +kernel
theorem dX5_roomOfGroup_4 : decode cX5_roomOfGroup 4 = .ok (.iload_n 1, 1) := by decide +kernel
theorem dX5_roomOfGroup_5 : decode cX5_roomOfGroup 5 = .ok (.iconst (-1), 1) := by decide +kernel
theorem dX5_roomOfGroup_6 : decode cX5_roomOfGroup 6 = .ok (.ixor, 1) := by decide +kernel
theorem dX5_roomOfGroup_7 : decode cX5_roomOfGroup 7 = .ok (.iand, 1) := by decide +kernel
theorem dX5_roomOfGroup_8 : decode cX5_roomOfGroup 8 = .ok (.istore_n 3, 1) := by decide +kernel
theorem dX5_roomOfGroup_9 : decode cX5_roomOfGroup 9 = .ok (.sipush 500, 3) := by decide +kernel
theorem dX5_roomOfGroup_12 : decode cX5_roomOfGroup 12 = .ok (.istore 4, 2) := by decide +kernel
theorem dX5_roomOfGroup_14 : decode cX5_roomOfGroup 14 = .ok (.iload_n 1, 1) := by decide +kernel
theorem dX5_roomOfGroup_15 : decode cX5_roomOfGroup 15 = .ok (.istore 5, 2) := by decide +kernel
theorem dX5_roomOfGroup_17 : decode cX5_roomOfGroup 17 = .ok (.iload 5, 2) := by decide +kernel
theorem dX5_roomOfGroup_19 : decode cX5_roomOfGroup 19 = .ok (.ifCond .eq 74, 3) := by decide +kernel
theorem dX5_roomOfGroup_22 : decode cX5_roomOfGroup 22 = .ok (.iload_n 2, 1) := by decide +kernel
theorem dX5_roomOfGroup_23 : decode cX5_roomOfGroup 23 = .ok (.iload 5, 2) := by decide +kernel
theorem dX5_roomOfGroup_25 : decode cX5_roomOfGroup 25 = .ok (.invokestatic 146, 3) := by decide +kernel
theorem dX5_roomOfGroup_28 : decode cX5_roomOfGroup 28 = .ok (.iconst 0, 1) := by decide +kernel
theorem dX5_roomOfGroup_29 : decode cX5_roomOfGroup 29 = .ok (.invokestatic 129, 3) := by decide +kernel
theorem dX5_roomOfGroup_32 : decode cX5_roomOfGroup 32 = .ok (.istore 6, 2) := by decide +kernel
theorem dX5_roomOfGroup_34 : decode cX5_roomOfGroup 34 = .ok (.iload_n 3, 1) := by decide +kernel
theorem dX5_roomOfGroup_35 : decode cX5_roomOfGroup 35 = .ok (.istore 7, 2) := by decide +kernel
theorem dX5_roomOfGroup_37 : decode cX5_roomOfGroup 37 = .ok (.iload 7, 2) := by decide +kernel
theorem dX5_roomOfGroup_39 : decode cX5_roomOfGroup 39 = .ok (.ifCond .eq 35, 3) := by decide +kernel
theorem dX5_roomOfGroup_42 : decode cX5_roomOfGroup 42 = .ok (.iload 4, 2) := by decide +kernel
theorem dX5_roomOfGroup_44 : decode cX5_roomOfGroup 44 = .ok (.aload_n 0, 1) := by decide +kernel
theorem dX5_roomOfGroup_45 : decode cX5_roomOfGroup 45 = .ok (.getfield 36, 3) := by decide +kernel
theorem dX5_roomOfGroup_48 : decode cX5_roomOfGroup 48 = .ok (.iload 6, 2) := by decide +kernel
theorem dX5_roomOfGroup_50 : decode cX5_roomOfGroup 50 = .ok (.iload 7, 2) := by decide +kernel
theorem dX5_roomOfGroup_52 : decode cX5_roomOfGroup 52 = .ok (.invokestatic 146, 3) := by decide +kernel
theorem dX5_roomOfGroup_55 : decode cX5_roomOfGroup 55 = .ok (.iadd, 1) := by decide +kernel
theorem dX5_roomOfGroup_56 : decode cX5_roomOfGroup 56 = .ok (.iaload, 1) := by decide +kernel
theorem dX5_roomOfGroup_57 : decode cX5_roomOfGroup 57 = .ok (.invokestatic 149, 3) := by decide +kernel
theorem dX5_roomOfGroup_60 : decode cX5_roomOfGroup 60 = .ok (.istore 4, 2) := by decide +kernel
theorem dX5_roomOfGroup_62 : decode cX5_roomOfGroup 62 = .ok (.iload 7, 2) := by decide +kernel
theorem dX5_roomOfGroup_64 : decode cX5_roomOfGroup 64 = .ok (.iload 7, 2) := by decide +kernel
theorem dX5_roomOfGroup_66 : decode cX5_roomOfGroup 66 = .ok (.iconst 1, 1) := by decide +kernel
theorem dX5_roomOfGroup_67 : decode cX5_roomOfGroup 67 = .ok (.isub, 1) := by decide +kernel
theorem dX5_roomOfGroup_68 : decode cX5_roomOfGroup 68 = .ok (.iand, 1) := by decide +kernel
theorem dX5_roomOfGroup_69 : decode cX5_roomOfGroup 69 = .ok (.istore 7, 2) := by decide +kernel
theorem dX5_roomOfGroup_71 : decode cX5_roomOfGroup 71 = .ok (.goto (-34), 3) := by decide +kernel
theorem dX5_roomOfGroup_74 : decode cX5_roomOfGroup 74 = .ok (.iload 4, 2) := by decide +kernel
theorem dX5_roomOfGroup_76 : decode cX5_roomOfGroup 76 = .ok (.ifCond .ne 5, 3) := by decide +kernel
theorem dX5_roomOfGroup_79 : decode cX5_roomOfGroup 79 = .ok (.iconst 0, 1) := by decide +kernel
theorem dX5_roomOfGroup_80 : decode cX5_roomOfGroup 80 = .ok (.ireturn, 1) := by decide +kernel
theorem dX5_roomOfGroup_81 : decode cX5_roomOfGroup 81 = .ok (.iload 5, 2) := by decide +kernel
theorem dX5_roomOfGroup_83 : decode cX5_roomOfGroup 83 = .ok (.iload 5, 2) := by decide +kernel
theorem dX5_roomOfGroup_85 : decode cX5_roomOfGroup 85 = .ok (.iconst 1, 1) := by decide +kernel
theorem dX5_roomOfGroup_86 : decode cX5_roomOfGroup 86 = .ok (.isub, 1) := by decide +kernel
theorem dX5_roomOfGroup_87 : decode cX5_roomOfGroup 87 = .ok (.iand, 1) := by decide +kernel
theorem dX5_roomOfGroup_88 : decode cX5_roomOfGroup 88 = .ok (.istore 5, 2) := by decide +kernel
theorem dX5_roomOfGroup_90 : decode cX5_roomOfGroup 90 = .ok (.goto (-73), 3) := by decide +kernel
theorem dX5_roomOfGroup_93 : decode cX5_roomOfGroup 93 = .ok (.iload 4, 2) := by decide +kernel
theorem dX5_roomOfGroup_95 : decode cX5_roomOfGroup 95 = .ok (.ireturn, 1) := by decide +kernel
theorem dX6_init_0 : decode cX6_init 0 = .ok (.aload_n 0, 1) := by decide +kernel
theorem dX6_init_1 : decode cX6_init 1 = .ok (.invokespecial 1, 3) := by decide +kernel
theorem dX6_init_4 : decode cX6_init 4 = .ok (.aload_n 0, 1) := by decide +kernel
theorem dX6_init_5 : decode cX6_init 5 = .ok (.bipush 6, 2) := by decide +kernel
theorem dX6_init_7 : decode cX6_init 7 = .ok (.anewarray 9, 3) := by decide +kernel
theorem dX6_init_10 : decode cX6_init 10 = .ok (.putfield 11, 3) := by decide +kernel
theorem dX6_init_13 : decode cX6_init 13 = .ok (.iconst 0, 1) := by decide +kernel
theorem dX6_init_14 : decode cX6_init 14 = .ok (.istore_n 1, 1) := by decide +kernel
theorem dX6_init_15 : decode cX6_init 15 = .ok (.iload_n 1, 1) := by decide +kernel
theorem dX6_init_16 : decode cX6_init 16 = .ok (.bipush 6, 2) := by decide +kernel
theorem dX6_init_18 : decode cX6_init 18 = .ok (.if_icmp .ge 22, 3) := by decide +kernel
theorem dX6_init_21 : decode cX6_init 21 = .ok (.aload_n 0, 1) := by decide +kernel
theorem dX6_init_22 : decode cX6_init 22 = .ok (.getfield 11, 3) := by decide +kernel
theorem dX6_init_25 : decode cX6_init 25 = .ok (.iload_n 1, 1) := by decide +kernel
theorem dX6_init_26 : decode cX6_init 26 = .ok (.new 9, 3) := by decide +kernel
theorem dX6_init_29 : decode cX6_init 29 = .ok (.dup, 1) := by decide +kernel
theorem dX6_init_30 : decode cX6_init 30 = .ok (.invokespecial 15, 3) := by decide +kernel
theorem dX6_init_33 : decode cX6_init 33 = .ok (.aastore, 1) := by decide +kernel
theorem dX6_init_34 : decode cX6_init 34 = .ok (.iinc 1 1, 3) := by decide +kernel
theorem dX6_init_37 : decode cX6_init 37 = .ok (.goto (-22), 3) := by decide +kernel
theorem dX6_init_40 : decode cX6_init 40 = .ok (.aload_n 0, 1) := by decide +kernel
theorem dX6_init_41 : decode cX6_init 41 = .ok (.bipush 6, 2) := by decide +kernel
theorem dX6_init_43 : decode cX6_init 43 = .ok (.newarray .long, 2) := by decide +kernel
theorem dX6_init_45 : decode cX6_init 45 = .ok (.putfield 16, 3) := by decide +kernel
theorem dX6_init_48 : decode cX6_init 48 = .ok (.aload_n 0, 1) := by decide +kernel
theorem dX6_init_49 : decode cX6_init 49 = .ok (.new 20, 3) := by decide +kernel
theorem dX6_init_52 : decode cX6_init 52 = .ok (.dup, 1) := by decide +kernel
theorem dX6_init_53 : decode cX6_init 53 = .ok (.aload_n 0, 1) := by decide +kernel
theorem dX6_init_54 : decode cX6_init 54 = .ok (.getfield 11, 3) := by decide +kernel
theorem dX6_init_57 : decode cX6_init 57 = .ok (.invokespecial 22, 3) := by decide +kernel
theorem dX6_init_60 : decode cX6_init 60 = .ok (.putfield 25, 3) := by decide +kernel
theorem dX6_init_63 : decode cX6_init 63 = .ok (.aload_n 0, 1) := by decide +kernel
theorem dX6_init_64 : decode cX6_init 64 = .ok (.new 29, 3) := by decide +kernel
theorem dX6_init_67 : decode cX6_init 67 = .ok (.dup, 1) := by decide +kernel
theorem dX6_init_68 : decode cX6_init 68 = .ok (.invokespecial 31, 3) := by decide +kernel
theorem dX6_init_71 : decode cX6_init 71 = .ok (.putfield 32, 3) := by decide +kernel
theorem dX6_init_74 : decode cX6_init 74 = .ok (.return_, 1) := by decide +kernel
theorem dX6_cube_0 : decode cX6_cube 0 = .ok (.iload_n 1, 1) := by decide +kernel
theorem dX6_cube_1 : decode cX6_cube 1 = .ok (.invokestatic 36, 3) := by decide +kernel
theorem dX6_cube_4 : decode cX6_cube 4 = .ok (.iload_n 2, 1) := by decide +kernel
theorem dX6_cube_5 : decode cX6_cube 5 = .ok (.invokestatic 40, 3) := by decide +kernel
theorem dX6_cube_8 : decode cX6_cube 8 = .ok (.aload_n 0, 1) := by decide +kernel
theorem dX6_cube_9 : decode cX6_cube 9 = .ok (.getfield 11, 3) := by decide +kernel
theorem dX6_cube_12 : decode cX6_cube 12 = .ok (.iload_n 1, 1) := by decide +kernel
theorem dX6_cube_13 : decode cX6_cube 13 = .ok (.aaload, 1) := by decide +kernel
theorem dX6_cube_14 : decode cX6_cube 14 = .ok (.astore 4, 2) := by decide +kernel
theorem dX6_cube_16 : decode cX6_cube 16 = .ok (.aload 4, 2) := by decide +kernel
theorem dX6_cube_18 : decode cX6_cube 18 = .ok (.iload_n 2, 1) := by decide +kernel
theorem dX6_cube_19 : decode cX6_cube 19 = .ok (.invokevirtual 43, 3) := by decide +kernel
theorem dX6_cube_22 : decode cX6_cube 22 = .ok (.iload_n 3, 1) := by decide +kernel
theorem dX6_cube_23 : decode cX6_cube 23 = .ok (.if_icmp .ne 13, 3) := by decide +kernel
theorem dX6_cube_26 : decode cX6_cube 26 = .ok (.new 47, 3) := by decide +kernel
theorem dX6_cube_29 : decode cX6_cube 29 = .ok (.dup, 1) := by decide +kernel
theorem dX6_cube_30 : decode cX6_cube 30 = .ok (.ldc 49, 2) := by decide +kernel
theorem dX6_cube_32 : decode cX6_cube 32 = .ok (.invokespecial 51, 3) := by decide +kernel
theorem dX6_cube_35 : decode cX6_cube 35 = .ok (.athrow, 1) := by decide +kernel
theorem dX6_cube_36 : decode cX6_cube 36 = .ok (.iload_n 3, 1) := by decide +kernel
theorem dX6_cube_37 : decode cX6_cube 37 = .ok (.ifCond .eq 23, 3) := by decide +kernel
theorem dX6_cube_40 : decode cX6_cube 40 = .ok (.aload 4, 2) := by decide +kernel
theorem dX6_cube_42 : decode cX6_cube 42 = .ok (.invokevirtual 54, 3) := by decide +kernel
theorem dX6_cube_45 : decode cX6_cube 45 = .ok (.bipush 10, 2) := by decide +kernel
theorem dX6_cube_47 : decode cX6_cube 47 = .ok (.if_icmp .lt 13, 3) := by decide +kernel
theorem dX6_cube_50 : decode cX6_cube 50 = .ok (.new 47, 3) := by decide +kernel
theorem dX6_cube_53 : decode cX6_cube 53 = .ok (.dup, 1) := by decide +kernel
theorem dX6_cube_54 : decode cX6_cube 54 = .ok (.ldc 58, 2) := by decide +kernel
theorem dX6_cube_56 : decode cX6_cube 56 = .ok (.invokespecial 51, 3) := by decide +kernel
theorem dX6_cube_59 : decode cX6_cube 59 = .ok (.athrow, 1) := by decide +kernel
theorem dX6_cube_60 : decode cX6_cube 60 = .ok (.aload 4, 2) := by decide +kernel
theorem dX6_cube_62 : decode cX6_cube 62 = .ok (.iload_n 2, 1) := by decide +kernel
theorem dX6_cube_63 : decode cX6_cube 63 = .ok (.invokevirtual 60, 3) := by decide +kernel
theorem dX6_cube_66 : decode cX6_cube 66 = .ok (.aload_n 0, 1) := by decide +kernel
theorem dX6_cube_67 : decode cX6_cube 67 = .ok (.getfield 16, 3) := by decide +kernel
theorem dX6_cube_70 : decode cX6_cube 70 = .ok (.iload_n 1, 1) := by decide +kernel
theorem dX6_cube_71 : decode cX6_cube 71 = .ok (.lconst 0, 1) := by decide +kernel
theorem dX6_cube_72 : decode cX6_cube 72 = .ok (.lastore, 1) := by decide +kernel
theorem dX6_cube_73 : decode cX6_cube 73 = .ok (.aload 4, 2) := by decide +kernel
theorem dX6_cube_75 : decode cX6_cube 75 = .ok (.invokevirtual 54, 3) := by decide +kernel
theorem dX6_cube_78 : decode cX6_cube 78 = .ok (.ireturn, 1) := by decide +kernel
theorem dX6_mirror_0 : decode cX6_mirror 0 = .ok (.iload_n 1, 1) := by decide +kernel
theorem dX6_mirror_1 : decode cX6_mirror 1 = .ok (.invokestatic 36, 3) := by decide +kernel
theorem dX6_mirror_4 : decode cX6_mirror 4 = .ok (.aload_n 0, 1) := by decide +kernel
theorem dX6_mirror_5 : decode cX6_mirror 5 = .ok (.getfield 11, 3) := by decide +kernel
theorem dX6_mirror_8 : decode cX6_mirror 8 = .ok (.iload_n 1, 1) := by decide +kernel
theorem dX6_mirror_9 : decode cX6_mirror 9 = .ok (.aaload, 1) := by decide +kernel
theorem dX6_mirror_10 : decode cX6_mirror 10 = .ok (.iload_n 2, 1) := by decide +kernel
theorem dX6_mirror_11 : decode cX6_mirror 11 = .ok (.invokevirtual 63, 3) := by decide +kernel
theorem dX6_mirror_14 : decode cX6_mirror 14 = .ok (.return_, 1) := by decide +kernel
theorem dX6_shapes_0 : decode cX6_shapes 0 = .ok (.iload_n 1, 1) := by decide +kernel
theorem dX6_shapes_1 : decode cX6_shapes 1 = .ok (.invokestatic 36, 3) := by decide +kernel
theorem dX6_shapes_4 : decode cX6_shapes 4 = .ok (.aload_n 0, 1) := by decide +kernel
theorem dX6_shapes_5 : decode cX6_shapes 5 = .ok (.getfield 11, 3) := by decide +kernel
theorem dX6_shapes_8 : decode cX6_shapes 8 = .ok (.iload_n 1, 1) := by decide +kernel
theorem dX6_shapes_9 : decode cX6_shapes 9 = .ok (.aaload, 1) := by decide +kernel
theorem dX6_shapes_10 : decode cX6_shapes 10 = .ok (.invokevirtual 67, 3) := by decide +kernel
theorem dX6_shapes_13 : decode cX6_shapes 13 = .ok (.ireturn, 1) := by decide +kernel
theorem dX6_shape_0 : decode cX6_shape 0 = .ok (.iload_n 1, 1) := by decide +kernel
theorem dX6_shape_1 : decode cX6_shape 1 = .ok (.invokestatic 36, 3) := by decide +kernel
theorem dX6_shape_4 : decode cX6_shape 4 = .ok (.iload_n 2, 1) := by decide +kernel
theorem dX6_shape_5 : decode cX6_shape 5 = .ok (.ifCond .lt 16, 3) := by decide +kernel
theorem dX6_shape_8 : decode cX6_shape 8 = .ok (.iload_n 2, 1) := by decide +kernel
theorem dX6_shape_9 : decode cX6_shape 9 = .ok (.aload_n 0, 1) := by decide +kernel
theorem dX6_shape_10 : decode cX6_shape 10 = .ok (.getfield 11, 3) := by decide +kernel
theorem dX6_shape_13 : decode cX6_shape 13 = .ok (.iload_n 1, 1) := by decide +kernel
theorem dX6_shape_14 : decode cX6_shape 14 = .ok (.aaload, 1) := by decide +kernel
theorem dX6_shape_15 : decode cX6_shape 15 = .ok (.invokevirtual 67, 3) := by decide +kernel
theorem dX6_shape_18 : decode cX6_shape 18 = .ok (.if_icmp .lt 13, 3) := by decide +kernel
theorem dX6_shape_21 : decode cX6_shape 21 = .ok (.new 70, 3) := by decide +kernel
theorem dX6_shape_24 : decode cX6_shape 24 = .ok (.dup, 1) := by decide +kernel
theorem dX6_shape_25 : decode cX6_shape 25 = .ok (.ldc 72, 2) := by decide +kernel
theorem dX6_shape_27 : decode cX6_shape 27 = .ok (.invokespecial 74, 3) := by decide +kernel
theorem dX6_shape_30 : decode cX6_shape 30 = .ok (.athrow, 1) := by decide +kernel
theorem dX6_shape_31 : decode cX6_shape 31 = .ok (.aload_n 0, 1) := by decide +kernel
theorem dX6_shape_32 : decode cX6_shape 32 = .ok (.getfield 11, 3) := by decide +kernel
theorem dX6_shape_35 : decode cX6_shape 35 = .ok (.iload_n 1, 1) := by decide +kernel
theorem dX6_shape_36 : decode cX6_shape 36 = .ok (.aaload, 1) := by decide +kernel
theorem dX6_shape_37 : decode cX6_shape 37 = .ok (.iload_n 2, 1) := by decide +kernel
theorem dX6_shape_38 : decode cX6_shape 38 = .ok (.invokevirtual 75, 3) := by decide +kernel
theorem dX6_shape_41 : decode cX6_shape 41 = .ok (.lreturn, 1) := by decide +kernel
theorem dX6_target_0 : decode cX6_target 0 = .ok (.iload_n 1, 1) := by decide +kernel
theorem dX6_target_1 : decode cX6_target 1 = .ok (.invokestatic 40, 3) := by decide +kernel
theorem dX6_target_4 : decode cX6_target 4 = .ok (.iload_n 2, 1) := by decide +kernel
theorem dX6_target_5 : decode cX6_target 5 = .ok (.ifCond .lt 8, 3) := by decide +kernel
theorem dX6_target_8 : decode cX6_target 8 = .ok (.iload_n 2, 1) := by decide +kernel
theorem dX6_target_9 : decode cX6_target 9 = .ok (.iconst 2, 1) := by decide +kernel
theorem dX6_target_10 : decode cX6_target 10 = .ok (.if_icmp .le 13, 3) := by decide +kernel
theorem dX6_target_13 : decode cX6_target 13 = .ok (.new 79, 3) := by decide +kernel
theorem dX6_target_16 : decode cX6_target 16 = .ok (.dup, 1) := by decide +kernel
theorem dX6_target_17 : decode cX6_target 17 = .ok (.ldc 81, 2) := by decide +kernel
theorem dX6_target_19 : decode cX6_target 19 = .ok (.invokespecial 83, 3) := by decide +kernel
theorem dX6_target_22 : decode cX6_target 22 = .ok (.athrow, 1) := by decide +kernel
theorem dX6_target_23 : decode cX6_target 23 = .ok (.lconst 1, 1) := by decide +kernel
theorem dX6_target_24 : decode cX6_target 24 = .ok (.iload_n 1, 1) := by decide +kernel
theorem dX6_target_25 : decode cX6_target 25 = .ok (.lshl, 1) := by decide +kernel
theorem dX6_target_26 : decode cX6_target 26 = .ok (.lstore_n 3, 1) := by decide +kernel
theorem dX6_target_27 : decode cX6_target 27 = .ok (.aload_n 0, 1) := by decide +kernel
theorem dX6_target_28 : decode cX6_target 28 = .ok (.iload_n 2, 1) := by decide +kernel
theorem dX6_target_29 : decode cX6_target 29 = .ok (.iconst 1, 1) := by decide +kernel
theorem dX6_target_30 : decode cX6_target 30 = .ok (.if_icmp .ne 12, 3) := by decide +kernel
theorem dX6_target_33 : decode cX6_target 33 = .ok (.aload_n 0, 1) := by decide +kernel
theorem dX6_target_34 : decode cX6_target 34 = .ok (.getfield 84, 3) := by decide +kernel
theorem dX6_target_37 : decode cX6_target 37 = .ok (.lload_n 3, 1) := by decide +kernel
theorem dX6_target_38 : decode cX6_target 38 = .ok (.lor, 1) := by decide +kernel
theorem dX6_target_39 : decode cX6_target 39 = .ok (.goto 13, 3) := by decide +kernel
theorem dX6_target_42 : decode cX6_target 42 = .ok (.aload_n 0, 1) := by decide +kernel
theorem dX6_target_43 : decode cX6_target 43 = .ok (.getfield 84, 3) := by decide +kernel
theorem dX6_target_46 : decode cX6_target 46 = .ok (.lload_n 3, 1) := by decide +kernel
theorem dX6_target_47 : decode cX6_target 47 = .ok (.ldc2_w 88, 3) := by decide +kernel
theorem dX6_target_50 : decode cX6_target 50 = .ok (.lxor, 1) := by decide +kernel
theorem dX6_target_51 : decode cX6_target 51 = .ok (.land, 1) := by decide +kernel
theorem dX6_target_52 : decode cX6_target 52 = .ok (.putfield 84, 3) := by decide +kernel
theorem dX6_target_55 : decode cX6_target 55 = .ok (.aload_n 0, 1) := by decide +kernel
theorem dX6_target_56 : decode cX6_target 56 = .ok (.iload_n 2, 1) := by decide +kernel
theorem dX6_target_57 : decode cX6_target 57 = .ok (.iconst 2, 1) := by decide +kernel
theorem dX6_target_58 : decode cX6_target 58 = .ok (.if_icmp .ne 12, 3) := by decide +kernel
theorem dX6_target_61 : decode cX6_target 61 = .ok (.aload_n 0, 1) := by decide +kernel
theorem dX6_target_62 : decode cX6_target 62 = .ok (.getfield 90, 3) := by decide +kernel
theorem dX6_target_65 : decode cX6_target 65 = .ok (.lload_n 3, 1) := by decide +kernel
theorem dX6_target_66 : decode cX6_target 66 = .ok (.lor, 1) := by decide +kernel
theorem dX6_target_67 : decode cX6_target 67 = .ok (.goto 13, 3) := by decide +kernel
theorem dX6_target_70 : decode cX6_target 70 = .ok (.aload_n 0, 1) := by decide +kernel
theorem dX6_target_71 : decode cX6_target 71 = .ok (.getfield 90, 3) := by decide +kernel
theorem dX6_target_74 : decode cX6_target 74 = .ok (.lload_n 3, 1) := by decide +kernel
theorem dX6_target_75 : decode cX6_target 75 = .ok (.ldc2_w 88, 3) := by decide +kernel
theorem dX6_target_78 : decode cX6_target 78 = .ok (.lxor, 1) := by decide +kernel
theorem dX6_target_79 : decode cX6_target 79 = .ok (.land, 1) := by decide +kernel
theorem dX6_target_80 : decode cX6_target 80 = .ok (.putfield 90, 3) := by decide +kernel
theorem dX6_target_83 : decode cX6_target 83 = .ok (.return_, 1) := by decide +kernel
theorem dX6_places_0 : decode cX6_places 0 = .ok (.iload_n 1, 1) := by decide +kernel
theorem dX6_places_1 : decode cX6_places 1 = .ok (.invokestatic 36, 3) := by decide +kernel
theorem dX6_places_4 : decode cX6_places 4 = .ok (.aload_n 0, 1) := by decide +kernel
theorem dX6_places_5 : decode cX6_places 5 = .ok (.getfield 11, 3) := by decide +kernel
theorem dX6_places_8 : decode cX6_places 8 = .ok (.iload_n 1, 1) := by decide +kernel
theorem dX6_places_9 : decode cX6_places 9 = .ok (.aaload, 1) := by decide +kernel
theorem dX6_places_10 : decode cX6_places 10 = .ok (.aload_n 0, 1) := by decide +kernel
theorem dX6_places_11 : decode cX6_places 11 = .ok (.getfield 84, 3) := by decide +kernel
theorem dX6_places_14 : decode cX6_places 14 = .ok (.aload_n 0, 1) := by decide +kernel
theorem dX6_places_15 : decode cX6_places 15 = .ok (.getfield 90, 3) := by decide +kernel
theorem dX6_places_18 : decode cX6_places 18 = .ok (.lor, 1) := by decide +kernel
theorem dX6_places_19 : decode cX6_places 19 = .ok (.invokevirtual 93, 3) := by decide +kernel
theorem dX6_places_22 : decode cX6_places 22 = .ok (.aload_n 0, 1) := by decide +kernel
theorem dX6_places_23 : decode cX6_places 23 = .ok (.getfield 11, 3) := by decide +kernel
theorem dX6_places_26 : decode cX6_places 26 = .ok (.iload_n 1, 1) := by decide +kernel
theorem dX6_places_27 : decode cX6_places 27 = .ok (.aaload, 1) := by decide +kernel
theorem dX6_places_28 : decode cX6_places 28 = .ok (.invokevirtual 97, 3) := by decide +kernel
theorem dX6_places_31 : decode cX6_places 31 = .ok (.ireturn, 1) := by decide +kernel
theorem dX6_pack_0 : decode cX6_pack 0 = .ok (.iload_n 1, 1) := by decide +kernel
theorem dX6_pack_1 : decode cX6_pack 1 = .ok (.invokestatic 100, 3) := by decide +kernel
theorem dX6_pack_4 : decode cX6_pack 4 = .ok (.aload_n 0, 1) := by decide +kernel
theorem dX6_pack_5 : decode cX6_pack 5 = .ok (.getfield 25, 3) := by decide +kernel
theorem dX6_pack_8 : decode cX6_pack 8 = .ok (.aload_n 0, 1) := by decide +kernel
theorem dX6_pack_9 : decode cX6_pack 9 = .ok (.getfield 84, 3) := by decide +kernel
theorem dX6_pack_12 : decode cX6_pack 12 = .ok (.aload_n 0, 1) := by decide +kernel
theorem dX6_pack_13 : decode cX6_pack 13 = .ok (.getfield 90, 3) := by decide +kernel
theorem dX6_pack_16 : decode cX6_pack 16 = .ok (.iload_n 1, 1) := by decide +kernel
theorem dX6_pack_17 : decode cX6_pack 17 = .ok (.iconst (-1), 1) := by decide +kernel
theorem dX6_pack_18 : decode cX6_pack 18 = .ok (.invokevirtual 103, 3) := by decide +kernel
theorem dX6_pack_21 : decode cX6_pack 21 = .ok (.aload_n 0, 1) := by decide +kernel
theorem dX6_pack_22 : decode cX6_pack 22 = .ok (.getfield 25, 3) := by decide +kernel
theorem dX6_pack_25 : decode cX6_pack 25 = .ok (.invokevirtual 107, 3) := by decide +kernel
theorem dX6_pack_28 : decode cX6_pack 28 = .ok (.ifCond .eq 13, 3) := by decide +kernel
theorem dX6_pack_31 : decode cX6_pack 31 = .ok (.aload_n 0, 1) := by decide +kernel
theorem dX6_pack_32 : decode cX6_pack 32 = .ok (.getfield 25, 3) := by decide +kernel
theorem dX6_pack_35 : decode cX6_pack 35 = .ok (.invokevirtual 111, 3) := by decide +kernel
theorem dX6_pack_38 : decode cX6_pack 38 = .ok (.goto 12, 3) := by decide +kernel
theorem dX6_pack_41 : decode cX6_pack 41 = .ok (.iconst (-1), 1) := by decide +kernel
theorem dX6_pack_42 : decode cX6_pack 42 = .ok (.aload_n 0, 1) := by decide +kernel
theorem dX6_pack_43 : decode cX6_pack 43 = .ok (.getfield 25, 3) := by decide +kernel
theorem dX6_pack_46 : decode cX6_pack 46 = .ok (.invokevirtual 111, 3) := by decide +kernel
theorem dX6_pack_49 : decode cX6_pack 49 = .ok (.isub, 1) := by decide +kernel
theorem dX6_pack_50 : decode cX6_pack 50 = .ok (.ireturn, 1) := by decide +kernel
theorem dX6_tries_0 : decode cX6_tries 0 = .ok (.aload_n 0, 1) := by decide +kernel
theorem dX6_tries_1 : decode cX6_tries 1 = .ok (.getfield 25, 3) := by decide +kernel
theorem dX6_tries_4 : decode cX6_tries 4 = .ok (.invokevirtual 114, 3) := by decide +kernel
theorem dX6_tries_7 : decode cX6_tries 7 = .ok (.ireturn, 1) := by decide +kernel
theorem dX6_assemble_0 : decode cX6_assemble 0 = .ok (.iload_n 1, 1) := by decide +kernel
theorem dX6_assemble_1 : decode cX6_assemble 1 = .ok (.ifCond .ge 13, 3) := by decide +kernel
theorem dX6_assemble_4 : decode cX6_assemble 4 = .ok (.new 79, 3) := by decide +kernel
theorem dX6_assemble_7 : decode cX6_assemble 7 = .ok (.dup, 1) := by decide +kernel
theorem dX6_assemble_8 : decode cX6_assemble 8 = .ok (.ldc 117, 2) := by decide +kernel
theorem dX6_assemble_10 : decode cX6_assemble 10 = .ok (.invokespecial 83, 3) := by decide +kernel
theorem dX6_assemble_13 : decode cX6_assemble 13 = .ok (.athrow, 1) := by decide +kernel
theorem dX6_assemble_14 : decode cX6_assemble 14 = .ok (.iload_n 2, 1) := by decide +kernel
theorem dX6_assemble_15 : decode cX6_assemble 15 = .ok (.invokestatic 100, 3) := by decide +kernel
theorem dX6_assemble_18 : decode cX6_assemble 18 = .ok (.aload_n 0, 1) := by decide +kernel
theorem dX6_assemble_19 : decode cX6_assemble 19 = .ok (.getfield 25, 3) := by decide +kernel
theorem dX6_assemble_22 : decode cX6_assemble 22 = .ok (.aload_n 0, 1) := by decide +kernel
theorem dX6_assemble_23 : decode cX6_assemble 23 = .ok (.getfield 84, 3) := by decide +kernel
theorem dX6_assemble_26 : decode cX6_assemble 26 = .ok (.aload_n 0, 1) := by decide +kernel
theorem dX6_assemble_27 : decode cX6_assemble 27 = .ok (.getfield 90, 3) := by decide +kernel
theorem dX6_assemble_30 : decode cX6_assemble 30 = .ok (.iload_n 2, 1) := by decide +kernel
theorem dX6_assemble_31 : decode cX6_assemble 31 = .ok (.iload_n 1, 1) := by decide +kernel
theorem dX6_assemble_32 : decode cX6_assemble 32 = .ok (.invokevirtual 103, 3) := by decide +kernel
theorem dX6_assemble_35 : decode cX6_assemble 35 = .ok (.aload_n 0, 1) := by decide +kernel
theorem dX6_assemble_36 : decode cX6_assemble 36 = .ok (.getfield 25, 3) := by decide +kernel
theorem dX6_assemble_39 : decode cX6_assemble 39 = .ok (.invokevirtual 119, 3) := by decide +kernel
theorem dX6_assemble_42 : decode cX6_assemble 42 = .ok (.ifCond .ne 5, 3) := by decide +kernel
theorem dX6_assemble_45 : decode cX6_assemble 45 = .ok (.iconst 0, 1) := by decide +kernel
theorem dX6_assemble_46 : decode cX6_assemble 46 = .ok (.ireturn, 1) := by decide +kernel
theorem dX6_assemble_47 : decode cX6_assemble 47 = .ok (.iconst 0, 1) := by decide +kernel
theorem dX6_assemble_48 : decode cX6_assemble 48 = .ok (.istore_n 3, 1) := by decide +kernel
theorem dX6_assemble_49 : decode cX6_assemble 49 = .ok (.iload_n 3, 1) := by decide +kernel
theorem dX6_assemble_50 : decode cX6_assemble 50 = .ok (.bipush 6, 2) := by decide +kernel
theorem dX6_assemble_52 : decode cX6_assemble 52 = .ok (.if_icmp .ge 23, 3) := by decide +kernel
theorem dX6_assemble_55 : decode cX6_assemble 55 = .ok (.aload_n 0, 1) := by decide +kernel
theorem dX6_assemble_56 : decode cX6_assemble 56 = .ok (.getfield 16, 3) := by decide +kernel
theorem dX6_assemble_59 : decode cX6_assemble 59 = .ok (.iload_n 3, 1) := by decide +kernel
theorem dX6_assemble_60 : decode cX6_assemble 60 = .ok (.aload_n 0, 1) := by decide +kernel
theorem dX6_assemble_61 : decode cX6_assemble 61 = .ok (.getfield 25, 3) := by decide +kernel
theorem dX6_assemble_64 : decode cX6_assemble 64 = .ok (.iload_n 3, 1) := by decide +kernel
theorem dX6_assemble_65 : decode cX6_assemble 65 = .ok (.invokevirtual 122, 3) := by decide +kernel
theorem dX6_assemble_68 : decode cX6_assemble 68 = .ok (.lastore, 1) := by decide +kernel
theorem dX6_assemble_69 : decode cX6_assemble 69 = .ok (.iinc 3 1, 3) := by decide +kernel
theorem dX6_assemble_72 : decode cX6_assemble 72 = .ok (.goto (-23), 3) := by decide +kernel
theorem dX6_assemble_75 : decode cX6_assemble 75 = .ok (.iconst 1, 1) := by decide +kernel
theorem dX6_assemble_76 : decode cX6_assemble 76 = .ok (.ireturn, 1) := by decide +kernel
theorem dX6_put_0 : decode cX6_put 0 = .ok (.iload_n 1, 1) := by decide +kernel
theorem dX6_put_1 : decode cX6_put 1 = .ok (.invokestatic 36, 3) := by decide +kernel
theorem dX6_put_4 : decode cX6_put 4 = .ok (.aload_n 0, 1) := by decide +kernel
theorem dX6_put_5 : decode cX6_put 5 = .ok (.getfield 11, 3) := by decide +kernel
theorem dX6_put_8 : decode cX6_put 8 = .ok (.iload_n 1, 1) := by decide +kernel
theorem dX6_put_9 : decode cX6_put 9 = .ok (.aaload, 1) := by decide +kernel
theorem dX6_put_10 : decode cX6_put 10 = .ok (.lload_n 2, 1) := by decide +kernel
theorem dX6_put_11 : decode cX6_put 11 = .ok (.invokestatic 125, 3) := by decide +kernel
theorem dX6_put_14 : decode cX6_put 14 = .ok (.invokevirtual 131, 3) := by decide +kernel
theorem dX6_put_17 : decode cX6_put 17 = .ok (.ifCond .ne 13, 3) := by decide +kernel
theorem dX6_put_20 : decode cX6_put 20 = .ok (.new 79, 3) := by decide +kernel
theorem dX6_put_23 : decode cX6_put 23 = .ok (.dup, 1) := by decide +kernel
theorem dX6_put_24 : decode cX6_put 24 = .ok (.ldc 135, 2) := by decide +kernel
theorem dX6_put_26 : decode cX6_put 26 = .ok (.invokespecial 83, 3) := by decide +kernel
theorem dX6_put_29 : decode cX6_put 29 = .ok (.athrow, 1) := by decide +kernel
theorem dX6_put_30 : decode cX6_put 30 = .ok (.iconst 0, 1) := by decide +kernel
theorem dX6_put_31 : decode cX6_put 31 = .ok (.istore 4, 2) := by decide +kernel
theorem dX6_put_33 : decode cX6_put 33 = .ok (.iload 4, 2) := by decide +kernel
theorem dX6_put_35 : decode cX6_put 35 = .ok (.bipush 6, 2) := by decide +kernel
theorem dX6_put_37 : decode cX6_put 37 = .ok (.if_icmp .ge 39, 3) := by decide +kernel
theorem dX6_put_40 : decode cX6_put 40 = .ok (.iload 4, 2) := by decide +kernel
theorem dX6_put_42 : decode cX6_put 42 = .ok (.iload_n 1, 1) := by decide +kernel
theorem dX6_put_43 : decode cX6_put 43 = .ok (.if_icmp .eq 27, 3) := by decide +kernel
theorem dX6_put_46 : decode cX6_put 46 = .ok (.aload_n 0, 1) := by decide +kernel
theorem dX6_put_47 : decode cX6_put 47 = .ok (.getfield 16, 3) := by decide +kernel
theorem dX6_put_50 : decode cX6_put 50 = .ok (.iload 4, 2) := by decide +kernel
theorem dX6_put_52 : decode cX6_put 52 = .ok (.laload, 1) := by decide +kernel
theorem dX6_put_53 : decode cX6_put 53 = .ok (.lload_n 2, 1) := by decide +kernel
theorem dX6_put_54 : decode cX6_put 54 = .ok (.land, 1) := by decide +kernel
theorem dX6_put_55 : decode cX6_put 55 = .ok (.lconst 0, 1) := by decide +kernel
theorem dX6_put_56 : decode cX6_put 56 = .ok (.lcmp, 1) := by decide +kernel
theorem dX6_put_57 : decode cX6_put 57 = .ok (.ifCond .eq 13, 3) := by decide +kernel
theorem dX6_put_60 : decode cX6_put 60 = .ok (.new 47, 3) := by decide +kernel
theorem dX6_put_63 : decode cX6_put 63 = .ok (.dup, 1) := by decide +kernel
theorem dX6_put_64 : decode cX6_put 64 = .ok (.ldc 137, 2) := by decide +kernel
theorem dX6_put_66 : decode cX6_put 66 = .ok (.invokespecial 51, 3) := by decide +kernel
theorem dX6_put_69 : decode cX6_put 69 = .ok (.athrow, 1) := by decide +kernel
theorem dX6_put_70 : decode cX6_put 70 = .ok (.iinc 4 1, 3) := by decide +kernel
theorem dX6_put_73 : decode cX6_put 73 = .ok (.goto (-40), 3) := by decide +kernel
theorem dX6_put_76 : decode cX6_put 76 = .ok (.aload_n 0, 1) := by decide +kernel
theorem dX6_put_77 : decode cX6_put 77 = .ok (.getfield 16, 3) := by decide +kernel
theorem dX6_put_80 : decode cX6_put 80 = .ok (.iload_n 1, 1) := by decide +kernel
theorem dX6_put_81 : decode cX6_put 81 = .ok (.lload_n 2, 1) := by decide +kernel
theorem dX6_put_82 : decode cX6_put 82 = .ok (.lastore, 1) := by decide +kernel
theorem dX6_put_83 : decode cX6_put 83 = .ok (.return_, 1) := by decide +kernel
theorem dX6_take_0 : decode cX6_take 0 = .ok (.iload_n 1, 1) := by decide +kernel
theorem dX6_take_1 : decode cX6_take 1 = .ok (.invokestatic 36, 3) := by decide +kernel
theorem dX6_take_4 : decode cX6_take 4 = .ok (.aload_n 0, 1) := by decide +kernel
theorem dX6_take_5 : decode cX6_take 5 = .ok (.getfield 16, 3) := by decide +kernel
theorem dX6_take_8 : decode cX6_take 8 = .ok (.iload_n 1, 1) := by decide +kernel
theorem dX6_take_9 : decode cX6_take 9 = .ok (.laload, 1) := by decide +kernel
theorem dX6_take_10 : decode cX6_take 10 = .ok (.lconst 0, 1) := by decide +kernel
theorem dX6_take_11 : decode cX6_take 11 = .ok (.lcmp, 1) := by decide +kernel
theorem dX6_take_12 : decode cX6_take 12 = .ok (.ifCond .ne 13, 3) := by decide +kernel
theorem dX6_take_15 : decode cX6_take 15 = .ok (.new 47, 3) := by decide +kernel
theorem dX6_take_18 : decode cX6_take 18 = .ok (.dup, 1) := by decide +kernel
theorem dX6_take_19 : decode cX6_take 19 = .ok (.ldc 139, 2) := by decide +kernel
theorem dX6_take_21 : decode cX6_take 21 = .ok (.invokespecial 51, 3) := by decide +kernel
theorem dX6_take_24 : decode cX6_take 24 = .ok (.athrow, 1) := by decide +kernel
theorem dX6_take_25 : decode cX6_take 25 = .ok (.aload_n 0, 1) := by decide +kernel
theorem dX6_take_26 : decode cX6_take 26 = .ok (.getfield 16, 3) := by decide +kernel
theorem dX6_take_29 : decode cX6_take 29 = .ok (.iload_n 1, 1) := by decide +kernel
theorem dX6_take_30 : decode cX6_take 30 = .ok (.lconst 0, 1) := by decide +kernel
theorem dX6_take_31 : decode cX6_take 31 = .ok (.lastore, 1) := by decide +kernel
theorem dX6_take_32 : decode cX6_take 32 = .ok (.return_, 1) := by decide +kernel
theorem dX6_cells_0 : decode cX6_cells 0 = .ok (.iload_n 1, 1) := by decide +kernel
theorem dX6_cells_1 : decode cX6_cells 1 = .ok (.invokestatic 36, 3) := by decide +kernel
theorem dX6_cells_4 : decode cX6_cells 4 = .ok (.aload_n 0, 1) := by decide +kernel
theorem dX6_cells_5 : decode cX6_cells 5 = .ok (.getfield 16, 3) := by decide +kernel
theorem dX6_cells_8 : decode cX6_cells 8 = .ok (.iload_n 1, 1) := by decide +kernel
theorem dX6_cells_9 : decode cX6_cells 9 = .ok (.laload, 1) := by decide +kernel
theorem dX6_cells_10 : decode cX6_cells 10 = .ok (.lreturn, 1) := by decide +kernel
theorem dX6_plan_0 : decode cX6_plan 0 = .ok (.iload_n 1, 1) := by decide +kernel
theorem dX6_plan_1 : decode cX6_plan 1 = .ok (.aload_n 0, 1) := by decide +kernel
theorem dX6_plan_2 : decode cX6_plan 2 = .ok (.invokevirtual 141, 3) := by decide +kernel
theorem dX6_plan_5 : decode cX6_plan 5 = .ok (.iconst (-1), 1) := by decide +kernel
theorem dX6_plan_6 : decode cX6_plan 6 = .ok (.ixor, 1) := by decide +kernel
theorem dX6_plan_7 : decode cX6_plan 7 = .ok (.iand, 1) := by decide +kernel
theorem dX6_plan_8 : decode cX6_plan 8 = .ok (.ifCond .ne 11, 3) := by decide +kernel
theorem dX6_plan_11 : decode cX6_plan 11 = .ok (.iload_n 1, 1) := by decide +kernel
theorem dX6_plan_12 : decode cX6_plan 12 = .ok (.invokestatic 144, 3) := by decide +kernel
theorem dX6_plan_15 : decode cX6_plan 15 = .ok (.iconst 2, 1) := by decide +kernel
theorem dX6_plan_16 : decode cX6_plan 16 = .ok (.if_icmp .ge 13, 3) := by decide +kernel
theorem dX6_plan_19 : decode cX6_plan 19 = .ok (.new 79, 3) := by decide +kernel
theorem dX6_plan_22 : decode cX6_plan 22 = .ok (.dup, 1) := by decide +kernel
theorem dX6_plan_23 : decode cX6_plan 23 = .ok (.ldc 150, 2) := by decide +kernel
theorem dX6_plan_25 : decode cX6_plan 25 = .ok (.invokespecial 83, 3) := by decide +kernel
theorem dX6_plan_28 : decode cX6_plan 28 = .ok (.athrow, 1) := by decide +kernel
theorem dX6_plan_29 : decode cX6_plan 29 = .ok (.iload_n 2, 1) := by decide +kernel
theorem dX6_plan_30 : decode cX6_plan 30 = .ok (.iconst 1, 1) := by decide +kernel
theorem dX6_plan_31 : decode cX6_plan 31 = .ok (.if_icmp .lt 10, 3) := by decide +kernel
theorem dX6_plan_34 : decode cX6_plan 34 = .ok (.iload_n 2, 1) := by decide +kernel
theorem dX6_plan_35 : decode cX6_plan 35 = .ok (.sipush 300, 3) := by decide +kernel
theorem dX6_plan_38 : decode cX6_plan 38 = .ok (.if_icmp .le 13, 3) := by decide +kernel
theorem dX6_plan_41 : decode cX6_plan 41 = .ok (.new 79, 3) := by decide +kernel
theorem dX6_plan_44 : decode cX6_plan 44 = .ok (.dup, 1) := by decide +kernel
theorem dX6_plan_45 : decode cX6_plan 45 = .ok (.ldc 152, 2) := by decide +kernel
theorem dX6_plan_47 : decode cX6_plan 47 = .ok (.invokespecial 83, 3) := by decide +kernel
theorem dX6_plan_50 : decode cX6_plan 50 = .ok (.athrow, 1) := by decide +kernel
theorem dX6_plan_51 : decode cX6_plan 51 = .ok (.aload_n 0, 1) := by decide +kernel
theorem dX6_plan_52 : decode cX6_plan 52 = .ok (.getfield 32, 3) := by decide +kernel
theorem dX6_plan_55 : decode cX6_plan 55 = .ok (.aload_n 0, 1) := by decide +kernel
theorem dX6_plan_56 : decode cX6_plan 56 = .ok (.getfield 16, 3) := by decide +kernel
theorem dX6_plan_59 : decode cX6_plan 59 = .ok (.iload_n 1, 1) := by decide +kernel
theorem dX6_plan_60 : decode cX6_plan 60 = .ok (.iload_n 2, 1) := by decide +kernel
theorem dX6_plan_61 : decode cX6_plan 61 = .ok (.invokevirtual 154, 3) := by decide +kernel
theorem dX6_plan_64 : decode cX6_plan 64 = .ok (.ireturn, 1) := by decide +kernel
theorem dX6_states_0 : decode cX6_states 0 = .ok (.aload_n 0, 1) := by decide +kernel
theorem dX6_states_1 : decode cX6_states 1 = .ok (.getfield 32, 3) := by decide +kernel
theorem dX6_states_4 : decode cX6_states 4 = .ok (.invokevirtual 158, 3) := by decide +kernel
theorem dX6_states_7 : decode cX6_states 7 = .ok (.ireturn, 1) := by decide +kernel
theorem dX6_move_0 : decode cX6_move 0 = .ok (.iload_n 1, 1) := by decide +kernel
theorem dX6_move_1 : decode cX6_move 1 = .ok (.ifCond .lt 14, 3) := by decide +kernel
theorem dX6_move_4 : decode cX6_move 4 = .ok (.iload_n 1, 1) := by decide +kernel
theorem dX6_move_5 : decode cX6_move 5 = .ok (.aload_n 0, 1) := by decide +kernel
theorem dX6_move_6 : decode cX6_move 6 = .ok (.getfield 32, 3) := by decide +kernel
theorem dX6_move_9 : decode cX6_move 9 = .ok (.invokevirtual 161, 3) := by decide +kernel
theorem dX6_move_12 : decode cX6_move 12 = .ok (.if_icmp .lt 13, 3) := by decide +kernel
theorem dX6_move_15 : decode cX6_move 15 = .ok (.new 70, 3) := by decide +kernel
theorem dX6_move_18 : decode cX6_move 18 = .ok (.dup, 1) := by decide +kernel
theorem dX6_move_19 : decode cX6_move 19 = .ok (.ldc 164, 2) := by decide +kernel
theorem dX6_move_21 : decode cX6_move 21 = .ok (.invokespecial 74, 3) := by decide +kernel
theorem dX6_move_24 : decode cX6_move 24 = .ok (.athrow, 1) := by decide +kernel
theorem dX6_move_25 : decode cX6_move 25 = .ok (.aload_n 0, 1) := by decide +kernel
theorem dX6_move_26 : decode cX6_move 26 = .ok (.getfield 32, 3) := by decide +kernel
theorem dX6_move_29 : decode cX6_move 29 = .ok (.iload_n 1, 1) := by decide +kernel
theorem dX6_move_30 : decode cX6_move 30 = .ok (.invokevirtual 166, 3) := by decide +kernel
theorem dX6_move_33 : decode cX6_move 33 = .ok (.ireturn, 1) := by decide +kernel
theorem dX6_assembledPieces_0 : decode cX6_assembledPieces 0 = .ok (.iconst 0, 1) := by decide +kernel
theorem dX6_assembledPieces_1 : decode cX6_assembledPieces 1 = .ok (.istore_n 1, 1) := by decide +kernel
theorem dX6_assembledPieces_2 : decode cX6_assembledPieces 2 = .ok (.iconst 0, 1) := by decide +kernel
theorem dX6_assembledPieces_3 : decode cX6_assembledPieces 3 = .ok (.istore_n 2, 1) := by decide +kernel
theorem dX6_assembledPieces_4 : decode cX6_assembledPieces 4 = .ok (.iload_n 2, 1) := by decide +kernel
theorem dX6_assembledPieces_5 : decode cX6_assembledPieces 5 = .ok (.bipush 6, 2) := by decide +kernel
theorem dX6_assembledPieces_7 : decode cX6_assembledPieces 7 = .ok (.if_icmp .ge 26, 3) := by decide +kernel
theorem dX6_assembledPieces_10 : decode cX6_assembledPieces 10 = .ok (.aload_n 0, 1) := by decide +kernel
theorem dX6_assembledPieces_11 : decode cX6_assembledPieces 11 = .ok (.getfield 16, 3) := by decide +kernel
theorem dX6_assembledPieces_14 : decode cX6_assembledPieces 14 = .ok (.iload_n 2, 1) := by decide +kernel
theorem dX6_assembledPieces_15 : decode cX6_assembledPieces 15 = .ok (.laload, 1) := by decide +kernel
theorem dX6_assembledPieces_16 : decode cX6_assembledPieces 16 = .ok (.lconst 0, 1) := by decide +kernel
theorem dX6_assembledPieces_17 : decode cX6_assembledPieces 17 = .ok (.lcmp, 1) := by decide +kernel
theorem dX6_assembledPieces_18 : decode cX6_assembledPieces 18 = .ok (.ifCond .eq 9, 3) := by decide +kernel
theorem dX6_assembledPieces_21 : decode cX6_assembledPieces 21 = .ok (.iload_n 1, 1) := by decide +kernel
theorem dX6_assembledPieces_22 : decode cX6_assembledPieces 22 = .ok (.iconst 1, 1) := by decide +kernel
theorem dX6_assembledPieces_23 : decode cX6_assembledPieces 23 = .ok (.iload_n 2, 1) := by decide +kernel
theorem dX6_assembledPieces_24 : decode cX6_assembledPieces 24 = .ok (.ishl, 1) := by decide +kernel
theorem dX6_assembledPieces_25 : decode cX6_assembledPieces 25 = .ok (.ior, 1) := by decide +kernel
theorem dX6_assembledPieces_26 : decode cX6_assembledPieces 26 = .ok (.istore_n 1, 1) := by decide +kernel
theorem dX6_assembledPieces_27 : decode cX6_assembledPieces 27 = .ok (.iinc 2 1, 3) := by decide +kernel
theorem dX6_assembledPieces_30 : decode cX6_assembledPieces 30 = .ok (.goto (-26), 3) := by decide +kernel
theorem dX6_assembledPieces_33 : decode cX6_assembledPieces 33 = .ok (.iload_n 1, 1) := by decide +kernel
theorem dX6_assembledPieces_34 : decode cX6_assembledPieces 34 = .ok (.ireturn, 1) := by decide +kernel
theorem dX6_checkPiece_0 : decode cX6_checkPiece 0 = .ok (.iload_n 0, 1) := by decide +kernel
theorem dX6_checkPiece_1 : decode cX6_checkPiece 1 = .ok (.ifCond .lt 9, 3) := by decide +kernel
theorem dX6_checkPiece_4 : decode cX6_checkPiece 4 = .ok (.iload_n 0, 1) := by decide +kernel
theorem dX6_checkPiece_5 : decode cX6_checkPiece 5 = .ok (.bipush 6, 2) := by decide +kernel
theorem dX6_checkPiece_7 : decode cX6_checkPiece 7 = .ok (.if_icmp .lt 13, 3) := by decide +kernel
theorem dX6_checkPiece_10 : decode cX6_checkPiece 10 = .ok (.new 79, 3) := by decide +kernel
theorem dX6_checkPiece_13 : decode cX6_checkPiece 13 = .ok (.dup, 1) := by decide +kernel
theorem dX6_checkPiece_14 : decode cX6_checkPiece 14 = .ok (.ldc 169, 2) := by decide +kernel
theorem dX6_checkPiece_16 : decode cX6_checkPiece 16 = .ok (.invokespecial 83, 3) := by decide +kernel
theorem dX6_checkPiece_19 : decode cX6_checkPiece 19 = .ok (.athrow, 1) := by decide +kernel
theorem dX6_checkPiece_20 : decode cX6_checkPiece 20 = .ok (.return_, 1) := by decide +kernel
theorem dX6_checkCell_0 : decode cX6_checkCell 0 = .ok (.iload_n 0, 1) := by decide +kernel
theorem dX6_checkCell_1 : decode cX6_checkCell 1 = .ok (.ifCond .lt 9, 3) := by decide +kernel
theorem dX6_checkCell_4 : decode cX6_checkCell 4 = .ok (.iload_n 0, 1) := by decide +kernel
theorem dX6_checkCell_5 : decode cX6_checkCell 5 = .ok (.bipush 64, 2) := by decide +kernel
theorem dX6_checkCell_7 : decode cX6_checkCell 7 = .ok (.if_icmp .lt 13, 3) := by decide +kernel
theorem dX6_checkCell_10 : decode cX6_checkCell 10 = .ok (.new 79, 3) := by decide +kernel
theorem dX6_checkCell_13 : decode cX6_checkCell 13 = .ok (.dup, 1) := by decide +kernel
theorem dX6_checkCell_14 : decode cX6_checkCell 14 = .ok (.ldc 171, 2) := by decide +kernel
theorem dX6_checkCell_16 : decode cX6_checkCell 16 = .ok (.invokespecial 83, 3) := by decide +kernel
theorem dX6_checkCell_19 : decode cX6_checkCell 19 = .ok (.athrow, 1) := by decide +kernel
theorem dX6_checkCell_20 : decode cX6_checkCell 20 = .ok (.return_, 1) := by decide +kernel
theorem dX6_checkBudget_0 : decode cX6_checkBudget 0 = .ok (.iload_n 0, 1) := by decide +kernel
theorem dX6_checkBudget_1 : decode cX6_checkBudget 1 = .ok (.iconst 1, 1) := by decide +kernel
theorem dX6_checkBudget_2 : decode cX6_checkBudget 2 = .ok (.if_icmp .lt 9, 3) := by decide +kernel
theorem dX6_checkBudget_5 : decode cX6_checkBudget 5 = .ok (.iload_n 0, 1) := by decide +kernel
theorem dX6_checkBudget_6 : decode cX6_checkBudget 6 = .ok (.ldc 173, 2) := by decide +kernel
theorem dX6_checkBudget_8 : decode cX6_checkBudget 8 = .ok (.if_icmp .le 13, 3) := by decide +kernel
theorem dX6_checkBudget_11 : decode cX6_checkBudget 11 = .ok (.new 79, 3) := by decide +kernel
theorem dX6_checkBudget_14 : decode cX6_checkBudget 14 = .ok (.dup, 1) := by decide +kernel
theorem dX6_checkBudget_15 : decode cX6_checkBudget 15 = .ok (.ldc 174, 2) := by decide +kernel
theorem dX6_checkBudget_17 : decode cX6_checkBudget 17 = .ok (.invokespecial 83, 3) := by decide +kernel
theorem dX6_checkBudget_20 : decode cX6_checkBudget 20 = .ok (.athrow, 1) := by decide +kernel
theorem dX6_checkBudget_21 : decode cX6_checkBudget 21 = .ok (.return_, 1) := by decide +kernel
theorem dX6_lowestPiece_0 : decode cX6_lowestPiece 0 = .ok (.iload_n 0, 1) := by decide +kernel
theorem dX6_lowestPiece_1 : decode cX6_lowestPiece 1 = .ok (.iload_n 0, 1) := by decide +kernel
theorem dX6_lowestPiece_2 : decode cX6_lowestPiece 2 = .ok (.ineg, 1) := by decide +kernel
theorem dX6_lowestPiece_3 : decode cX6_lowestPiece 3 = .ok (.iand, 1) := by decide +kernel
theorem dX6_lowestPiece_4 : decode cX6_lowestPiece 4 = .ok (.iconst 1, 1) := by decide +kernel
theorem dX6_lowestPiece_5 : decode cX6_lowestPiece 5 = .ok (.isub, 1) := by decide +kernel
theorem dX6_lowestPiece_6 : decode cX6_lowestPiece 6 = .ok (.invokestatic 144, 3) := by decide +kernel
theorem dX6_lowestPiece_9 : decode cX6_lowestPiece 9 = .ok (.ireturn, 1) := by decide +kernel
theorem dX7_init_0 : decode cX7_init 0 = .ok (.aload_n 0, 1) := by decide +kernel
theorem dX7_init_1 : decode cX7_init 1 = .ok (.invokespecial 1, 3) := by decide +kernel
theorem dX7_init_4 : decode cX7_init 4 = .ok (.aload_n 0, 1) := by decide +kernel
theorem dX7_init_5 : decode cX7_init 5 = .ok (.bipush 6, 2) := by decide +kernel
theorem dX7_init_7 : decode cX7_init 7 = .ok (.newarray .long, 2) := by decide +kernel
theorem dX7_init_9 : decode cX7_init 9 = .ok (.putfield 7, 3) := by decide +kernel
theorem dX7_init_12 : decode cX7_init 12 = .ok (.aload_n 0, 1) := by decide +kernel
theorem dX7_init_13 : decode cX7_init 13 = .ok (.bipush 6, 2) := by decide +kernel
theorem dX7_init_15 : decode cX7_init 15 = .ok (.newarray .boolean, 2) := by decide +kernel
theorem dX7_init_17 : decode cX7_init 17 = .ok (.putfield 13, 3) := by decide +kernel
theorem dX7_init_20 : decode cX7_init 20 = .ok (.aload_n 0, 1) := by decide +kernel
theorem dX7_init_21 : decode cX7_init 21 = .ok (.bipush 64, 2) := by decide +kernel
theorem dX7_init_23 : decode cX7_init 23 = .ok (.newarray .int, 2) := by decide +kernel
theorem dX7_init_25 : decode cX7_init 25 = .ok (.putfield 17, 3) := by decide +kernel
theorem dX7_init_28 : decode cX7_init 28 = .ok (.aload_n 0, 1) := by decide +kernel
theorem dX7_init_29 : decode cX7_init 29 = .ok (.bipush 6, 2) := by decide +kernel
theorem dX7_init_31 : decode cX7_init 31 = .ok (.newarray .int, 2) := by decide +kernel
theorem dX7_init_33 : decode cX7_init 33 = .ok (.putfield 21, 3) := by decide +kernel
theorem dX7_init_36 : decode cX7_init 36 = .ok (.aload_n 0, 1) := by decide +kernel
theorem dX7_init_37 : decode cX7_init 37 = .ok (.sipush 288, 3) := by decide +kernel
theorem dX7_init_40 : decode cX7_init 40 = .ok (.newarray .long, 2) := by decide +kernel
theorem dX7_init_42 : decode cX7_init 42 = .ok (.putfield 24, 3) := by decide +kernel
theorem dX7_init_45 : decode cX7_init 45 = .ok (.aload_n 0, 1) := by decide +kernel
theorem dX7_init_46 : decode cX7_init 46 = .ok (.bipush 6, 2) := by decide +kernel
theorem dX7_init_48 : decode cX7_init 48 = .ok (.newarray .int, 2) := by decide +kernel
theorem dX7_init_50 : decode cX7_init 50 = .ok (.putfield 27, 3) := by decide +kernel
theorem dX7_init_53 : decode cX7_init 53 = .ok (.aload_n 0, 1) := by decide +kernel
theorem dX7_init_54 : decode cX7_init 54 = .ok (.sipush 8400, 3) := by decide +kernel
theorem dX7_init_57 : decode cX7_init 57 = .ok (.newarray .long, 2) := by decide +kernel
theorem dX7_init_59 : decode cX7_init 59 = .ok (.putfield 30, 3) := by decide +kernel
theorem dX7_init_62 : decode cX7_init 62 = .ok (.aload_n 0, 1) := by decide +kernel
theorem dX7_init_63 : decode cX7_init 63 = .ok (.bipush 6, 2) := by decide +kernel
theorem dX7_init_65 : decode cX7_init 65 = .ok (.newarray .long, 2) := by decide +kernel
theorem dX7_init_67 : decode cX7_init 67 = .ok (.putfield 33, 3) := by decide +kernel
theorem dX7_init_70 : decode cX7_init 70 = .ok (.aload_n 0, 1) := by decide +kernel
theorem dX7_init_71 : decode cX7_init 71 = .ok (.bipush 7, 2) := by decide +kernel
theorem dX7_init_73 : decode cX7_init 73 = .ok (.newarray .long, 2) := by decide +kernel
theorem dX7_init_75 : decode cX7_init 75 = .ok (.putfield 36, 3) := by decide +kernel
theorem dX7_init_78 : decode cX7_init 78 = .ok (.aload_n 0, 1) := by decide +kernel
theorem dX7_init_79 : decode cX7_init 79 = .ok (.bipush 7, 2) := by decide +kernel
theorem dX7_init_81 : decode cX7_init 81 = .ok (.newarray .int, 2) := by decide +kernel
theorem dX7_init_83 : decode cX7_init 83 = .ok (.putfield 39, 3) := by decide +kernel
theorem dX7_init_86 : decode cX7_init 86 = .ok (.aload_n 0, 1) := by decide +kernel
theorem dX7_init_87 : decode cX7_init 87 = .ok (.bipush 7, 2) := by decide +kernel
theorem dX7_init_89 : decode cX7_init 89 = .ok (.newarray .int, 2) := by decide +kernel
theorem dX7_init_91 : decode cX7_init 91 = .ok (.putfield 42, 3) := by decide +kernel
theorem dX7_init_94 : decode cX7_init 94 = .ok (.aload_n 0, 1) := by decide +kernel
theorem dX7_init_95 : decode cX7_init 95 = .ok (.bipush 7, 2) := by decide +kernel
theorem dX7_init_97 : decode cX7_init 97 = .ok (.newarray .int, 2) := by decide +kernel
theorem dX7_init_99 : decode cX7_init 99 = .ok (.putfield 45, 3) := by decide +kernel
theorem dX7_init_102 : decode cX7_init 102 = .ok (.aload_n 0, 1) := by decide +kernel
theorem dX7_init_103 : decode cX7_init 103 = .ok (.bipush 7, 2) := by decide +kernel
theorem dX7_init_105 : decode cX7_init 105 = .ok (.newarray .int, 2) := by decide +kernel
theorem dX7_init_107 : decode cX7_init 107 = .ok (.putfield 48, 3) := by decide +kernel
theorem dX7_init_110 : decode cX7_init 110 = .ok (.aload_n 0, 1) := by decide +kernel
theorem dX7_init_111 : decode cX7_init 111 = .ok (.bipush 7, 2) := by decide +kernel
theorem dX7_init_113 : decode cX7_init 113 = .ok (.newarray .long, 2) := by decide +kernel
theorem dX7_init_115 : decode cX7_init 115 = .ok (.putfield 51, 3) := by decide +kernel
theorem dX7_init_118 : decode cX7_init 118 = .ok (.aload_n 0, 1) := by decide +kernel
theorem dX7_init_119 : decode cX7_init 119 = .ok (.bipush 6, 2) := by decide +kernel
theorem dX7_init_121 : decode cX7_init 121 = .ok (.newarray .int, 2) := by decide +kernel
theorem dX7_init_123 : decode cX7_init 123 = .ok (.putfield 54, 3) := by decide +kernel
theorem dX7_init_126 : decode cX7_init 126 = .ok (.aload_n 0, 1) := by decide +kernel
theorem dX7_init_127 : decode cX7_init 127 = .ok (.sipush 180, 3) := by decide +kernel
theorem dX7_init_130 : decode cX7_init 130 = .ok (.newarray .int, 2) := by decide +kernel
theorem dX7_init_132 : decode cX7_init 132 = .ok (.putfield 57, 3) := by decide +kernel
theorem dX7_init_135 : decode cX7_init 135 = .ok (.aload_n 0, 1) := by decide +kernel
theorem dX7_init_136 : decode cX7_init 136 = .ok (.sipush 5400, 3) := by decide +kernel
theorem dX7_init_139 : decode cX7_init 139 = .ok (.newarray .int, 2) := by decide +kernel
theorem dX7_init_141 : decode cX7_init 141 = .ok (.putfield 60, 3) := by decide +kernel
theorem dX7_init_144 : decode cX7_init 144 = .ok (.aload_n 0, 1) := by decide +kernel
theorem dX7_init_145 : decode cX7_init 145 = .ok (.sipush 300, 3) := by decide +kernel
theorem dX7_init_148 : decode cX7_init 148 = .ok (.newarray .int, 2) := by decide +kernel
theorem dX7_init_150 : decode cX7_init 150 = .ok (.putfield 63, 3) := by decide +kernel
theorem dX7_init_153 : decode cX7_init 153 = .ok (.aload_n 0, 1) := by decide +kernel
theorem dX7_init_154 : decode cX7_init 154 = .ok (.sipush 300, 3) := by decide +kernel
theorem dX7_init_157 : decode cX7_init 157 = .ok (.newarray .int, 2) := by decide +kernel
theorem dX7_init_159 : decode cX7_init 159 = .ok (.putfield 66, 3) := by decide +kernel
theorem dX7_init_162 : decode cX7_init 162 = .ok (.aload_n 0, 1) := by decide +kernel
theorem dX7_init_163 : decode cX7_init 163 = .ok (.bipush 18, 2) := by decide +kernel
theorem dX7_init_165 : decode cX7_init 165 = .ok (.newarray .int, 2) := by decide +kernel
theorem dX7_init_167 : decode cX7_init 167 = .ok (.putfield 69, 3) := by decide +kernel
theorem dX7_init_170 : decode cX7_init 170 = .ok (.aload_n 0, 1) := by decide +kernel
theorem dX7_init_171 : decode cX7_init 171 = .ok (.bipush 18, 2) := by decide +kernel
theorem dX7_init_173 : decode cX7_init 173 = .ok (.newarray .int, 2) := by decide +kernel
theorem dX7_init_175 : decode cX7_init 175 = .ok (.putfield 72, 3) := by decide +kernel
theorem dX7_init_178 : decode cX7_init 178 = .ok (.aload_n 0, 1) := by decide +kernel
theorem dX7_init_179 : decode cX7_init 179 = .ok (.sipush 301, 3) := by decide +kernel
theorem dX7_init_182 : decode cX7_init 182 = .ok (.newarray .int, 2) := by decide +kernel
theorem dX7_init_184 : decode cX7_init 184 = .ok (.putfield 75, 3) := by decide +kernel
theorem dX7_init_187 : decode cX7_init 187 = .ok (.return_, 1) := by decide +kernel
theorem dX7_thrown_0 : decode cX7_thrown 0 = .ok (.aload_n 0, 1) := by decide +kernel
theorem dX7_thrown_1 : decode cX7_thrown 1 = .ok (.getfield 78, 3) := by decide +kernel
theorem dX7_thrown_4 : decode cX7_thrown 4 = .ok (.ireturn, 1) := by decide +kernel
theorem dX7_in_0 : decode cX7_in 0 = .ok (.iload_n 0, 1) := by decide +kernel
theorem dX7_in_1 : decode cX7_in 1 = .ok (.iload_n 1, 1) := by decide +kernel
theorem dX7_in_2 : decode cX7_in 2 = .ok (.if_icmp .lt 12, 3) := by decide +kernel
theorem dX7_in_5 : decode cX7_in 5 = .ok (.iload_n 0, 1) := by decide +kernel
theorem dX7_in_6 : decode cX7_in 6 = .ok (.iload_n 2, 1) := by decide +kernel
theorem dX7_in_7 : decode cX7_in 7 = .ok (.if_icmp .gt 7, 3) := by decide +kernel
theorem dX7_in_10 : decode cX7_in 10 = .ok (.iconst 1, 1) := by decide +kernel
theorem dX7_in_11 : decode cX7_in 11 = .ok (.goto 4, 3) := by decide +kernel
theorem dX7_in_14 : decode cX7_in 14 = .ok (.iconst 0, 1) := by decide +kernel
theorem dX7_in_15 : decode cX7_in 15 = .ok (.ireturn, 1) := by decide +kernel
theorem dX7_says_0 : decode cX7_says 0 = .ok (.aload_n 0, 1) := by decide +kernel
theorem dX7_says_1 : decode cX7_says 1 = .ok (.iload_n 1, 1) := by decide +kernel
theorem dX7_says_2 : decode cX7_says 2 = .ok (.ifCond .eq 7, 3) := by decide +kernel
theorem dX7_says_5 : decode cX7_says 5 = .ok (.iconst 0, 1) := by decide +kernel
theorem dX7_says_6 : decode cX7_says 6 = .ok (.goto 4, 3) := by decide +kernel
theorem dX7_says_9 : decode cX7_says 9 = .ok (.iconst 1, 1) := by decide +kernel
theorem dX7_says_10 : decode cX7_says 10 = .ok (.putfield 78, 3) := by decide +kernel
theorem dX7_says_13 : decode cX7_says 13 = .ok (.iload_n 1, 1) := by decide +kernel
theorem dX7_says_14 : decode cX7_says 14 = .ok (.ireturn, 1) := by decide +kernel
theorem dX7_has_0 : decode cX7_has 0 = .ok (.lload_n 0, 1) := by decide +kernel
theorem dX7_has_1 : decode cX7_has 1 = .ok (.iload_n 2, 1) := by decide +kernel
theorem dX7_has_2 : decode cX7_has 2 = .ok (.lushr, 1) := by decide +kernel
theorem dX7_has_3 : decode cX7_has 3 = .ok (.lconst 1, 1) := by decide +kernel
theorem dX7_has_4 : decode cX7_has 4 = .ok (.land, 1) := by decide +kernel
theorem dX7_has_5 : decode cX7_has 5 = .ok (.lconst 1, 1) := by decide +kernel
theorem dX7_has_6 : decode cX7_has 6 = .ok (.lcmp, 1) := by decide +kernel
theorem dX7_has_7 : decode cX7_has 7 = .ok (.ifCond .ne 7, 3) := by decide +kernel
theorem dX7_has_10 : decode cX7_has 10 = .ok (.iconst 1, 1) := by decide +kernel
theorem dX7_has_11 : decode cX7_has 11 = .ok (.goto 4, 3) := by decide +kernel
theorem dX7_has_14 : decode cX7_has 14 = .ok (.iconst 0, 1) := by decide +kernel
theorem dX7_has_15 : decode cX7_has 15 = .ok (.ireturn, 1) := by decide +kernel
theorem dX7_count_0 : decode cX7_count 0 = .ok (.iconst 0, 1) := by decide +kernel
theorem dX7_count_1 : decode cX7_count 1 = .ok (.istore_n 2, 1) := by decide +kernel
theorem dX7_count_2 : decode cX7_count 2 = .ok (.iconst 0, 1) := by decide +kernel
theorem dX7_count_3 : decode cX7_count 3 = .ok (.istore_n 3, 1) := by decide +kernel
theorem dX7_count_4 : decode cX7_count 4 = .ok (.iload_n 3, 1) := by decide +kernel
theorem dX7_count_5 : decode cX7_count 5 = .ok (.bipush 64, 2) := by decide +kernel
theorem dX7_count_7 : decode cX7_count 7 = .ok (.if_icmp .ge 25, 3) := by decide +kernel
theorem dX7_count_10 : decode cX7_count 10 = .ok (.lload_n 0, 1) := by decide +kernel
theorem dX7_count_11 : decode cX7_count 11 = .ok (.iload_n 3, 1) := by decide +kernel
theorem dX7_count_12 : decode cX7_count 12 = .ok (.invokestatic 82, 3) := by decide +kernel
theorem dX7_count_15 : decode cX7_count 15 = .ok (.ifCond .eq 9, 3) := by decide +kernel
theorem dX7_count_18 : decode cX7_count 18 = .ok (.iload_n 2, 1) := by decide +kernel
theorem dX7_count_19 : decode cX7_count 19 = .ok (.iconst 1, 1) := by decide +kernel
theorem dX7_count_20 : decode cX7_count 20 = .ok (.iadd, 1) := by decide +kernel
theorem dX7_count_21 : decode cX7_count 21 = .ok (.goto 4, 3) := by decide +kernel
theorem dX7_count_24 : decode cX7_count 24 = .ok (.iload_n 2, 1) := by decide +kernel
theorem dX7_count_25 : decode cX7_count 25 = .ok (.istore_n 2, 1) := by decide +kernel
theorem dX7_count_26 : decode cX7_count 26 = .ok (.iinc 3 1, 3) := by decide +kernel
theorem dX7_count_29 : decode cX7_count 29 = .ok (.goto (-25), 3) := by decide +kernel
theorem dX7_count_32 : decode cX7_count 32 = .ok (.iload_n 2, 1) := by decide +kernel
theorem dX7_count_33 : decode cX7_count 33 = .ok (.ireturn, 1) := by decide +kernel
theorem dX7_isLess_0 : decode cX7_isLess 0 = .ok (.lload_n 0, 1) := by decide +kernel
theorem dX7_isLess_1 : decode cX7_isLess 1 = .ok (.ldc2_w 86, 3) := by decide +kernel
theorem dX7_isLess_4 : decode cX7_isLess 4 = .ok (.lxor, 1) := by decide +kernel
theorem dX7_isLess_5 : decode cX7_isLess 5 = .ok (.lload_n 2, 1) := by decide +kernel
theorem dX7_isLess_6 : decode cX7_isLess 6 = .ok (.ldc2_w 86, 3) := by decide +kernel
theorem dX7_isLess_9 : decode cX7_isLess 9 = .ok (.lxor, 1) := by decide +kernel
theorem dX7_isLess_10 : decode cX7_isLess 10 = .ok (.lcmp, 1) := by decide +kernel
theorem dX7_isLess_11 : decode cX7_isLess 11 = .ok (.ifCond .ge 7, 3) := by decide +kernel
theorem dX7_isLess_14 : decode cX7_isLess 14 = .ok (.iconst 1, 1) := by decide +kernel
theorem dX7_isLess_15 : decode cX7_isLess 15 = .ok (.goto 4, 3) := by decide +kernel
theorem dX7_isLess_18 : decode cX7_isLess 18 = .ok (.iconst 0, 1) := by decide +kernel
theorem dX7_isLess_19 : decode cX7_isLess 19 = .ok (.ireturn, 1) := by decide +kernel
theorem dX7_cube_0 : decode cX7_cube 0 = .ok (.iload_n 1, 1) := by decide +kernel
theorem dX7_cube_1 : decode cX7_cube 1 = .ok (.iconst 0, 1) := by decide +kernel
theorem dX7_cube_2 : decode cX7_cube 2 = .ok (.iconst 5, 1) := by decide +kernel
theorem dX7_cube_3 : decode cX7_cube 3 = .ok (.invokestatic 88, 3) := by decide +kernel
theorem dX7_cube_6 : decode cX7_cube 6 = .ok (.ifCond .eq 17, 3) := by decide +kernel
theorem dX7_cube_9 : decode cX7_cube 9 = .ok (.iload_n 2, 1) := by decide +kernel
theorem dX7_cube_10 : decode cX7_cube 10 = .ok (.iconst 0, 1) := by decide +kernel
theorem dX7_cube_11 : decode cX7_cube 11 = .ok (.bipush 63, 2) := by decide +kernel
theorem dX7_cube_13 : decode cX7_cube 13 = .ok (.invokestatic 88, 3) := by decide +kernel
theorem dX7_cube_16 : decode cX7_cube 16 = .ok (.ifCond .eq 7, 3) := by decide +kernel
theorem dX7_cube_19 : decode cX7_cube 19 = .ok (.iconst 1, 1) := by decide +kernel
theorem dX7_cube_20 : decode cX7_cube 20 = .ok (.goto 4, 3) := by decide +kernel
theorem dX7_cube_23 : decode cX7_cube 23 = .ok (.iconst 0, 1) := by decide +kernel
theorem dX7_cube_24 : decode cX7_cube 24 = .ok (.istore 4, 2) := by decide +kernel
theorem dX7_cube_26 : decode cX7_cube 26 = .ok (.aload_n 0, 1) := by decide +kernel
theorem dX7_cube_27 : decode cX7_cube 27 = .ok (.iload 4, 2) := by decide +kernel
theorem dX7_cube_29 : decode cX7_cube 29 = .ok (.ifCond .ne 7, 3) := by decide +kernel
theorem dX7_cube_32 : decode cX7_cube 32 = .ok (.iconst 1, 1) := by decide +kernel
theorem dX7_cube_33 : decode cX7_cube 33 = .ok (.goto 40, 3) := by decide +kernel
theorem dX7_cube_36 : decode cX7_cube 36 = .ok (.aload_n 0, 1) := by decide +kernel
theorem dX7_cube_37 : decode cX7_cube 37 = .ok (.getfield 7, 3) := by decide +kernel
theorem dX7_cube_40 : decode cX7_cube 40 = .ok (.iload_n 1, 1) := by decide +kernel
theorem dX7_cube_41 : decode cX7_cube 41 = .ok (.laload, 1) := by decide +kernel
theorem dX7_cube_42 : decode cX7_cube 42 = .ok (.iload_n 2, 1) := by decide +kernel
theorem dX7_cube_43 : decode cX7_cube 43 = .ok (.invokestatic 82, 3) := by decide +kernel
theorem dX7_cube_46 : decode cX7_cube 46 = .ok (.iload_n 3, 1) := by decide +kernel
theorem dX7_cube_47 : decode cX7_cube 47 = .ok (.if_icmp .eq 21, 3) := by decide +kernel
theorem dX7_cube_50 : decode cX7_cube 50 = .ok (.iload_n 3, 1) := by decide +kernel
theorem dX7_cube_51 : decode cX7_cube 51 = .ok (.ifCond .eq 21, 3) := by decide +kernel
theorem dX7_cube_54 : decode cX7_cube 54 = .ok (.aload_n 0, 1) := by decide +kernel
theorem dX7_cube_55 : decode cX7_cube 55 = .ok (.getfield 7, 3) := by decide +kernel
theorem dX7_cube_58 : decode cX7_cube 58 = .ok (.iload_n 1, 1) := by decide +kernel
theorem dX7_cube_59 : decode cX7_cube 59 = .ok (.laload, 1) := by decide +kernel
theorem dX7_cube_60 : decode cX7_cube 60 = .ok (.invokestatic 92, 3) := by decide +kernel
theorem dX7_cube_63 : decode cX7_cube 63 = .ok (.bipush 10, 2) := by decide +kernel
theorem dX7_cube_65 : decode cX7_cube 65 = .ok (.if_icmp .ne 7, 3) := by decide +kernel
theorem dX7_cube_68 : decode cX7_cube 68 = .ok (.iconst 2, 1) := by decide +kernel
theorem dX7_cube_69 : decode cX7_cube 69 = .ok (.goto 4, 3) := by decide +kernel
theorem dX7_cube_72 : decode cX7_cube 72 = .ok (.iconst 0, 1) := by decide +kernel
theorem dX7_cube_73 : decode cX7_cube 73 = .ok (.putfield 78, 3) := by decide +kernel
theorem dX7_cube_76 : decode cX7_cube 76 = .ok (.aload_n 0, 1) := by decide +kernel
theorem dX7_cube_77 : decode cX7_cube 77 = .ok (.getfield 78, 3) := by decide +kernel
theorem dX7_cube_80 : decode cX7_cube 80 = .ok (.ifCond .le 5, 3) := by decide +kernel
theorem dX7_cube_83 : decode cX7_cube 83 = .ok (.iconst 0, 1) := by decide +kernel
theorem dX7_cube_84 : decode cX7_cube 84 = .ok (.ireturn, 1) := by decide +kernel
theorem dX7_cube_85 : decode cX7_cube 85 = .ok (.aload_n 0, 1) := by decide +kernel
theorem dX7_cube_86 : decode cX7_cube 86 = .ok (.getfield 7, 3) := by decide +kernel
theorem dX7_cube_89 : decode cX7_cube 89 = .ok (.iload_n 1, 1) := by decide +kernel
theorem dX7_cube_90 : decode cX7_cube 90 = .ok (.aload_n 0, 1) := by decide +kernel
theorem dX7_cube_91 : decode cX7_cube 91 = .ok (.getfield 7, 3) := by decide +kernel
theorem dX7_cube_94 : decode cX7_cube 94 = .ok (.iload_n 1, 1) := by decide +kernel
theorem dX7_cube_95 : decode cX7_cube 95 = .ok (.laload, 1) := by decide +kernel
theorem dX7_cube_96 : decode cX7_cube 96 = .ok (.lconst 1, 1) := by decide +kernel
theorem dX7_cube_97 : decode cX7_cube 97 = .ok (.iload_n 2, 1) := by decide +kernel
theorem dX7_cube_98 : decode cX7_cube 98 = .ok (.lshl, 1) := by decide +kernel
theorem dX7_cube_99 : decode cX7_cube 99 = .ok (.lxor, 1) := by decide +kernel
theorem dX7_cube_100 : decode cX7_cube 100 = .ok (.lastore, 1) := by decide +kernel
theorem dX7_cube_101 : decode cX7_cube 101 = .ok (.aload_n 0, 1) := by decide +kernel
theorem dX7_cube_102 : decode cX7_cube 102 = .ok (.getfield 33, 3) := by decide +kernel
theorem dX7_cube_105 : decode cX7_cube 105 = .ok (.iload_n 1, 1) := by decide +kernel
theorem dX7_cube_106 : decode cX7_cube 106 = .ok (.lconst 0, 1) := by decide +kernel
theorem dX7_cube_107 : decode cX7_cube 107 = .ok (.lastore, 1) := by decide +kernel
theorem dX7_cube_108 : decode cX7_cube 108 = .ok (.aload_n 0, 1) := by decide +kernel
theorem dX7_cube_109 : decode cX7_cube 109 = .ok (.getfield 7, 3) := by decide +kernel
theorem dX7_cube_112 : decode cX7_cube 112 = .ok (.iload_n 1, 1) := by decide +kernel
theorem dX7_cube_113 : decode cX7_cube 113 = .ok (.laload, 1) := by decide +kernel
theorem dX7_cube_114 : decode cX7_cube 114 = .ok (.invokestatic 92, 3) := by decide +kernel
theorem dX7_cube_117 : decode cX7_cube 117 = .ok (.ireturn, 1) := by decide +kernel
theorem dX7_mirror_0 : decode cX7_mirror 0 = .ok (.aload_n 0, 1) := by decide +kernel
theorem dX7_mirror_1 : decode cX7_mirror 1 = .ok (.iload_n 1, 1) := by decide +kernel
theorem dX7_mirror_2 : decode cX7_mirror 2 = .ok (.iconst 0, 1) := by decide +kernel
theorem dX7_mirror_3 : decode cX7_mirror 3 = .ok (.iconst 5, 1) := by decide +kernel
theorem dX7_mirror_4 : decode cX7_mirror 4 = .ok (.invokestatic 88, 3) := by decide +kernel
theorem dX7_mirror_7 : decode cX7_mirror 7 = .ok (.invokevirtual 96, 3) := by decide +kernel
theorem dX7_mirror_10 : decode cX7_mirror 10 = .ok (.ifCond .eq 10, 3) := by decide +kernel
theorem dX7_mirror_13 : decode cX7_mirror 13 = .ok (.aload_n 0, 1) := by decide +kernel
theorem dX7_mirror_14 : decode cX7_mirror 14 = .ok (.getfield 13, 3) := by decide +kernel
theorem dX7_mirror_17 : decode cX7_mirror 17 = .ok (.iload_n 1, 1) := by decide +kernel
theorem dX7_mirror_18 : decode cX7_mirror 18 = .ok (.iload_n 2, 1) := by decide +kernel
theorem dX7_mirror_19 : decode cX7_mirror 19 = .ok (.bastore, 1) := by decide +kernel
theorem dX7_mirror_20 : decode cX7_mirror 20 = .ok (.return_, 1) := by decide +kernel
theorem dX7_touch_0 : decode cX7_touch 0 = .ok (.iload_n 0, 1) := by decide +kernel
theorem dX7_touch_1 : decode cX7_touch 1 = .ok (.iconst 4, 1) := by decide +kernel
theorem dX7_touch_2 : decode cX7_touch 2 = .ok (.irem, 1) := by decide +kernel
theorem dX7_touch_3 : decode cX7_touch 3 = .ok (.iload_n 1, 1) := by decide +kernel
theorem dX7_touch_4 : decode cX7_touch 4 = .ok (.iconst 4, 1) := by decide +kernel
theorem dX7_touch_5 : decode cX7_touch 5 = .ok (.irem, 1) := by decide +kernel
theorem dX7_touch_6 : decode cX7_touch 6 = .ok (.isub, 1) := by decide +kernel
theorem dX7_touch_7 : decode cX7_touch 7 = .ok (.istore_n 2, 1) := by decide +kernel
theorem dX7_touch_8 : decode cX7_touch 8 = .ok (.iload_n 0, 1) := by decide +kernel
theorem dX7_touch_9 : decode cX7_touch 9 = .ok (.iconst 4, 1) := by decide +kernel
theorem dX7_touch_10 : decode cX7_touch 10 = .ok (.idiv, 1) := by decide +kernel
theorem dX7_touch_11 : decode cX7_touch 11 = .ok (.iconst 4, 1) := by decide +kernel
theorem dX7_touch_12 : decode cX7_touch 12 = .ok (.irem, 1) := by decide +kernel
theorem dX7_touch_13 : decode cX7_touch 13 = .ok (.iload_n 1, 1) := by decide +kernel
theorem dX7_touch_14 : decode cX7_touch 14 = .ok (.iconst 4, 1) := by decide +kernel
theorem dX7_touch_15 : decode cX7_touch 15 = .ok (.idiv, 1) := by decide +kernel
theorem dX7_touch_16 : decode cX7_touch 16 = .ok (.iconst 4, 1) := by decide +kernel
theorem dX7_touch_17 : decode cX7_touch 17 = .ok (.irem, 1) := by decide +kernel
theorem dX7_touch_18 : decode cX7_touch 18 = .ok (.isub, 1) := by decide +kernel
theorem dX7_touch_19 : decode cX7_touch 19 = .ok (.istore_n 3, 1) := by decide +kernel
theorem dX7_touch_20 : decode cX7_touch 20 = .ok (.iload_n 0, 1) := by decide +kernel
theorem dX7_touch_21 : decode cX7_touch 21 = .ok (.bipush 16, 2) := by decide +kernel
theorem dX7_touch_23 : decode cX7_touch 23 = .ok (.idiv, 1) := by decide +kernel
theorem dX7_touch_24 : decode cX7_touch 24 = .ok (.iload_n 1, 1) := by decide +kernel
theorem dX7_touch_25 : decode cX7_touch 25 = .ok (.bipush 16, 2) := by decide +kernel
theorem dX7_touch_27 : decode cX7_touch 27 = .ok (.idiv, 1) := by decide +kernel
theorem dX7_touch_28 : decode cX7_touch 28 = .ok (.isub, 1) := by decide +kernel
theorem dX7_touch_29 : decode cX7_touch 29 = .ok (.istore 4, 2) := by decide +kernel
theorem dX7_touch_31 : decode cX7_touch 31 = .ok (.iload_n 2, 1) := by decide +kernel
theorem dX7_touch_32 : decode cX7_touch 32 = .ok (.iload_n 2, 1) := by decide +kernel
theorem dX7_touch_33 : decode cX7_touch 33 = .ok (.imul, 1) := by decide +kernel
theorem dX7_touch_34 : decode cX7_touch 34 = .ok (.iload_n 3, 1) := by decide +kernel
theorem dX7_touch_35 : decode cX7_touch 35 = .ok (.iload_n 3, 1) := by decide +kernel
theorem dX7_touch_36 : decode cX7_touch 36 = .ok (.imul, 1) := by decide +kernel
theorem dX7_touch_37 : decode cX7_touch 37 = .ok (.iadd, 1) := by decide +kernel
theorem dX7_touch_38 : decode cX7_touch 38 = .ok (.iload 4, 2) := by decide +kernel
theorem dX7_touch_40 : decode cX7_touch 40 = .ok (.iload 4, 2) := by decide +kernel
end
section
theorem dX7_touch_42 : decode cX7_touch 42 = .ok (.imul, 1) := by decide +kernel
theorem dX7_touch_43 : decode cX7_touch 43 = .ok (.iadd, 1) := by decide +kernel
theorem dX7_touch_44 : decode cX7_touch 44 = .ok (.iconst 1, 1) := by decide +kernel
theorem dX7_touch_45 : decode cX7_touch 45 = .ok (.if_icmp .ne 7, 3) := by decide +kernel
theorem dX7_touch_48 : decode cX7_touch 48 = .ok (.iconst 1, 1) := by decide +kernel
theorem dX7_touch_49 : decode cX7_touch 49 = .ok (.goto 4, 3) := by decide +kernel
theorem dX7_touch_52 : decode cX7_touch 52 = .ok (.iconst 0, 1) := by decide +kernel
theorem dX7_touch_53 : decode cX7_touch 53 = .ok (.ireturn, 1) := by decide +kernel
theorem dX7_isMade_0 : decode cX7_isMade 0 = .ok (.lload_n 0, 1) := by decide +kernel
theorem dX7_isMade_1 : decode cX7_isMade 1 = .ok (.lconst 0, 1) := by decide +kernel
theorem dX7_isMade_2 : decode cX7_isMade 2 = .ok (.lcmp, 1) := by decide +kernel
theorem dX7_isMade_3 : decode cX7_isMade 3 = .ok (.ifCond .ne 5, 3) := by decide +kernel
theorem dX7_isMade_6 : decode cX7_isMade 6 = .ok (.iconst 0, 1) := by decide +kernel
theorem dX7_isMade_7 : decode cX7_isMade 7 = .ok (.ireturn, 1) := by decide +kernel
theorem dX7_isMade_8 : decode cX7_isMade 8 = .ok (.lload_n 0, 1) := by decide +kernel
theorem dX7_isMade_9 : decode cX7_isMade 9 = .ok (.lload_n 0, 1) := by decide +kernel
theorem dX7_isMade_10 : decode cX7_isMade 10 = .ok (.lneg, 1) := by decide +kernel
theorem dX7_isMade_11 : decode cX7_isMade 11 = .ok (.land, 1) := by decide +kernel
theorem dX7_isMade_12 : decode cX7_isMade 12 = .ok (.lstore_n 2, 1) := by decide +kernel
theorem dX7_isMade_13 : decode cX7_isMade 13 = .ok (.iconst 1, 1) := by decide +kernel
theorem dX7_isMade_14 : decode cX7_isMade 14 = .ok (.istore 4, 2) := by decide +kernel
theorem dX7_isMade_16 : decode cX7_isMade 16 = .ok (.iload 4, 2) := by decide +kernel
theorem dX7_isMade_18 : decode cX7_isMade 18 = .ok (.ifCond .eq 122, 3) := by decide +kernel
theorem dX7_isMade_21 : decode cX7_isMade 21 = .ok (.iconst 0, 1) := by decide +kernel
theorem dX7_isMade_22 : decode cX7_isMade 22 = .ok (.istore 4, 2) := by decide +kernel
theorem dX7_isMade_24 : decode cX7_isMade 24 = .ok (.iconst 0, 1) := by decide +kernel
theorem dX7_isMade_25 : decode cX7_isMade 25 = .ok (.istore 5, 2) := by decide +kernel
theorem dX7_isMade_27 : decode cX7_isMade 27 = .ok (.iload 5, 2) := by decide +kernel
theorem dX7_isMade_29 : decode cX7_isMade 29 = .ok (.bipush 64, 2) := by decide +kernel
theorem dX7_isMade_31 : decode cX7_isMade 31 = .ok (.if_icmp .ge 106, 3) := by decide +kernel
theorem dX7_isMade_34 : decode cX7_isMade 34 = .ok (.lload_n 0, 1) := by decide +kernel
theorem dX7_isMade_35 : decode cX7_isMade 35 = .ok (.iload 5, 2) := by decide +kernel
theorem dX7_isMade_37 : decode cX7_isMade 37 = .ok (.invokestatic 82, 3) := by decide +kernel
theorem dX7_isMade_40 : decode cX7_isMade 40 = .ok (.ifCond .eq 91, 3) := by decide +kernel
theorem dX7_isMade_43 : decode cX7_isMade 43 = .ok (.lload_n 2, 1) := by decide +kernel
theorem dX7_isMade_44 : decode cX7_isMade 44 = .ok (.iload 5, 2) := by decide +kernel
theorem dX7_isMade_46 : decode cX7_isMade 46 = .ok (.invokestatic 82, 3) := by decide +kernel
theorem dX7_isMade_49 : decode cX7_isMade 49 = .ok (.ifCond .eq 6, 3) := by decide +kernel
theorem dX7_isMade_52 : decode cX7_isMade 52 = .ok (.goto 79, 3) := by decide +kernel
theorem dX7_isMade_55 : decode cX7_isMade 55 = .ok (.iconst 0, 1) := by decide +kernel
theorem dX7_isMade_56 : decode cX7_isMade 56 = .ok (.istore 6, 2) := by decide +kernel
theorem dX7_isMade_58 : decode cX7_isMade 58 = .ok (.iload 6, 2) := by decide +kernel
theorem dX7_isMade_60 : decode cX7_isMade 60 = .ok (.bipush 64, 2) := by decide +kernel
theorem dX7_isMade_62 : decode cX7_isMade 62 = .ok (.if_icmp .ge 49, 3) := by decide +kernel
theorem dX7_isMade_65 : decode cX7_isMade 65 = .ok (.iload 4, 2) := by decide +kernel
theorem dX7_isMade_67 : decode cX7_isMade 67 = .ok (.ifCond .ne 31, 3) := by decide +kernel
theorem dX7_isMade_70 : decode cX7_isMade 70 = .ok (.lload_n 2, 1) := by decide +kernel
theorem dX7_isMade_71 : decode cX7_isMade 71 = .ok (.iload 6, 2) := by decide +kernel
theorem dX7_isMade_73 : decode cX7_isMade 73 = .ok (.invokestatic 82, 3) := by decide +kernel
theorem dX7_isMade_76 : decode cX7_isMade 76 = .ok (.ifCond .eq 26, 3) := by decide +kernel
theorem dX7_isMade_79 : decode cX7_isMade 79 = .ok (.iload 5, 2) := by decide +kernel
theorem dX7_isMade_81 : decode cX7_isMade 81 = .ok (.iload 6, 2) := by decide +kernel
theorem dX7_isMade_83 : decode cX7_isMade 83 = .ok (.invokestatic 100, 3) := by decide +kernel
theorem dX7_isMade_86 : decode cX7_isMade 86 = .ok (.ifCond .eq 16, 3) := by decide +kernel
theorem dX7_isMade_89 : decode cX7_isMade 89 = .ok (.lload_n 2, 1) := by decide +kernel
theorem dX7_isMade_90 : decode cX7_isMade 90 = .ok (.iload 5, 2) := by decide +kernel
theorem dX7_isMade_92 : decode cX7_isMade 92 = .ok (.invokestatic 82, 3) := by decide +kernel
theorem dX7_isMade_95 : decode cX7_isMade 95 = .ok (.ifCond .ne 7, 3) := by decide +kernel
theorem dX7_isMade_98 : decode cX7_isMade 98 = .ok (.iconst 1, 1) := by decide +kernel
theorem dX7_isMade_99 : decode cX7_isMade 99 = .ok (.goto 4, 3) := by decide +kernel
theorem dX7_isMade_102 : decode cX7_isMade 102 = .ok (.iconst 0, 1) := by decide +kernel
theorem dX7_isMade_103 : decode cX7_isMade 103 = .ok (.istore 4, 2) := by decide +kernel
theorem dX7_isMade_105 : decode cX7_isMade 105 = .ok (.iinc 6 1, 3) := by decide +kernel
theorem dX7_isMade_108 : decode cX7_isMade 108 = .ok (.goto (-50), 3) := by decide +kernel
theorem dX7_isMade_111 : decode cX7_isMade 111 = .ok (.iload 4, 2) := by decide +kernel
theorem dX7_isMade_113 : decode cX7_isMade 113 = .ok (.ifCond .eq 10, 3) := by decide +kernel
theorem dX7_isMade_116 : decode cX7_isMade 116 = .ok (.lload_n 2, 1) := by decide +kernel
theorem dX7_isMade_117 : decode cX7_isMade 117 = .ok (.lconst 1, 1) := by decide +kernel
theorem dX7_isMade_118 : decode cX7_isMade 118 = .ok (.iload 5, 2) := by decide +kernel
theorem dX7_isMade_120 : decode cX7_isMade 120 = .ok (.lshl, 1) := by decide +kernel
theorem dX7_isMade_121 : decode cX7_isMade 121 = .ok (.lor, 1) := by decide +kernel
theorem dX7_isMade_122 : decode cX7_isMade 122 = .ok (.lstore_n 2, 1) := by decide +kernel
theorem dX7_isMade_123 : decode cX7_isMade 123 = .ok (.iload 4, 2) := by decide +kernel
theorem dX7_isMade_125 : decode cX7_isMade 125 = .ok (.ifCond .eq 6, 3) := by decide +kernel
theorem dX7_isMade_128 : decode cX7_isMade 128 = .ok (.goto 9, 3) := by decide +kernel
theorem dX7_isMade_131 : decode cX7_isMade 131 = .ok (.iinc 5 1, 3) := by decide +kernel
theorem dX7_isMade_134 : decode cX7_isMade 134 = .ok (.goto (-107), 3) := by decide +kernel
theorem dX7_isMade_137 : decode cX7_isMade 137 = .ok (.goto (-121), 3) := by decide +kernel
theorem dX7_isMade_140 : decode cX7_isMade 140 = .ok (.lload_n 2, 1) := by decide +kernel
theorem dX7_isMade_141 : decode cX7_isMade 141 = .ok (.lload_n 0, 1) := by decide +kernel
theorem dX7_isMade_142 : decode cX7_isMade 142 = .ok (.lcmp, 1) := by decide +kernel
theorem dX7_isMade_143 : decode cX7_isMade 143 = .ok (.ifCond .ne 7, 3) := by decide +kernel
theorem dX7_isMade_146 : decode cX7_isMade 146 = .ok (.iconst 1, 1) := by decide +kernel
theorem dX7_isMade_147 : decode cX7_isMade 147 = .ok (.goto 4, 3) := by decide +kernel
theorem dX7_isMade_150 : decode cX7_isMade 150 = .ok (.iconst 0, 1) := by decide +kernel
theorem dX7_isMade_151 : decode cX7_isMade 151 = .ok (.ireturn, 1) := by decide +kernel
theorem dX7_axis_0 : decode cX7_axis 0 = .ok (.iload_n 1, 1) := by decide +kernel
theorem dX7_axis_1 : decode cX7_axis 1 = .ok (.ifCond .ne 9, 3) := by decide +kernel
theorem dX7_axis_4 : decode cX7_axis 4 = .ok (.iload_n 0, 1) := by decide +kernel
theorem dX7_axis_5 : decode cX7_axis 5 = .ok (.iconst 4, 1) := by decide +kernel
theorem dX7_axis_6 : decode cX7_axis 6 = .ok (.irem, 1) := by decide +kernel
theorem dX7_axis_7 : decode cX7_axis 7 = .ok (.goto 20, 3) := by decide +kernel
theorem dX7_axis_10 : decode cX7_axis 10 = .ok (.iload_n 1, 1) := by decide +kernel
theorem dX7_axis_11 : decode cX7_axis 11 = .ok (.iconst 1, 1) := by decide +kernel
theorem dX7_axis_12 : decode cX7_axis 12 = .ok (.if_icmp .ne 11, 3) := by decide +kernel
theorem dX7_axis_15 : decode cX7_axis 15 = .ok (.iload_n 0, 1) := by decide +kernel
theorem dX7_axis_16 : decode cX7_axis 16 = .ok (.iconst 4, 1) := by decide +kernel
theorem dX7_axis_17 : decode cX7_axis 17 = .ok (.idiv, 1) := by decide +kernel
theorem dX7_axis_18 : decode cX7_axis 18 = .ok (.iconst 4, 1) := by decide +kernel
theorem dX7_axis_19 : decode cX7_axis 19 = .ok (.irem, 1) := by decide +kernel
theorem dX7_axis_20 : decode cX7_axis 20 = .ok (.goto 7, 3) := by decide +kernel
theorem dX7_axis_23 : decode cX7_axis 23 = .ok (.iload_n 0, 1) := by decide +kernel
theorem dX7_axis_24 : decode cX7_axis 24 = .ok (.bipush 16, 2) := by decide +kernel
theorem dX7_axis_26 : decode cX7_axis 26 = .ok (.idiv, 1) := by decide +kernel
theorem dX7_axis_27 : decode cX7_axis 27 = .ok (.istore_n 3, 1) := by decide +kernel
theorem dX7_axis_28 : decode cX7_axis 28 = .ok (.iload_n 2, 1) := by decide +kernel
theorem dX7_axis_29 : decode cX7_axis 29 = .ok (.ifCond .eq 9, 3) := by decide +kernel
theorem dX7_axis_32 : decode cX7_axis 32 = .ok (.iconst 3, 1) := by decide +kernel
theorem dX7_axis_33 : decode cX7_axis 33 = .ok (.iload_n 3, 1) := by decide +kernel
theorem dX7_axis_34 : decode cX7_axis 34 = .ok (.isub, 1) := by decide +kernel
theorem dX7_axis_35 : decode cX7_axis 35 = .ok (.goto 4, 3) := by decide +kernel
theorem dX7_axis_38 : decode cX7_axis 38 = .ok (.iload_n 3, 1) := by decide +kernel
theorem dX7_axis_39 : decode cX7_axis 39 = .ok (.ireturn, 1) := by decide +kernel
theorem dX7_turned_0 : decode cX7_turned 0 = .ok (.iload_n 2, 1) := by decide +kernel
theorem dX7_turned_1 : decode cX7_turned 1 = .ok (.iconst 2, 1) := by decide +kernel
theorem dX7_turned_2 : decode cX7_turned 2 = .ok (.idiv, 1) := by decide +kernel
theorem dX7_turned_3 : decode cX7_turned 3 = .ok (.istore 4, 2) := by decide +kernel
theorem dX7_turned_5 : decode cX7_turned 5 = .ok (.iload_n 2, 1) := by decide +kernel
theorem dX7_turned_6 : decode cX7_turned 6 = .ok (.iconst 2, 1) := by decide +kernel
theorem dX7_turned_7 : decode cX7_turned 7 = .ok (.irem, 1) := by decide +kernel
theorem dX7_turned_8 : decode cX7_turned 8 = .ok (.ifCond .ne 12, 3) := by decide +kernel
theorem dX7_turned_11 : decode cX7_turned 11 = .ok (.iload 4, 2) := by decide +kernel
theorem dX7_turned_13 : decode cX7_turned 13 = .ok (.iconst 1, 1) := by decide +kernel
theorem dX7_turned_14 : decode cX7_turned 14 = .ok (.iadd, 1) := by decide +kernel
theorem dX7_turned_15 : decode cX7_turned 15 = .ok (.iconst 3, 1) := by decide +kernel
theorem dX7_turned_16 : decode cX7_turned 16 = .ok (.irem, 1) := by decide +kernel
theorem dX7_turned_17 : decode cX7_turned 17 = .ok (.goto 9, 3) := by decide +kernel
theorem dX7_turned_20 : decode cX7_turned 20 = .ok (.iload 4, 2) := by decide +kernel
theorem dX7_turned_22 : decode cX7_turned 22 = .ok (.iconst 2, 1) := by decide +kernel
theorem dX7_turned_23 : decode cX7_turned 23 = .ok (.iadd, 1) := by decide +kernel
theorem dX7_turned_24 : decode cX7_turned 24 = .ok (.iconst 3, 1) := by decide +kernel
theorem dX7_turned_25 : decode cX7_turned 25 = .ok (.irem, 1) := by decide +kernel
theorem dX7_turned_26 : decode cX7_turned 26 = .ok (.istore 5, 2) := by decide +kernel
theorem dX7_turned_28 : decode cX7_turned 28 = .ok (.iconst 3, 1) := by decide +kernel
theorem dX7_turned_29 : decode cX7_turned 29 = .ok (.iload 4, 2) := by decide +kernel
theorem dX7_turned_31 : decode cX7_turned 31 = .ok (.isub, 1) := by decide +kernel
theorem dX7_turned_32 : decode cX7_turned 32 = .ok (.iload 5, 2) := by decide +kernel
theorem dX7_turned_34 : decode cX7_turned 34 = .ok (.isub, 1) := by decide +kernel
theorem dX7_turned_35 : decode cX7_turned 35 = .ok (.istore 6, 2) := by decide +kernel
theorem dX7_turned_37 : decode cX7_turned 37 = .ok (.iconst 3, 1) := by decide +kernel
theorem dX7_turned_38 : decode cX7_turned 38 = .ok (.istore 7, 2) := by decide +kernel
theorem dX7_turned_40 : decode cX7_turned 40 = .ok (.iconst 3, 1) := by decide +kernel
theorem dX7_turned_41 : decode cX7_turned 41 = .ok (.istore 8, 2) := by decide +kernel
theorem dX7_turned_43 : decode cX7_turned 43 = .ok (.iconst 3, 1) := by decide +kernel
theorem dX7_turned_44 : decode cX7_turned 44 = .ok (.istore 9, 2) := by decide +kernel
theorem dX7_turned_46 : decode cX7_turned 46 = .ok (.iconst 0, 1) := by decide +kernel
theorem dX7_turned_47 : decode cX7_turned 47 = .ok (.istore 10, 2) := by decide +kernel
theorem dX7_turned_49 : decode cX7_turned 49 = .ok (.iload 10, 2) := by decide +kernel
theorem dX7_turned_51 : decode cX7_turned 51 = .ok (.bipush 64, 2) := by decide +kernel
theorem dX7_turned_53 : decode cX7_turned 53 = .ok (.if_icmp .ge 132, 3) := by decide +kernel
theorem dX7_turned_56 : decode cX7_turned 56 = .ok (.lload_n 0, 1) := by decide +kernel
theorem dX7_turned_57 : decode cX7_turned 57 = .ok (.iload 10, 2) := by decide +kernel
theorem dX7_turned_59 : decode cX7_turned 59 = .ok (.invokestatic 82, 3) := by decide +kernel
theorem dX7_turned_62 : decode cX7_turned 62 = .ok (.ifCond .ne 6, 3) := by decide +kernel
theorem dX7_turned_65 : decode cX7_turned 65 = .ok (.goto 114, 3) := by decide +kernel
theorem dX7_turned_68 : decode cX7_turned 68 = .ok (.iload 10, 2) := by decide +kernel
theorem dX7_turned_70 : decode cX7_turned 70 = .ok (.iload 4, 2) := by decide +kernel
theorem dX7_turned_72 : decode cX7_turned 72 = .ok (.iload_n 3, 1) := by decide +kernel
theorem dX7_turned_73 : decode cX7_turned 73 = .ok (.iconst 1, 1) := by decide +kernel
theorem dX7_turned_74 : decode cX7_turned 74 = .ok (.iand, 1) := by decide +kernel
theorem dX7_turned_75 : decode cX7_turned 75 = .ok (.iconst 1, 1) := by decide +kernel
theorem dX7_turned_76 : decode cX7_turned 76 = .ok (.if_icmp .ne 7, 3) := by decide +kernel
theorem dX7_turned_79 : decode cX7_turned 79 = .ok (.iconst 1, 1) := by decide +kernel
theorem dX7_turned_80 : decode cX7_turned 80 = .ok (.goto 4, 3) := by decide +kernel
theorem dX7_turned_83 : decode cX7_turned 83 = .ok (.iconst 0, 1) := by decide +kernel
theorem dX7_turned_84 : decode cX7_turned 84 = .ok (.invokestatic 104, 3) := by decide +kernel
theorem dX7_turned_87 : decode cX7_turned 87 = .ok (.istore 11, 2) := by decide +kernel
theorem dX7_turned_89 : decode cX7_turned 89 = .ok (.iload 10, 2) := by decide +kernel
theorem dX7_turned_91 : decode cX7_turned 91 = .ok (.iload 5, 2) := by decide +kernel
theorem dX7_turned_93 : decode cX7_turned 93 = .ok (.iload_n 3, 1) := by decide +kernel
theorem dX7_turned_94 : decode cX7_turned 94 = .ok (.iconst 2, 1) := by decide +kernel
theorem dX7_turned_95 : decode cX7_turned 95 = .ok (.iand, 1) := by decide +kernel
theorem dX7_turned_96 : decode cX7_turned 96 = .ok (.iconst 2, 1) := by decide +kernel
theorem dX7_turned_97 : decode cX7_turned 97 = .ok (.if_icmp .ne 7, 3) := by decide +kernel
theorem dX7_turned_100 : decode cX7_turned 100 = .ok (.iconst 1, 1) := by decide +kernel
theorem dX7_turned_101 : decode cX7_turned 101 = .ok (.goto 4, 3) := by decide +kernel
theorem dX7_turned_104 : decode cX7_turned 104 = .ok (.iconst 0, 1) := by decide +kernel
theorem dX7_turned_105 : decode cX7_turned 105 = .ok (.invokestatic 104, 3) := by decide +kernel
theorem dX7_turned_108 : decode cX7_turned 108 = .ok (.istore 12, 2) := by decide +kernel
theorem dX7_turned_110 : decode cX7_turned 110 = .ok (.iload 10, 2) := by decide +kernel
theorem dX7_turned_112 : decode cX7_turned 112 = .ok (.iload 6, 2) := by decide +kernel
theorem dX7_turned_114 : decode cX7_turned 114 = .ok (.iload_n 3, 1) := by decide +kernel
theorem dX7_turned_115 : decode cX7_turned 115 = .ok (.iconst 4, 1) := by decide +kernel
theorem dX7_turned_116 : decode cX7_turned 116 = .ok (.iand, 1) := by decide +kernel
theorem dX7_turned_117 : decode cX7_turned 117 = .ok (.iconst 4, 1) := by decide +kernel
theorem dX7_turned_118 : decode cX7_turned 118 = .ok (.if_icmp .ne 7, 3) := by decide +kernel
theorem dX7_turned_121 : decode cX7_turned 121 = .ok (.iconst 1, 1) := by decide +kernel
theorem dX7_turned_122 : decode cX7_turned 122 = .ok (.goto 4, 3) := by decide +kernel
theorem dX7_turned_125 : decode cX7_turned 125 = .ok (.iconst 0, 1) := by decide +kernel
theorem dX7_turned_126 : decode cX7_turned 126 = .ok (.invokestatic 104, 3) := by decide +kernel
theorem dX7_turned_129 : decode cX7_turned 129 = .ok (.istore 13, 2) := by decide +kernel
theorem dX7_turned_131 : decode cX7_turned 131 = .ok (.iload 11, 2) := by decide +kernel
theorem dX7_turned_133 : decode cX7_turned 133 = .ok (.iload 7, 2) := by decide +kernel
theorem dX7_turned_135 : decode cX7_turned 135 = .ok (.if_icmp .ge 8, 3) := by decide +kernel
theorem dX7_turned_138 : decode cX7_turned 138 = .ok (.iload 11, 2) := by decide +kernel
theorem dX7_turned_140 : decode cX7_turned 140 = .ok (.goto 5, 3) := by decide +kernel
theorem dX7_turned_143 : decode cX7_turned 143 = .ok (.iload 7, 2) := by decide +kernel
theorem dX7_turned_145 : decode cX7_turned 145 = .ok (.istore 7, 2) := by decide +kernel
theorem dX7_turned_147 : decode cX7_turned 147 = .ok (.iload 12, 2) := by decide +kernel
theorem dX7_turned_149 : decode cX7_turned 149 = .ok (.iload 8, 2) := by decide +kernel
theorem dX7_turned_151 : decode cX7_turned 151 = .ok (.if_icmp .ge 8, 3) := by decide +kernel
theorem dX7_turned_154 : decode cX7_turned 154 = .ok (.iload 12, 2) := by decide +kernel
theorem dX7_turned_156 : decode cX7_turned 156 = .ok (.goto 5, 3) := by decide +kernel
theorem dX7_turned_159 : decode cX7_turned 159 = .ok (.iload 8, 2) := by decide +kernel
theorem dX7_turned_161 : decode cX7_turned 161 = .ok (.istore 8, 2) := by decide +kernel
theorem dX7_turned_163 : decode cX7_turned 163 = .ok (.iload 13, 2) := by decide +kernel
theorem dX7_turned_165 : decode cX7_turned 165 = .ok (.iload 9, 2) := by decide +kernel
theorem dX7_turned_167 : decode cX7_turned 167 = .ok (.if_icmp .ge 8, 3) := by decide +kernel
theorem dX7_turned_170 : decode cX7_turned 170 = .ok (.iload 13, 2) := by decide +kernel
theorem dX7_turned_172 : decode cX7_turned 172 = .ok (.goto 5, 3) := by decide +kernel
theorem dX7_turned_175 : decode cX7_turned 175 = .ok (.iload 9, 2) := by decide +kernel
theorem dX7_turned_177 : decode cX7_turned 177 = .ok (.istore 9, 2) := by decide +kernel
theorem dX7_turned_179 : decode cX7_turned 179 = .ok (.iinc 10 1, 3) := by decide +kernel
theorem dX7_turned_182 : decode cX7_turned 182 = .ok (.goto (-133), 3) := by decide +kernel
theorem dX7_turned_185 : decode cX7_turned 185 = .ok (.lconst 0, 1) := by decide +kernel
theorem dX7_turned_186 : decode cX7_turned 186 = .ok (.lstore 10, 2) := by decide +kernel
theorem dX7_turned_188 : decode cX7_turned 188 = .ok (.iconst 0, 1) := by decide +kernel
theorem dX7_turned_189 : decode cX7_turned 189 = .ok (.istore 12, 2) := by decide +kernel
theorem dX7_turned_191 : decode cX7_turned 191 = .ok (.iload 12, 2) := by decide +kernel
theorem dX7_turned_193 : decode cX7_turned 193 = .ok (.bipush 64, 2) := by decide +kernel
theorem dX7_turned_195 : decode cX7_turned 195 = .ok (.if_icmp .ge 113, 3) := by decide +kernel
theorem dX7_turned_198 : decode cX7_turned 198 = .ok (.lload_n 0, 1) := by decide +kernel
theorem dX7_turned_199 : decode cX7_turned 199 = .ok (.iload 12, 2) := by decide +kernel
theorem dX7_turned_201 : decode cX7_turned 201 = .ok (.invokestatic 82, 3) := by decide +kernel
theorem dX7_turned_204 : decode cX7_turned 204 = .ok (.ifCond .ne 6, 3) := by decide +kernel
theorem dX7_turned_207 : decode cX7_turned 207 = .ok (.goto 95, 3) := by decide +kernel
theorem dX7_turned_210 : decode cX7_turned 210 = .ok (.iload 12, 2) := by decide +kernel
theorem dX7_turned_212 : decode cX7_turned 212 = .ok (.iload 4, 2) := by decide +kernel
theorem dX7_turned_214 : decode cX7_turned 214 = .ok (.iload_n 3, 1) := by decide +kernel
theorem dX7_turned_215 : decode cX7_turned 215 = .ok (.iconst 1, 1) := by decide +kernel
theorem dX7_turned_216 : decode cX7_turned 216 = .ok (.iand, 1) := by decide +kernel
theorem dX7_turned_217 : decode cX7_turned 217 = .ok (.iconst 1, 1) := by decide +kernel
theorem dX7_turned_218 : decode cX7_turned 218 = .ok (.if_icmp .ne 7, 3) := by decide +kernel
theorem dX7_turned_221 : decode cX7_turned 221 = .ok (.iconst 1, 1) := by decide +kernel
theorem dX7_turned_222 : decode cX7_turned 222 = .ok (.goto 4, 3) := by decide +kernel
theorem dX7_turned_225 : decode cX7_turned 225 = .ok (.iconst 0, 1) := by decide +kernel
theorem dX7_turned_226 : decode cX7_turned 226 = .ok (.invokestatic 104, 3) := by decide +kernel
theorem dX7_turned_229 : decode cX7_turned 229 = .ok (.iload 7, 2) := by decide +kernel
theorem dX7_turned_231 : decode cX7_turned 231 = .ok (.isub, 1) := by decide +kernel
theorem dX7_turned_232 : decode cX7_turned 232 = .ok (.istore 13, 2) := by decide +kernel
theorem dX7_turned_234 : decode cX7_turned 234 = .ok (.iload 12, 2) := by decide +kernel
theorem dX7_turned_236 : decode cX7_turned 236 = .ok (.iload 5, 2) := by decide +kernel
theorem dX7_turned_238 : decode cX7_turned 238 = .ok (.iload_n 3, 1) := by decide +kernel
theorem dX7_turned_239 : decode cX7_turned 239 = .ok (.iconst 2, 1) := by decide +kernel
theorem dX7_turned_240 : decode cX7_turned 240 = .ok (.iand, 1) := by decide +kernel
theorem dX7_turned_241 : decode cX7_turned 241 = .ok (.iconst 2, 1) := by decide +kernel
theorem dX7_turned_242 : decode cX7_turned 242 = .ok (.if_icmp .ne 7, 3) := by decide +kernel
theorem dX7_turned_245 : decode cX7_turned 245 = .ok (.iconst 1, 1) := by decide +kernel
theorem dX7_turned_246 : decode cX7_turned 246 = .ok (.goto 4, 3) := by decide +kernel
theorem dX7_turned_249 : decode cX7_turned 249 = .ok (.iconst 0, 1) := by decide +kernel
theorem dX7_turned_250 : decode cX7_turned 250 = .ok (.invokestatic 104, 3) := by decide +kernel
theorem dX7_turned_253 : decode cX7_turned 253 = .ok (.iload 8, 2) := by decide +kernel
theorem dX7_turned_255 : decode cX7_turned 255 = .ok (.isub, 1) := by decide +kernel
theorem dX7_turned_256 : decode cX7_turned 256 = .ok (.istore 14, 2) := by decide +kernel
theorem dX7_turned_258 : decode cX7_turned 258 = .ok (.iload 12, 2) := by decide +kernel
theorem dX7_turned_260 : decode cX7_turned 260 = .ok (.iload 6, 2) := by decide +kernel
theorem dX7_turned_262 : decode cX7_turned 262 = .ok (.iload_n 3, 1) := by decide +kernel
theorem dX7_turned_263 : decode cX7_turned 263 = .ok (.iconst 4, 1) := by decide +kernel
theorem dX7_turned_264 : decode cX7_turned 264 = .ok (.iand, 1) := by decide +kernel
theorem dX7_turned_265 : decode cX7_turned 265 = .ok (.iconst 4, 1) := by decide +kernel
theorem dX7_turned_266 : decode cX7_turned 266 = .ok (.if_icmp .ne 7, 3) := by decide +kernel
theorem dX7_turned_269 : decode cX7_turned 269 = .ok (.iconst 1, 1) := by decide +kernel
theorem dX7_turned_270 : decode cX7_turned 270 = .ok (.goto 4, 3) := by decide +kernel
theorem dX7_turned_273 : decode cX7_turned 273 = .ok (.iconst 0, 1) := by decide +kernel
theorem dX7_turned_274 : decode cX7_turned 274 = .ok (.invokestatic 104, 3) := by decide +kernel
theorem dX7_turned_277 : decode cX7_turned 277 = .ok (.iload 9, 2) := by decide +kernel
theorem dX7_turned_279 : decode cX7_turned 279 = .ok (.isub, 1) := by decide +kernel
theorem dX7_turned_280 : decode cX7_turned 280 = .ok (.istore 15, 2) := by decide +kernel
theorem dX7_turned_282 : decode cX7_turned 282 = .ok (.lload 10, 2) := by decide +kernel
theorem dX7_turned_284 : decode cX7_turned 284 = .ok (.lconst 1, 1) := by decide +kernel
theorem dX7_turned_285 : decode cX7_turned 285 = .ok (.iload 13, 2) := by decide +kernel
theorem dX7_turned_287 : decode cX7_turned 287 = .ok (.iconst 4, 1) := by decide +kernel
theorem dX7_turned_288 : decode cX7_turned 288 = .ok (.iload 14, 2) := by decide +kernel
theorem dX7_turned_290 : decode cX7_turned 290 = .ok (.imul, 1) := by decide +kernel
theorem dX7_turned_291 : decode cX7_turned 291 = .ok (.iadd, 1) := by decide +kernel
theorem dX7_turned_292 : decode cX7_turned 292 = .ok (.bipush 16, 2) := by decide +kernel
theorem dX7_turned_294 : decode cX7_turned 294 = .ok (.iload 15, 2) := by decide +kernel
theorem dX7_turned_296 : decode cX7_turned 296 = .ok (.imul, 1) := by decide +kernel
theorem dX7_turned_297 : decode cX7_turned 297 = .ok (.iadd, 1) := by decide +kernel
theorem dX7_turned_298 : decode cX7_turned 298 = .ok (.lshl, 1) := by decide +kernel
theorem dX7_turned_299 : decode cX7_turned 299 = .ok (.lor, 1) := by decide +kernel
theorem dX7_turned_300 : decode cX7_turned 300 = .ok (.lstore 10, 2) := by decide +kernel
theorem dX7_turned_302 : decode cX7_turned 302 = .ok (.iinc 12 1, 3) := by decide +kernel
theorem dX7_turned_305 : decode cX7_turned 305 = .ok (.goto (-114), 3) := by decide +kernel
theorem dX7_turned_308 : decode cX7_turned 308 = .ok (.lload 10, 2) := by decide +kernel
theorem dX7_turned_310 : decode cX7_turned 310 = .ok (.lreturn, 1) := by decide +kernel
theorem dX7_insert_0 : decode cX7_insert 0 = .ok (.iload_n 1, 1) := by decide +kernel
theorem dX7_insert_1 : decode cX7_insert 1 = .ok (.istore 5, 2) := by decide +kernel
theorem dX7_insert_3 : decode cX7_insert 3 = .ok (.iload 5, 2) := by decide +kernel
theorem dX7_insert_5 : decode cX7_insert 5 = .ok (.iload_n 1, 1) := by decide +kernel
theorem dX7_insert_6 : decode cX7_insert 6 = .ok (.iload_n 2, 1) := by decide +kernel
theorem dX7_insert_7 : decode cX7_insert 7 = .ok (.iadd, 1) := by decide +kernel
theorem dX7_insert_8 : decode cX7_insert 8 = .ok (.if_icmp .ge 20, 3) := by decide +kernel
theorem dX7_insert_11 : decode cX7_insert 11 = .ok (.aload_n 0, 1) := by decide +kernel
theorem dX7_insert_12 : decode cX7_insert 12 = .ok (.iload 5, 2) := by decide +kernel
theorem dX7_insert_14 : decode cX7_insert 14 = .ok (.laload, 1) := by decide +kernel
theorem dX7_insert_15 : decode cX7_insert 15 = .ok (.lload_n 3, 1) := by decide +kernel
theorem dX7_insert_16 : decode cX7_insert 16 = .ok (.invokestatic 108, 3) := by decide +kernel
theorem dX7_insert_19 : decode cX7_insert 19 = .ok (.ifCond .eq 9, 3) := by decide +kernel
theorem dX7_insert_22 : decode cX7_insert 22 = .ok (.iinc 5 1, 3) := by decide +kernel
theorem dX7_insert_25 : decode cX7_insert 25 = .ok (.goto (-22), 3) := by decide +kernel
theorem dX7_insert_28 : decode cX7_insert 28 = .ok (.iload 5, 2) := by decide +kernel
theorem dX7_insert_30 : decode cX7_insert 30 = .ok (.iload_n 1, 1) := by decide +kernel
theorem dX7_insert_31 : decode cX7_insert 31 = .ok (.iload_n 2, 1) := by decide +kernel
theorem dX7_insert_32 : decode cX7_insert 32 = .ok (.iadd, 1) := by decide +kernel
theorem dX7_insert_33 : decode cX7_insert 33 = .ok (.if_icmp .ge 14, 3) := by decide +kernel
theorem dX7_insert_36 : decode cX7_insert 36 = .ok (.aload_n 0, 1) := by decide +kernel
theorem dX7_insert_37 : decode cX7_insert 37 = .ok (.iload 5, 2) := by decide +kernel
theorem dX7_insert_39 : decode cX7_insert 39 = .ok (.laload, 1) := by decide +kernel
theorem dX7_insert_40 : decode cX7_insert 40 = .ok (.lload_n 3, 1) := by decide +kernel
theorem dX7_insert_41 : decode cX7_insert 41 = .ok (.lcmp, 1) := by decide +kernel
theorem dX7_insert_42 : decode cX7_insert 42 = .ok (.ifCond .ne 5, 3) := by decide +kernel
theorem dX7_insert_45 : decode cX7_insert 45 = .ok (.iload_n 2, 1) := by decide +kernel
theorem dX7_insert_46 : decode cX7_insert 46 = .ok (.ireturn, 1) := by decide +kernel
theorem dX7_insert_47 : decode cX7_insert 47 = .ok (.iload_n 1, 1) := by decide +kernel
theorem dX7_insert_48 : decode cX7_insert 48 = .ok (.iload_n 2, 1) := by decide +kernel
theorem dX7_insert_49 : decode cX7_insert 49 = .ok (.iadd, 1) := by decide +kernel
theorem dX7_insert_50 : decode cX7_insert 50 = .ok (.istore 6, 2) := by decide +kernel
theorem dX7_insert_52 : decode cX7_insert 52 = .ok (.iload 6, 2) := by decide +kernel
theorem dX7_insert_54 : decode cX7_insert 54 = .ok (.iload 5, 2) := by decide +kernel
theorem dX7_insert_56 : decode cX7_insert 56 = .ok (.if_icmp .le 19, 3) := by decide +kernel
theorem dX7_insert_59 : decode cX7_insert 59 = .ok (.aload_n 0, 1) := by decide +kernel
theorem dX7_insert_60 : decode cX7_insert 60 = .ok (.iload 6, 2) := by decide +kernel
theorem dX7_insert_62 : decode cX7_insert 62 = .ok (.aload_n 0, 1) := by decide +kernel
theorem dX7_insert_63 : decode cX7_insert 63 = .ok (.iload 6, 2) := by decide +kernel
theorem dX7_insert_65 : decode cX7_insert 65 = .ok (.iconst 1, 1) := by decide +kernel
theorem dX7_insert_66 : decode cX7_insert 66 = .ok (.isub, 1) := by decide +kernel
theorem dX7_insert_67 : decode cX7_insert 67 = .ok (.laload, 1) := by decide +kernel
theorem dX7_insert_68 : decode cX7_insert 68 = .ok (.lastore, 1) := by decide +kernel
theorem dX7_insert_69 : decode cX7_insert 69 = .ok (.iinc 6 (-1), 3) := by decide +kernel
theorem dX7_insert_72 : decode cX7_insert 72 = .ok (.goto (-20), 3) := by decide +kernel
theorem dX7_insert_75 : decode cX7_insert 75 = .ok (.aload_n 0, 1) := by decide +kernel
theorem dX7_insert_76 : decode cX7_insert 76 = .ok (.iload 5, 2) := by decide +kernel
theorem dX7_insert_78 : decode cX7_insert 78 = .ok (.lload_n 3, 1) := by decide +kernel
theorem dX7_insert_79 : decode cX7_insert 79 = .ok (.lastore, 1) := by decide +kernel
theorem dX7_insert_80 : decode cX7_insert 80 = .ok (.iload_n 2, 1) := by decide +kernel
theorem dX7_insert_81 : decode cX7_insert 81 = .ok (.iconst 1, 1) := by decide +kernel
theorem dX7_insert_82 : decode cX7_insert 82 = .ok (.iadd, 1) := by decide +kernel
theorem dX7_insert_83 : decode cX7_insert 83 = .ok (.ireturn, 1) := by decide +kernel
theorem dX7_shapesOf_0 : decode cX7_shapesOf 0 = .ok (.aload_n 0, 1) := by decide +kernel
theorem dX7_shapesOf_1 : decode cX7_shapesOf 1 = .ok (.getfield 21, 3) := by decide +kernel
theorem dX7_shapesOf_4 : decode cX7_shapesOf 4 = .ok (.iload_n 1, 1) := by decide +kernel
theorem dX7_shapesOf_5 : decode cX7_shapesOf 5 = .ok (.iconst 0, 1) := by decide +kernel
theorem dX7_shapesOf_6 : decode cX7_shapesOf 6 = .ok (.iastore, 1) := by decide +kernel
theorem dX7_shapesOf_7 : decode cX7_shapesOf 7 = .ok (.aload_n 0, 1) := by decide +kernel
theorem dX7_shapesOf_8 : decode cX7_shapesOf 8 = .ok (.getfield 7, 3) := by decide +kernel
theorem dX7_shapesOf_11 : decode cX7_shapesOf 11 = .ok (.iload_n 1, 1) := by decide +kernel
theorem dX7_shapesOf_12 : decode cX7_shapesOf 12 = .ok (.laload, 1) := by decide +kernel
theorem dX7_shapesOf_13 : decode cX7_shapesOf 13 = .ok (.invokestatic 112, 3) := by decide +kernel
theorem dX7_shapesOf_16 : decode cX7_shapesOf 16 = .ok (.ifCond .ne 4, 3) := by decide +kernel
theorem dX7_shapesOf_19 : decode cX7_shapesOf 19 = .ok (.return_, 1) := by decide +kernel
theorem dX7_shapesOf_20 : decode cX7_shapesOf 20 = .ok (.iconst 0, 1) := by decide +kernel
theorem dX7_shapesOf_21 : decode cX7_shapesOf 21 = .ok (.istore_n 2, 1) := by decide +kernel
theorem dX7_shapesOf_22 : decode cX7_shapesOf 22 = .ok (.iload_n 2, 1) := by decide +kernel
theorem dX7_shapesOf_23 : decode cX7_shapesOf 23 = .ok (.bipush 6, 2) := by decide +kernel
theorem dX7_shapesOf_25 : decode cX7_shapesOf 25 = .ok (.if_icmp .ge 92, 3) := by decide +kernel
theorem dX7_shapesOf_28 : decode cX7_shapesOf 28 = .ok (.iconst 0, 1) := by decide +kernel
theorem dX7_shapesOf_29 : decode cX7_shapesOf 29 = .ok (.istore_n 3, 1) := by decide +kernel
theorem dX7_shapesOf_30 : decode cX7_shapesOf 30 = .ok (.iload_n 3, 1) := by decide +kernel
theorem dX7_shapesOf_31 : decode cX7_shapesOf 31 = .ok (.bipush 8, 2) := by decide +kernel
theorem dX7_shapesOf_33 : decode cX7_shapesOf 33 = .ok (.if_icmp .ge 78, 3) := by decide +kernel
theorem dX7_shapesOf_36 : decode cX7_shapesOf 36 = .ok (.iload_n 2, 1) := by decide +kernel
theorem dX7_shapesOf_37 : decode cX7_shapesOf 37 = .ok (.iconst 2, 1) := by decide +kernel
theorem dX7_shapesOf_38 : decode cX7_shapesOf 38 = .ok (.irem, 1) := by decide +kernel
theorem dX7_shapesOf_39 : decode cX7_shapesOf 39 = .ok (.iload_n 3, 1) := by decide +kernel
theorem dX7_shapesOf_40 : decode cX7_shapesOf 40 = .ok (.iconst 1, 1) := by decide +kernel
theorem dX7_shapesOf_41 : decode cX7_shapesOf 41 = .ok (.iand, 1) := by decide +kernel
theorem dX7_shapesOf_42 : decode cX7_shapesOf 42 = .ok (.iadd, 1) := by decide +kernel
theorem dX7_shapesOf_43 : decode cX7_shapesOf 43 = .ok (.iload_n 3, 1) := by decide +kernel
theorem dX7_shapesOf_44 : decode cX7_shapesOf 44 = .ok (.iconst 1, 1) := by decide +kernel
theorem dX7_shapesOf_45 : decode cX7_shapesOf 45 = .ok (.ishr, 1) := by decide +kernel
theorem dX7_shapesOf_46 : decode cX7_shapesOf 46 = .ok (.iconst 1, 1) := by decide +kernel
theorem dX7_shapesOf_47 : decode cX7_shapesOf 47 = .ok (.iand, 1) := by decide +kernel
theorem dX7_shapesOf_48 : decode cX7_shapesOf 48 = .ok (.iadd, 1) := by decide +kernel
theorem dX7_shapesOf_49 : decode cX7_shapesOf 49 = .ok (.iload_n 3, 1) := by decide +kernel
theorem dX7_shapesOf_50 : decode cX7_shapesOf 50 = .ok (.iconst 2, 1) := by decide +kernel
theorem dX7_shapesOf_51 : decode cX7_shapesOf 51 = .ok (.ishr, 1) := by decide +kernel
theorem dX7_shapesOf_52 : decode cX7_shapesOf 52 = .ok (.iadd, 1) := by decide +kernel
theorem dX7_shapesOf_53 : decode cX7_shapesOf 53 = .ok (.istore 4, 2) := by decide +kernel
theorem dX7_shapesOf_55 : decode cX7_shapesOf 55 = .ok (.iload 4, 2) := by decide +kernel
theorem dX7_shapesOf_57 : decode cX7_shapesOf 57 = .ok (.iconst 2, 1) := by decide +kernel
theorem dX7_shapesOf_58 : decode cX7_shapesOf 58 = .ok (.irem, 1) := by decide +kernel
theorem dX7_shapesOf_59 : decode cX7_shapesOf 59 = .ok (.ifCond .eq 12, 3) := by decide +kernel
theorem dX7_shapesOf_62 : decode cX7_shapesOf 62 = .ok (.aload_n 0, 1) := by decide +kernel
theorem dX7_shapesOf_63 : decode cX7_shapesOf 63 = .ok (.getfield 13, 3) := by decide +kernel
theorem dX7_shapesOf_66 : decode cX7_shapesOf 66 = .ok (.iload_n 1, 1) := by decide +kernel
theorem dX7_shapesOf_67 : decode cX7_shapesOf 67 = .ok (.baload, 1) := by decide +kernel
theorem dX7_shapesOf_68 : decode cX7_shapesOf 68 = .ok (.ifCond .eq 37, 3) := by decide +kernel
theorem dX7_shapesOf_71 : decode cX7_shapesOf 71 = .ok (.aload_n 0, 1) := by decide +kernel
theorem dX7_shapesOf_72 : decode cX7_shapesOf 72 = .ok (.getfield 21, 3) := by decide +kernel
theorem dX7_shapesOf_75 : decode cX7_shapesOf 75 = .ok (.iload_n 1, 1) := by decide +kernel
theorem dX7_shapesOf_76 : decode cX7_shapesOf 76 = .ok (.aload_n 0, 1) := by decide +kernel
theorem dX7_shapesOf_77 : decode cX7_shapesOf 77 = .ok (.getfield 24, 3) := by decide +kernel
theorem dX7_shapesOf_80 : decode cX7_shapesOf 80 = .ok (.iload_n 1, 1) := by decide +kernel
theorem dX7_shapesOf_81 : decode cX7_shapesOf 81 = .ok (.bipush 48, 2) := by decide +kernel
theorem dX7_shapesOf_83 : decode cX7_shapesOf 83 = .ok (.imul, 1) := by decide +kernel
theorem dX7_shapesOf_84 : decode cX7_shapesOf 84 = .ok (.aload_n 0, 1) := by decide +kernel
theorem dX7_shapesOf_85 : decode cX7_shapesOf 85 = .ok (.getfield 21, 3) := by decide +kernel
theorem dX7_shapesOf_88 : decode cX7_shapesOf 88 = .ok (.iload_n 1, 1) := by decide +kernel
theorem dX7_shapesOf_89 : decode cX7_shapesOf 89 = .ok (.iaload, 1) := by decide +kernel
theorem dX7_shapesOf_90 : decode cX7_shapesOf 90 = .ok (.aload_n 0, 1) := by decide +kernel
theorem dX7_shapesOf_91 : decode cX7_shapesOf 91 = .ok (.getfield 7, 3) := by decide +kernel
theorem dX7_shapesOf_94 : decode cX7_shapesOf 94 = .ok (.iload_n 1, 1) := by decide +kernel
theorem dX7_shapesOf_95 : decode cX7_shapesOf 95 = .ok (.laload, 1) := by decide +kernel
theorem dX7_shapesOf_96 : decode cX7_shapesOf 96 = .ok (.iload_n 2, 1) := by decide +kernel
theorem dX7_shapesOf_97 : decode cX7_shapesOf 97 = .ok (.iload_n 3, 1) := by decide +kernel
theorem dX7_shapesOf_98 : decode cX7_shapesOf 98 = .ok (.invokestatic 116, 3) := by decide +kernel
theorem dX7_shapesOf_101 : decode cX7_shapesOf 101 = .ok (.invokestatic 120, 3) := by decide +kernel
theorem dX7_shapesOf_104 : decode cX7_shapesOf 104 = .ok (.iastore, 1) := by decide +kernel
theorem dX7_shapesOf_105 : decode cX7_shapesOf 105 = .ok (.iinc 3 1, 3) := by decide +kernel
theorem dX7_shapesOf_108 : decode cX7_shapesOf 108 = .ok (.goto (-78), 3) := by decide +kernel
theorem dX7_shapesOf_111 : decode cX7_shapesOf 111 = .ok (.iinc 2 1, 3) := by decide +kernel
theorem dX7_shapesOf_114 : decode cX7_shapesOf 114 = .ok (.goto (-92), 3) := by decide +kernel
theorem dX7_shapesOf_117 : decode cX7_shapesOf 117 = .ok (.return_, 1) := by decide +kernel
theorem dX7_shapes_0 : decode cX7_shapes 0 = .ok (.aload_n 0, 1) := by decide +kernel
theorem dX7_shapes_1 : decode cX7_shapes 1 = .ok (.iload_n 1, 1) := by decide +kernel
theorem dX7_shapes_2 : decode cX7_shapes 2 = .ok (.iconst 0, 1) := by decide +kernel
theorem dX7_shapes_3 : decode cX7_shapes 3 = .ok (.iconst 5, 1) := by decide +kernel
theorem dX7_shapes_4 : decode cX7_shapes 4 = .ok (.invokestatic 88, 3) := by decide +kernel
theorem dX7_shapes_7 : decode cX7_shapes 7 = .ok (.invokevirtual 96, 3) := by decide +kernel
theorem dX7_shapes_10 : decode cX7_shapes 10 = .ok (.ifCond .ne 5, 3) := by decide +kernel
theorem dX7_shapes_13 : decode cX7_shapes 13 = .ok (.iconst 0, 1) := by decide +kernel
theorem dX7_shapes_14 : decode cX7_shapes 14 = .ok (.ireturn, 1) := by decide +kernel
theorem dX7_shapes_15 : decode cX7_shapes 15 = .ok (.aload_n 0, 1) := by decide +kernel
theorem dX7_shapes_16 : decode cX7_shapes 16 = .ok (.iload_n 1, 1) := by decide +kernel
theorem dX7_shapes_17 : decode cX7_shapes 17 = .ok (.invokevirtual 124, 3) := by decide +kernel
theorem dX7_shapes_20 : decode cX7_shapes 20 = .ok (.aload_n 0, 1) := by decide +kernel
theorem dX7_shapes_21 : decode cX7_shapes 21 = .ok (.getfield 21, 3) := by decide +kernel
theorem dX7_shapes_24 : decode cX7_shapes 24 = .ok (.iload_n 1, 1) := by decide +kernel
theorem dX7_shapes_25 : decode cX7_shapes 25 = .ok (.iaload, 1) := by decide +kernel
theorem dX7_shapes_26 : decode cX7_shapes 26 = .ok (.ireturn, 1) := by decide +kernel
theorem dX7_shape_0 : decode cX7_shape 0 = .ok (.aload_n 0, 1) := by decide +kernel
theorem dX7_shape_1 : decode cX7_shape 1 = .ok (.iload_n 1, 1) := by decide +kernel
theorem dX7_shape_2 : decode cX7_shape 2 = .ok (.iconst 0, 1) := by decide +kernel
theorem dX7_shape_3 : decode cX7_shape 3 = .ok (.iconst 5, 1) := by decide +kernel
theorem dX7_shape_4 : decode cX7_shape 4 = .ok (.invokestatic 88, 3) := by decide +kernel
theorem dX7_shape_7 : decode cX7_shape 7 = .ok (.invokevirtual 96, 3) := by decide +kernel
theorem dX7_shape_10 : decode cX7_shape 10 = .ok (.ifCond .ne 5, 3) := by decide +kernel
theorem dX7_shape_13 : decode cX7_shape 13 = .ok (.lconst 0, 1) := by decide +kernel
theorem dX7_shape_14 : decode cX7_shape 14 = .ok (.lreturn, 1) := by decide +kernel
theorem dX7_shape_15 : decode cX7_shape 15 = .ok (.aload_n 0, 1) := by decide +kernel
theorem dX7_shape_16 : decode cX7_shape 16 = .ok (.iload_n 1, 1) := by decide +kernel
theorem dX7_shape_17 : decode cX7_shape 17 = .ok (.invokevirtual 124, 3) := by decide +kernel
theorem dX7_shape_20 : decode cX7_shape 20 = .ok (.aload_n 0, 1) := by decide +kernel
theorem dX7_shape_21 : decode cX7_shape 21 = .ok (.iload_n 2, 1) := by decide +kernel
theorem dX7_shape_22 : decode cX7_shape 22 = .ok (.iconst 0, 1) := by decide +kernel
theorem dX7_shape_23 : decode cX7_shape 23 = .ok (.aload_n 0, 1) := by decide +kernel
theorem dX7_shape_24 : decode cX7_shape 24 = .ok (.getfield 21, 3) := by decide +kernel
theorem dX7_shape_27 : decode cX7_shape 27 = .ok (.iload_n 1, 1) := by decide +kernel
theorem dX7_shape_28 : decode cX7_shape 28 = .ok (.iaload, 1) := by decide +kernel
theorem dX7_shape_29 : decode cX7_shape 29 = .ok (.iconst 1, 1) := by decide +kernel
theorem dX7_shape_30 : decode cX7_shape 30 = .ok (.isub, 1) := by decide +kernel
theorem dX7_shape_31 : decode cX7_shape 31 = .ok (.invokestatic 88, 3) := by decide +kernel
theorem dX7_shape_34 : decode cX7_shape 34 = .ok (.ifCond .eq 7, 3) := by decide +kernel
theorem dX7_shape_37 : decode cX7_shape 37 = .ok (.iconst 0, 1) := by decide +kernel
theorem dX7_shape_38 : decode cX7_shape 38 = .ok (.goto 4, 3) := by decide +kernel
theorem dX7_shape_41 : decode cX7_shape 41 = .ok (.iconst 2, 1) := by decide +kernel
theorem dX7_shape_42 : decode cX7_shape 42 = .ok (.putfield 78, 3) := by decide +kernel
theorem dX7_shape_45 : decode cX7_shape 45 = .ok (.aload_n 0, 1) := by decide +kernel
theorem dX7_shape_46 : decode cX7_shape 46 = .ok (.getfield 78, 3) := by decide +kernel
theorem dX7_shape_49 : decode cX7_shape 49 = .ok (.ifCond .le 7, 3) := by decide +kernel
theorem dX7_shape_52 : decode cX7_shape 52 = .ok (.lconst 0, 1) := by decide +kernel
theorem dX7_shape_53 : decode cX7_shape 53 = .ok (.goto 14, 3) := by decide +kernel
theorem dX7_shape_56 : decode cX7_shape 56 = .ok (.aload_n 0, 1) := by decide +kernel
theorem dX7_shape_57 : decode cX7_shape 57 = .ok (.getfield 24, 3) := by decide +kernel
theorem dX7_shape_60 : decode cX7_shape 60 = .ok (.iload_n 1, 1) := by decide +kernel
theorem dX7_shape_61 : decode cX7_shape 61 = .ok (.bipush 48, 2) := by decide +kernel
theorem dX7_shape_63 : decode cX7_shape 63 = .ok (.imul, 1) := by decide +kernel
theorem dX7_shape_64 : decode cX7_shape 64 = .ok (.iload_n 2, 1) := by decide +kernel
theorem dX7_shape_65 : decode cX7_shape 65 = .ok (.iadd, 1) := by decide +kernel
theorem dX7_shape_66 : decode cX7_shape 66 = .ok (.laload, 1) := by decide +kernel
theorem dX7_shape_67 : decode cX7_shape 67 = .ok (.lreturn, 1) := by decide +kernel
theorem dX7_target_0 : decode cX7_target 0 = .ok (.aload_n 0, 1) := by decide +kernel
theorem dX7_target_1 : decode cX7_target 1 = .ok (.iload_n 1, 1) := by decide +kernel
theorem dX7_target_2 : decode cX7_target 2 = .ok (.iconst 0, 1) := by decide +kernel
theorem dX7_target_3 : decode cX7_target 3 = .ok (.bipush 63, 2) := by decide +kernel
theorem dX7_target_5 : decode cX7_target 5 = .ok (.invokestatic 88, 3) := by decide +kernel
theorem dX7_target_8 : decode cX7_target 8 = .ok (.ifCond .eq 16, 3) := by decide +kernel
theorem dX7_target_11 : decode cX7_target 11 = .ok (.iload_n 2, 1) := by decide +kernel
theorem dX7_target_12 : decode cX7_target 12 = .ok (.iconst 0, 1) := by decide +kernel
theorem dX7_target_13 : decode cX7_target 13 = .ok (.iconst 2, 1) := by decide +kernel
theorem dX7_target_14 : decode cX7_target 14 = .ok (.invokestatic 88, 3) := by decide +kernel
theorem dX7_target_17 : decode cX7_target 17 = .ok (.ifCond .eq 7, 3) := by decide +kernel
theorem dX7_target_20 : decode cX7_target 20 = .ok (.iconst 1, 1) := by decide +kernel
theorem dX7_target_21 : decode cX7_target 21 = .ok (.goto 4, 3) := by decide +kernel
theorem dX7_target_24 : decode cX7_target 24 = .ok (.iconst 0, 1) := by decide +kernel
theorem dX7_target_25 : decode cX7_target 25 = .ok (.invokevirtual 96, 3) := by decide +kernel
theorem dX7_target_28 : decode cX7_target 28 = .ok (.ifCond .eq 10, 3) := by decide +kernel
theorem dX7_target_31 : decode cX7_target 31 = .ok (.aload_n 0, 1) := by decide +kernel
theorem dX7_target_32 : decode cX7_target 32 = .ok (.getfield 17, 3) := by decide +kernel
theorem dX7_target_35 : decode cX7_target 35 = .ok (.iload_n 1, 1) := by decide +kernel
theorem dX7_target_36 : decode cX7_target 36 = .ok (.iload_n 2, 1) := by decide +kernel
theorem dX7_target_37 : decode cX7_target 37 = .ok (.iastore, 1) := by decide +kernel
theorem dX7_target_38 : decode cX7_target 38 = .ok (.return_, 1) := by decide +kernel
theorem dX7_moved_0 : decode cX7_moved 0 = .ok (.lconst 0, 1) := by decide +kernel
theorem dX7_moved_1 : decode cX7_moved 1 = .ok (.lstore 5, 2) := by decide +kernel
theorem dX7_moved_3 : decode cX7_moved 3 = .ok (.iconst 0, 1) := by decide +kernel
theorem dX7_moved_4 : decode cX7_moved 4 = .ok (.istore 7, 2) := by decide +kernel
theorem dX7_moved_6 : decode cX7_moved 6 = .ok (.iload 7, 2) := by decide +kernel
theorem dX7_moved_8 : decode cX7_moved 8 = .ok (.bipush 64, 2) := by decide +kernel
theorem dX7_moved_10 : decode cX7_moved 10 = .ok (.if_icmp .ge 89, 3) := by decide +kernel
theorem dX7_moved_13 : decode cX7_moved 13 = .ok (.lload_n 0, 1) := by decide +kernel
theorem dX7_moved_14 : decode cX7_moved 14 = .ok (.iload 7, 2) := by decide +kernel
theorem dX7_moved_16 : decode cX7_moved 16 = .ok (.invokestatic 82, 3) := by decide +kernel
theorem dX7_moved_19 : decode cX7_moved 19 = .ok (.ifCond .ne 6, 3) := by decide +kernel
theorem dX7_moved_22 : decode cX7_moved 22 = .ok (.goto 71, 3) := by decide +kernel
theorem dX7_moved_25 : decode cX7_moved 25 = .ok (.iload 7, 2) := by decide +kernel
theorem dX7_moved_27 : decode cX7_moved 27 = .ok (.iconst 4, 1) := by decide +kernel
theorem dX7_moved_28 : decode cX7_moved 28 = .ok (.irem, 1) := by decide +kernel
theorem dX7_moved_29 : decode cX7_moved 29 = .ok (.iload_n 2, 1) := by decide +kernel
theorem dX7_moved_30 : decode cX7_moved 30 = .ok (.iadd, 1) := by decide +kernel
theorem dX7_moved_31 : decode cX7_moved 31 = .ok (.istore 8, 2) := by decide +kernel
theorem dX7_moved_33 : decode cX7_moved 33 = .ok (.iload 7, 2) := by decide +kernel
theorem dX7_moved_35 : decode cX7_moved 35 = .ok (.iconst 4, 1) := by decide +kernel
theorem dX7_moved_36 : decode cX7_moved 36 = .ok (.idiv, 1) := by decide +kernel
theorem dX7_moved_37 : decode cX7_moved 37 = .ok (.iconst 4, 1) := by decide +kernel
theorem dX7_moved_38 : decode cX7_moved 38 = .ok (.irem, 1) := by decide +kernel
theorem dX7_moved_39 : decode cX7_moved 39 = .ok (.iload_n 3, 1) := by decide +kernel
theorem dX7_moved_40 : decode cX7_moved 40 = .ok (.iadd, 1) := by decide +kernel
theorem dX7_moved_41 : decode cX7_moved 41 = .ok (.istore 9, 2) := by decide +kernel
theorem dX7_moved_43 : decode cX7_moved 43 = .ok (.iload 7, 2) := by decide +kernel
theorem dX7_moved_45 : decode cX7_moved 45 = .ok (.bipush 16, 2) := by decide +kernel
theorem dX7_moved_47 : decode cX7_moved 47 = .ok (.idiv, 1) := by decide +kernel
theorem dX7_moved_48 : decode cX7_moved 48 = .ok (.iload 4, 2) := by decide +kernel
theorem dX7_moved_50 : decode cX7_moved 50 = .ok (.iadd, 1) := by decide +kernel
theorem dX7_moved_51 : decode cX7_moved 51 = .ok (.istore 10, 2) := by decide +kernel
theorem dX7_moved_53 : decode cX7_moved 53 = .ok (.iload 8, 2) := by decide +kernel
theorem dX7_moved_55 : decode cX7_moved 55 = .ok (.iconst 3, 1) := by decide +kernel
theorem dX7_moved_56 : decode cX7_moved 56 = .ok (.if_icmp .gt 15, 3) := by decide +kernel
theorem dX7_moved_59 : decode cX7_moved 59 = .ok (.iload 9, 2) := by decide +kernel
theorem dX7_moved_61 : decode cX7_moved 61 = .ok (.iconst 3, 1) := by decide +kernel
theorem dX7_moved_62 : decode cX7_moved 62 = .ok (.if_icmp .gt 9, 3) := by decide +kernel
theorem dX7_moved_65 : decode cX7_moved 65 = .ok (.iload 10, 2) := by decide +kernel
theorem dX7_moved_67 : decode cX7_moved 67 = .ok (.iconst 3, 1) := by decide +kernel
theorem dX7_moved_68 : decode cX7_moved 68 = .ok (.if_icmp .le 5, 3) := by decide +kernel
theorem dX7_moved_71 : decode cX7_moved 71 = .ok (.lconst 0, 1) := by decide +kernel
theorem dX7_moved_72 : decode cX7_moved 72 = .ok (.lreturn, 1) := by decide +kernel
theorem dX7_moved_73 : decode cX7_moved 73 = .ok (.lload 5, 2) := by decide +kernel
theorem dX7_moved_75 : decode cX7_moved 75 = .ok (.lconst 1, 1) := by decide +kernel
theorem dX7_moved_76 : decode cX7_moved 76 = .ok (.iload 8, 2) := by decide +kernel
theorem dX7_moved_78 : decode cX7_moved 78 = .ok (.iconst 4, 1) := by decide +kernel
theorem dX7_moved_79 : decode cX7_moved 79 = .ok (.iload 9, 2) := by decide +kernel
theorem dX7_moved_81 : decode cX7_moved 81 = .ok (.imul, 1) := by decide +kernel
theorem dX7_moved_82 : decode cX7_moved 82 = .ok (.iadd, 1) := by decide +kernel
theorem dX7_moved_83 : decode cX7_moved 83 = .ok (.bipush 16, 2) := by decide +kernel
theorem dX7_moved_85 : decode cX7_moved 85 = .ok (.iload 10, 2) := by decide +kernel
theorem dX7_moved_87 : decode cX7_moved 87 = .ok (.imul, 1) := by decide +kernel
theorem dX7_moved_88 : decode cX7_moved 88 = .ok (.iadd, 1) := by decide +kernel
theorem dX7_moved_89 : decode cX7_moved 89 = .ok (.lshl, 1) := by decide +kernel
theorem dX7_moved_90 : decode cX7_moved 90 = .ok (.lor, 1) := by decide +kernel
theorem dX7_moved_91 : decode cX7_moved 91 = .ok (.lstore 5, 2) := by decide +kernel
theorem dX7_moved_93 : decode cX7_moved 93 = .ok (.iinc 7 1, 3) := by decide +kernel
theorem dX7_moved_96 : decode cX7_moved 96 = .ok (.goto (-90), 3) := by decide +kernel
theorem dX7_moved_99 : decode cX7_moved 99 = .ok (.lload 5, 2) := by decide +kernel
theorem dX7_moved_101 : decode cX7_moved 101 = .ok (.lreturn, 1) := by decide +kernel
theorem dX7_placesOf_0 : decode cX7_placesOf 0 = .ok (.aload_n 0, 1) := by decide +kernel
theorem dX7_placesOf_1 : decode cX7_placesOf 1 = .ok (.iload_n 1, 1) := by decide +kernel
theorem dX7_placesOf_2 : decode cX7_placesOf 2 = .ok (.invokevirtual 124, 3) := by decide +kernel
theorem dX7_placesOf_5 : decode cX7_placesOf 5 = .ok (.aload_n 0, 1) := by decide +kernel
theorem dX7_placesOf_6 : decode cX7_placesOf 6 = .ok (.getfield 27, 3) := by decide +kernel
theorem dX7_placesOf_9 : decode cX7_placesOf 9 = .ok (.iload_n 1, 1) := by decide +kernel
theorem dX7_placesOf_10 : decode cX7_placesOf 10 = .ok (.iconst 0, 1) := by decide +kernel
theorem dX7_placesOf_11 : decode cX7_placesOf 11 = .ok (.iastore, 1) := by decide +kernel
theorem dX7_placesOf_12 : decode cX7_placesOf 12 = .ok (.iconst 0, 1) := by decide +kernel
theorem dX7_placesOf_13 : decode cX7_placesOf 13 = .ok (.istore_n 2, 1) := by decide +kernel
theorem dX7_placesOf_14 : decode cX7_placesOf 14 = .ok (.iload_n 2, 1) := by decide +kernel
theorem dX7_placesOf_15 : decode cX7_placesOf 15 = .ok (.aload_n 0, 1) := by decide +kernel
theorem dX7_placesOf_16 : decode cX7_placesOf 16 = .ok (.getfield 21, 3) := by decide +kernel
theorem dX7_placesOf_19 : decode cX7_placesOf 19 = .ok (.iload_n 1, 1) := by decide +kernel
theorem dX7_placesOf_20 : decode cX7_placesOf 20 = .ok (.iaload, 1) := by decide +kernel
theorem dX7_placesOf_21 : decode cX7_placesOf 21 = .ok (.if_icmp .ge 144, 3) := by decide +kernel
theorem dX7_placesOf_24 : decode cX7_placesOf 24 = .ok (.iconst 0, 1) := by decide +kernel
theorem dX7_placesOf_25 : decode cX7_placesOf 25 = .ok (.istore_n 3, 1) := by decide +kernel
theorem dX7_placesOf_26 : decode cX7_placesOf 26 = .ok (.iload_n 3, 1) := by decide +kernel
theorem dX7_placesOf_27 : decode cX7_placesOf 27 = .ok (.bipush 64, 2) := by decide +kernel
theorem dX7_placesOf_29 : decode cX7_placesOf 29 = .ok (.if_icmp .ge 130, 3) := by decide +kernel
theorem dX7_placesOf_32 : decode cX7_placesOf 32 = .ok (.aload_n 0, 1) := by decide +kernel
theorem dX7_placesOf_33 : decode cX7_placesOf 33 = .ok (.getfield 24, 3) := by decide +kernel
theorem dX7_placesOf_36 : decode cX7_placesOf 36 = .ok (.iload_n 1, 1) := by decide +kernel
theorem dX7_placesOf_37 : decode cX7_placesOf 37 = .ok (.bipush 48, 2) := by decide +kernel
theorem dX7_placesOf_39 : decode cX7_placesOf 39 = .ok (.imul, 1) := by decide +kernel
theorem dX7_placesOf_40 : decode cX7_placesOf 40 = .ok (.iload_n 2, 1) := by decide +kernel
theorem dX7_placesOf_41 : decode cX7_placesOf 41 = .ok (.iadd, 1) := by decide +kernel
theorem dX7_placesOf_42 : decode cX7_placesOf 42 = .ok (.laload, 1) := by decide +kernel
theorem dX7_placesOf_43 : decode cX7_placesOf 43 = .ok (.iload_n 3, 1) := by decide +kernel
theorem dX7_placesOf_44 : decode cX7_placesOf 44 = .ok (.iconst 4, 1) := by decide +kernel
theorem dX7_placesOf_45 : decode cX7_placesOf 45 = .ok (.irem, 1) := by decide +kernel
theorem dX7_placesOf_46 : decode cX7_placesOf 46 = .ok (.iload_n 3, 1) := by decide +kernel
theorem dX7_placesOf_47 : decode cX7_placesOf 47 = .ok (.iconst 4, 1) := by decide +kernel
theorem dX7_placesOf_48 : decode cX7_placesOf 48 = .ok (.idiv, 1) := by decide +kernel
theorem dX7_placesOf_49 : decode cX7_placesOf 49 = .ok (.iconst 4, 1) := by decide +kernel
theorem dX7_placesOf_50 : decode cX7_placesOf 50 = .ok (.irem, 1) := by decide +kernel
theorem dX7_placesOf_51 : decode cX7_placesOf 51 = .ok (.iload_n 3, 1) := by decide +kernel
theorem dX7_placesOf_52 : decode cX7_placesOf 52 = .ok (.bipush 16, 2) := by decide +kernel
theorem dX7_placesOf_54 : decode cX7_placesOf 54 = .ok (.idiv, 1) := by decide +kernel
theorem dX7_placesOf_55 : decode cX7_placesOf 55 = .ok (.invokestatic 128, 3) := by decide +kernel
theorem dX7_placesOf_58 : decode cX7_placesOf 58 = .ok (.lstore 4, 2) := by decide +kernel
theorem dX7_placesOf_60 : decode cX7_placesOf 60 = .ok (.lload 4, 2) := by decide +kernel
theorem dX7_placesOf_62 : decode cX7_placesOf 62 = .ok (.lconst 0, 1) := by decide +kernel
theorem dX7_placesOf_63 : decode cX7_placesOf 63 = .ok (.lcmp, 1) := by decide +kernel
theorem dX7_placesOf_64 : decode cX7_placesOf 64 = .ok (.ifCond .eq 7, 3) := by decide +kernel
theorem dX7_placesOf_67 : decode cX7_placesOf 67 = .ok (.iconst 1, 1) := by decide +kernel
theorem dX7_placesOf_68 : decode cX7_placesOf 68 = .ok (.goto 4, 3) := by decide +kernel
theorem dX7_placesOf_71 : decode cX7_placesOf 71 = .ok (.iconst 0, 1) := by decide +kernel
theorem dX7_placesOf_72 : decode cX7_placesOf 72 = .ok (.istore 6, 2) := by decide +kernel
theorem dX7_placesOf_74 : decode cX7_placesOf 74 = .ok (.iconst 0, 1) := by decide +kernel
theorem dX7_placesOf_75 : decode cX7_placesOf 75 = .ok (.istore 7, 2) := by decide +kernel
theorem dX7_placesOf_77 : decode cX7_placesOf 77 = .ok (.iload 7, 2) := by decide +kernel
theorem dX7_placesOf_79 : decode cX7_placesOf 79 = .ok (.bipush 64, 2) := by decide +kernel
theorem dX7_placesOf_81 : decode cX7_placesOf 81 = .ok (.if_icmp .ge 41, 3) := by decide +kernel
theorem dX7_placesOf_84 : decode cX7_placesOf 84 = .ok (.iload 6, 2) := by decide +kernel
theorem dX7_placesOf_86 : decode cX7_placesOf 86 = .ok (.ifCond .eq 36, 3) := by decide +kernel
theorem dX7_placesOf_89 : decode cX7_placesOf 89 = .ok (.lload 4, 2) := by decide +kernel
theorem dX7_placesOf_91 : decode cX7_placesOf 91 = .ok (.iload 7, 2) := by decide +kernel
theorem dX7_placesOf_93 : decode cX7_placesOf 93 = .ok (.invokestatic 82, 3) := by decide +kernel
theorem dX7_placesOf_96 : decode cX7_placesOf 96 = .ok (.ifCond .eq 13, 3) := by decide +kernel
theorem dX7_placesOf_99 : decode cX7_placesOf 99 = .ok (.aload_n 0, 1) := by decide +kernel
theorem dX7_placesOf_100 : decode cX7_placesOf 100 = .ok (.getfield 17, 3) := by decide +kernel
theorem dX7_placesOf_103 : decode cX7_placesOf 103 = .ok (.iload 7, 2) := by decide +kernel
theorem dX7_placesOf_105 : decode cX7_placesOf 105 = .ok (.iaload, 1) := by decide +kernel
theorem dX7_placesOf_106 : decode cX7_placesOf 106 = .ok (.ifCond .le 7, 3) := by decide +kernel
theorem dX7_placesOf_109 : decode cX7_placesOf 109 = .ok (.iconst 1, 1) := by decide +kernel
theorem dX7_placesOf_110 : decode cX7_placesOf 110 = .ok (.goto 4, 3) := by decide +kernel
theorem dX7_placesOf_113 : decode cX7_placesOf 113 = .ok (.iconst 0, 1) := by decide +kernel
theorem dX7_placesOf_114 : decode cX7_placesOf 114 = .ok (.istore 6, 2) := by decide +kernel
theorem dX7_placesOf_116 : decode cX7_placesOf 116 = .ok (.iinc 7 1, 3) := by decide +kernel
theorem dX7_placesOf_119 : decode cX7_placesOf 119 = .ok (.goto (-42), 3) := by decide +kernel
theorem dX7_placesOf_122 : decode cX7_placesOf 122 = .ok (.iload 6, 2) := by decide +kernel
theorem dX7_placesOf_124 : decode cX7_placesOf 124 = .ok (.ifCond .eq 29, 3) := by decide +kernel
theorem dX7_placesOf_127 : decode cX7_placesOf 127 = .ok (.aload_n 0, 1) := by decide +kernel
theorem dX7_placesOf_128 : decode cX7_placesOf 128 = .ok (.getfield 27, 3) := by decide +kernel
theorem dX7_placesOf_131 : decode cX7_placesOf 131 = .ok (.iload_n 1, 1) := by decide +kernel
theorem dX7_placesOf_132 : decode cX7_placesOf 132 = .ok (.aload_n 0, 1) := by decide +kernel
theorem dX7_placesOf_133 : decode cX7_placesOf 133 = .ok (.getfield 30, 3) := by decide +kernel
theorem dX7_placesOf_136 : decode cX7_placesOf 136 = .ok (.iload_n 1, 1) := by decide +kernel
theorem dX7_placesOf_137 : decode cX7_placesOf 137 = .ok (.sipush 1400, 3) := by decide +kernel
theorem dX7_placesOf_140 : decode cX7_placesOf 140 = .ok (.imul, 1) := by decide +kernel
theorem dX7_placesOf_141 : decode cX7_placesOf 141 = .ok (.aload_n 0, 1) := by decide +kernel
theorem dX7_placesOf_142 : decode cX7_placesOf 142 = .ok (.getfield 27, 3) := by decide +kernel
theorem dX7_placesOf_145 : decode cX7_placesOf 145 = .ok (.iload_n 1, 1) := by decide +kernel
theorem dX7_placesOf_146 : decode cX7_placesOf 146 = .ok (.iaload, 1) := by decide +kernel
theorem dX7_placesOf_147 : decode cX7_placesOf 147 = .ok (.lload 4, 2) := by decide +kernel
theorem dX7_placesOf_149 : decode cX7_placesOf 149 = .ok (.invokestatic 120, 3) := by decide +kernel
theorem dX7_placesOf_152 : decode cX7_placesOf 152 = .ok (.iastore, 1) := by decide +kernel
theorem dX7_placesOf_153 : decode cX7_placesOf 153 = .ok (.iinc 3 1, 3) := by decide +kernel
theorem dX7_placesOf_156 : decode cX7_placesOf 156 = .ok (.goto (-130), 3) := by decide +kernel
theorem dX7_placesOf_159 : decode cX7_placesOf 159 = .ok (.iinc 2 1, 3) := by decide +kernel
theorem dX7_placesOf_162 : decode cX7_placesOf 162 = .ok (.goto (-148), 3) := by decide +kernel
theorem dX7_placesOf_165 : decode cX7_placesOf 165 = .ok (.return_, 1) := by decide +kernel
theorem dX7_places_0 : decode cX7_places 0 = .ok (.aload_n 0, 1) := by decide +kernel
theorem dX7_places_1 : decode cX7_places 1 = .ok (.iload_n 1, 1) := by decide +kernel
theorem dX7_places_2 : decode cX7_places 2 = .ok (.iconst 0, 1) := by decide +kernel
theorem dX7_places_3 : decode cX7_places 3 = .ok (.iconst 5, 1) := by decide +kernel
theorem dX7_places_4 : decode cX7_places 4 = .ok (.invokestatic 88, 3) := by decide +kernel
theorem dX7_places_7 : decode cX7_places 7 = .ok (.invokevirtual 96, 3) := by decide +kernel
theorem dX7_places_10 : decode cX7_places 10 = .ok (.ifCond .ne 5, 3) := by decide +kernel
theorem dX7_places_13 : decode cX7_places 13 = .ok (.iconst 0, 1) := by decide +kernel
theorem dX7_places_14 : decode cX7_places 14 = .ok (.ireturn, 1) := by decide +kernel
theorem dX7_places_15 : decode cX7_places 15 = .ok (.aload_n 0, 1) := by decide +kernel
theorem dX7_places_16 : decode cX7_places 16 = .ok (.iload_n 1, 1) := by decide +kernel
theorem dX7_places_17 : decode cX7_places 17 = .ok (.invokevirtual 132, 3) := by decide +kernel
theorem dX7_places_20 : decode cX7_places 20 = .ok (.aload_n 0, 1) := by decide +kernel
theorem dX7_places_21 : decode cX7_places 21 = .ok (.getfield 27, 3) := by decide +kernel
theorem dX7_places_24 : decode cX7_places 24 = .ok (.iload_n 1, 1) := by decide +kernel
theorem dX7_places_25 : decode cX7_places 25 = .ok (.iaload, 1) := by decide +kernel
theorem dX7_places_26 : decode cX7_places 26 = .ok (.ireturn, 1) := by decide +kernel
theorem dX7_begins_0 : decode cX7_begins 0 = .ok (.aload_n 0, 1) := by decide +kernel
theorem dX7_begins_1 : decode cX7_begins 1 = .ok (.getfield 42, 3) := by decide +kernel
theorem dX7_begins_4 : decode cX7_begins 4 = .ok (.iload_n 1, 1) := by decide +kernel
theorem dX7_begins_5 : decode cX7_begins 5 = .ok (.iconst (-1), 1) := by decide +kernel
theorem dX7_begins_6 : decode cX7_begins 6 = .ok (.iastore, 1) := by decide +kernel
theorem dX7_begins_7 : decode cX7_begins 7 = .ok (.bipush 63, 2) := by decide +kernel
theorem dX7_begins_9 : decode cX7_begins 9 = .ok (.istore_n 3, 1) := by decide +kernel
theorem dX7_begins_10 : decode cX7_begins 10 = .ok (.iload_n 3, 1) := by decide +kernel
theorem dX7_begins_11 : decode cX7_begins 11 = .ok (.ifCond .lt 39, 3) := by decide +kernel
theorem dX7_begins_14 : decode cX7_begins 14 = .ok (.aload_n 0, 1) := by decide +kernel
theorem dX7_begins_15 : decode cX7_begins 15 = .ok (.getfield 17, 3) := by decide +kernel
theorem dX7_begins_18 : decode cX7_begins 18 = .ok (.iload_n 3, 1) := by decide +kernel
theorem dX7_begins_19 : decode cX7_begins 19 = .ok (.iaload, 1) := by decide +kernel
theorem dX7_begins_20 : decode cX7_begins 20 = .ok (.iconst 1, 1) := by decide +kernel
theorem dX7_begins_21 : decode cX7_begins 21 = .ok (.if_icmp .ne 23, 3) := by decide +kernel
theorem dX7_begins_24 : decode cX7_begins 24 = .ok (.aload_n 0, 1) := by decide +kernel
theorem dX7_begins_25 : decode cX7_begins 25 = .ok (.getfield 36, 3) := by decide +kernel
theorem dX7_begins_28 : decode cX7_begins 28 = .ok (.iload_n 1, 1) := by decide +kernel
theorem dX7_begins_29 : decode cX7_begins 29 = .ok (.laload, 1) := by decide +kernel
theorem dX7_begins_30 : decode cX7_begins 30 = .ok (.iload_n 3, 1) := by decide +kernel
theorem dX7_begins_31 : decode cX7_begins 31 = .ok (.invokestatic 82, 3) := by decide +kernel
theorem dX7_begins_34 : decode cX7_begins 34 = .ok (.ifCond .ne 10, 3) := by decide +kernel
theorem dX7_begins_37 : decode cX7_begins 37 = .ok (.aload_n 0, 1) := by decide +kernel
theorem dX7_begins_38 : decode cX7_begins 38 = .ok (.getfield 42, 3) := by decide +kernel
theorem dX7_begins_41 : decode cX7_begins 41 = .ok (.iload_n 1, 1) := by decide +kernel
theorem dX7_begins_42 : decode cX7_begins 42 = .ok (.iload_n 3, 1) := by decide +kernel
theorem dX7_begins_43 : decode cX7_begins 43 = .ok (.iastore, 1) := by decide +kernel
theorem dX7_begins_44 : decode cX7_begins 44 = .ok (.iinc 3 (-1), 3) := by decide +kernel
theorem dX7_begins_47 : decode cX7_begins 47 = .ok (.goto (-37), 3) := by decide +kernel
theorem dX7_begins_50 : decode cX7_begins 50 = .ok (.iconst 0, 1) := by decide +kernel
theorem dX7_begins_51 : decode cX7_begins 51 = .ok (.istore_n 3, 1) := by decide +kernel
theorem dX7_begins_52 : decode cX7_begins 52 = .ok (.iload_n 3, 1) := by decide +kernel
theorem dX7_begins_53 : decode cX7_begins 53 = .ok (.bipush 6, 2) := by decide +kernel
theorem dX7_begins_55 : decode cX7_begins 55 = .ok (.if_icmp .ge 28, 3) := by decide +kernel
theorem dX7_begins_58 : decode cX7_begins 58 = .ok (.iload_n 2, 1) := by decide +kernel
theorem dX7_begins_59 : decode cX7_begins 59 = .ok (.iload_n 3, 1) := by decide +kernel
theorem dX7_begins_60 : decode cX7_begins 60 = .ok (.ishr, 1) := by decide +kernel
theorem dX7_begins_61 : decode cX7_begins 61 = .ok (.iconst 1, 1) := by decide +kernel
theorem dX7_begins_62 : decode cX7_begins 62 = .ok (.iand, 1) := by decide +kernel
theorem dX7_begins_63 : decode cX7_begins 63 = .ok (.aload_n 0, 1) := by decide +kernel
theorem dX7_begins_64 : decode cX7_begins 64 = .ok (.getfield 39, 3) := by decide +kernel
theorem dX7_begins_67 : decode cX7_begins 67 = .ok (.iload_n 1, 1) := by decide +kernel
theorem dX7_begins_68 : decode cX7_begins 68 = .ok (.iaload, 1) := by decide +kernel
theorem dX7_begins_69 : decode cX7_begins 69 = .ok (.iload_n 3, 1) := by decide +kernel
theorem dX7_begins_70 : decode cX7_begins 70 = .ok (.ishr, 1) := by decide +kernel
theorem dX7_begins_71 : decode cX7_begins 71 = .ok (.iconst (-1), 1) := by decide +kernel
theorem dX7_begins_72 : decode cX7_begins 72 = .ok (.ixor, 1) := by decide +kernel
theorem dX7_begins_73 : decode cX7_begins 73 = .ok (.iand, 1) := by decide +kernel
theorem dX7_begins_74 : decode cX7_begins 74 = .ok (.ifCond .ne 9, 3) := by decide +kernel
theorem dX7_begins_77 : decode cX7_begins 77 = .ok (.iinc 3 1, 3) := by decide +kernel
theorem dX7_begins_80 : decode cX7_begins 80 = .ok (.goto (-28), 3) := by decide +kernel
theorem dX7_begins_83 : decode cX7_begins 83 = .ok (.aload_n 0, 1) := by decide +kernel
theorem dX7_begins_84 : decode cX7_begins 84 = .ok (.getfield 45, 3) := by decide +kernel
theorem dX7_begins_87 : decode cX7_begins 87 = .ok (.iload_n 1, 1) := by decide +kernel
theorem dX7_begins_88 : decode cX7_begins 88 = .ok (.iload_n 3, 1) := by decide +kernel
theorem dX7_begins_89 : decode cX7_begins 89 = .ok (.iastore, 1) := by decide +kernel
theorem dX7_begins_90 : decode cX7_begins 90 = .ok (.aload_n 0, 1) := by decide +kernel
theorem dX7_begins_91 : decode cX7_begins 91 = .ok (.getfield 48, 3) := by decide +kernel
theorem dX7_begins_94 : decode cX7_begins 94 = .ok (.iload_n 1, 1) := by decide +kernel
theorem dX7_begins_95 : decode cX7_begins 95 = .ok (.iconst 0, 1) := by decide +kernel
theorem dX7_begins_96 : decode cX7_begins 96 = .ok (.iastore, 1) := by decide +kernel
theorem dX7_begins_97 : decode cX7_begins 97 = .ok (.return_, 1) := by decide +kernel
theorem dX7_search_0 : decode cX7_search 0 = .ok (.iconst 0, 1) := by decide +kernel
theorem dX7_search_1 : decode cX7_search 1 = .ok (.istore_n 3, 1) := by decide +kernel
theorem dX7_search_2 : decode cX7_search 2 = .ok (.iconst 0, 1) := by decide +kernel
theorem dX7_search_3 : decode cX7_search 3 = .ok (.istore 4, 2) := by decide +kernel
theorem dX7_search_5 : decode cX7_search 5 = .ok (.iload 4, 2) := by decide +kernel
theorem dX7_search_7 : decode cX7_search 7 = .ok (.bipush 6, 2) := by decide +kernel
theorem dX7_search_9 : decode cX7_search 9 = .ok (.if_icmp .ge 32, 3) := by decide +kernel
theorem dX7_search_12 : decode cX7_search 12 = .ok (.aload_n 0, 1) := by decide +kernel
theorem dX7_search_13 : decode cX7_search 13 = .ok (.iload 4, 2) := by decide +kernel
theorem dX7_search_15 : decode cX7_search 15 = .ok (.invokevirtual 132, 3) := by decide +kernel
theorem dX7_search_18 : decode cX7_search 18 = .ok (.aload_n 0, 1) := by decide +kernel
theorem dX7_search_19 : decode cX7_search 19 = .ok (.getfield 21, 3) := by decide +kernel
theorem dX7_search_22 : decode cX7_search 22 = .ok (.iload 4, 2) := by decide +kernel
theorem dX7_search_24 : decode cX7_search 24 = .ok (.iaload, 1) := by decide +kernel
theorem dX7_search_25 : decode cX7_search 25 = .ok (.ifCond .le 10, 3) := by decide +kernel
theorem dX7_search_28 : decode cX7_search 28 = .ok (.iload_n 3, 1) := by decide +kernel
theorem dX7_search_29 : decode cX7_search 29 = .ok (.iconst 1, 1) := by decide +kernel
theorem dX7_search_30 : decode cX7_search 30 = .ok (.iload 4, 2) := by decide +kernel
theorem dX7_search_32 : decode cX7_search 32 = .ok (.ishl, 1) := by decide +kernel
theorem dX7_search_33 : decode cX7_search 33 = .ok (.ior, 1) := by decide +kernel
theorem dX7_search_34 : decode cX7_search 34 = .ok (.istore_n 3, 1) := by decide +kernel
theorem dX7_search_35 : decode cX7_search 35 = .ok (.iinc 4 1, 3) := by decide +kernel
theorem dX7_search_38 : decode cX7_search 38 = .ok (.goto (-33), 3) := by decide +kernel
theorem dX7_search_41 : decode cX7_search 41 = .ok (.aload_n 0, 1) := by decide +kernel
theorem dX7_search_42 : decode cX7_search 42 = .ok (.iconst 0, 1) := by decide +kernel
theorem dX7_search_43 : decode cX7_search 43 = .ok (.putfield 135, 3) := by decide +kernel
theorem dX7_search_46 : decode cX7_search 46 = .ok (.iconst 0, 1) := by decide +kernel
theorem dX7_search_47 : decode cX7_search 47 = .ok (.istore 4, 2) := by decide +kernel
theorem dX7_search_49 : decode cX7_search 49 = .ok (.iconst 0, 1) := by decide +kernel
theorem dX7_search_50 : decode cX7_search 50 = .ok (.istore 5, 2) := by decide +kernel
theorem dX7_search_52 : decode cX7_search 52 = .ok (.aload_n 0, 1) := by decide +kernel
theorem dX7_search_53 : decode cX7_search 53 = .ok (.getfield 36, 3) := by decide +kernel
theorem dX7_search_56 : decode cX7_search 56 = .ok (.iconst 0, 1) := by decide +kernel
theorem dX7_search_57 : decode cX7_search 57 = .ok (.lconst 0, 1) := by decide +kernel
theorem dX7_search_58 : decode cX7_search 58 = .ok (.lastore, 1) := by decide +kernel
theorem dX7_search_59 : decode cX7_search 59 = .ok (.aload_n 0, 1) := by decide +kernel
theorem dX7_search_60 : decode cX7_search 60 = .ok (.getfield 39, 3) := by decide +kernel
theorem dX7_search_63 : decode cX7_search 63 = .ok (.iconst 0, 1) := by decide +kernel
theorem dX7_search_64 : decode cX7_search 64 = .ok (.iconst 0, 1) := by decide +kernel
theorem dX7_search_65 : decode cX7_search 65 = .ok (.iastore, 1) := by decide +kernel
theorem dX7_search_66 : decode cX7_search 66 = .ok (.aload_n 0, 1) := by decide +kernel
theorem dX7_search_67 : decode cX7_search 67 = .ok (.iconst 0, 1) := by decide +kernel
theorem dX7_search_68 : decode cX7_search 68 = .ok (.iload_n 3, 1) := by decide +kernel
theorem dX7_search_69 : decode cX7_search 69 = .ok (.invokevirtual 138, 3) := by decide +kernel
theorem dX7_search_72 : decode cX7_search 72 = .ok (.iload 5, 2) := by decide +kernel
theorem dX7_search_74 : decode cX7_search 74 = .ok (.ifCond .lt 385, 3) := by decide +kernel
theorem dX7_search_77 : decode cX7_search 77 = .ok (.aload_n 0, 1) := by decide +kernel
theorem dX7_search_78 : decode cX7_search 78 = .ok (.getfield 39, 3) := by decide +kernel
theorem dX7_search_81 : decode cX7_search 81 = .ok (.iload 5, 2) := by decide +kernel
theorem dX7_search_83 : decode cX7_search 83 = .ok (.iaload, 1) := by decide +kernel
theorem dX7_search_84 : decode cX7_search 84 = .ok (.iload_n 3, 1) := by decide +kernel
theorem dX7_search_85 : decode cX7_search 85 = .ok (.if_icmp .ne 7, 3) := by decide +kernel
theorem dX7_search_88 : decode cX7_search 88 = .ok (.iconst 1, 1) := by decide +kernel
theorem dX7_search_89 : decode cX7_search 89 = .ok (.goto 4, 3) := by decide +kernel
theorem dX7_search_92 : decode cX7_search 92 = .ok (.iconst 0, 1) := by decide +kernel
theorem dX7_search_93 : decode cX7_search 93 = .ok (.istore 6, 2) := by decide +kernel
theorem dX7_search_95 : decode cX7_search 95 = .ok (.iload 6, 2) := by decide +kernel
theorem dX7_search_97 : decode cX7_search 97 = .ok (.ifCond .eq 30, 3) := by decide +kernel
theorem dX7_search_100 : decode cX7_search 100 = .ok (.aload_n 0, 1) := by decide +kernel
theorem dX7_search_101 : decode cX7_search 101 = .ok (.getfield 42, 3) := by decide +kernel
theorem dX7_search_104 : decode cX7_search 104 = .ok (.iload 5, 2) := by decide +kernel
theorem dX7_search_106 : decode cX7_search 106 = .ok (.iaload, 1) := by decide +kernel
theorem dX7_search_107 : decode cX7_search 107 = .ok (.ifCond .ge 20, 3) := by decide +kernel
theorem dX7_search_110 : decode cX7_search 110 = .ok (.iinc 4 1, 3) := by decide +kernel
theorem dX7_search_113 : decode cX7_search 113 = .ok (.iload 4, 2) := by decide +kernel
theorem dX7_search_115 : decode cX7_search 115 = .ok (.iconst 1, 1) := by decide +kernel
theorem dX7_search_116 : decode cX7_search 116 = .ok (.isub, 1) := by decide +kernel
theorem dX7_search_117 : decode cX7_search 117 = .ok (.iload_n 2, 1) := by decide +kernel
theorem dX7_search_118 : decode cX7_search 118 = .ok (.if_icmp .ne 9, 3) := by decide +kernel
theorem dX7_search_121 : decode cX7_search 121 = .ok (.iload 5, 2) := by decide +kernel
theorem dX7_search_123 : decode cX7_search 123 = .ok (.ldc 142, 2) := by decide +kernel
theorem dX7_search_125 : decode cX7_search 125 = .ok (.iadd, 1) := by decide +kernel
theorem dX7_search_126 : decode cX7_search 126 = .ok (.ireturn, 1) := by decide +kernel
theorem dX7_search_127 : decode cX7_search 127 = .ok (.iconst 0, 1) := by decide +kernel
theorem dX7_search_128 : decode cX7_search 128 = .ok (.istore 7, 2) := by decide +kernel
theorem dX7_search_130 : decode cX7_search 130 = .ok (.iload 6, 2) := by decide +kernel
theorem dX7_search_132 : decode cX7_search 132 = .ok (.ifCond .ne 199, 3) := by decide +kernel
theorem dX7_search_135 : decode cX7_search 135 = .ok (.aload_n 0, 1) := by decide +kernel
theorem dX7_search_136 : decode cX7_search 136 = .ok (.getfield 45, 3) := by decide +kernel
theorem dX7_search_139 : decode cX7_search 139 = .ok (.iload 5, 2) := by decide +kernel
theorem dX7_search_141 : decode cX7_search 141 = .ok (.iaload, 1) := by decide +kernel
theorem dX7_search_142 : decode cX7_search 142 = .ok (.bipush 6, 2) := by decide +kernel
theorem dX7_search_144 : decode cX7_search 144 = .ok (.if_icmp .ge 187, 3) := by decide +kernel
theorem dX7_search_147 : decode cX7_search 147 = .ok (.iload 7, 2) := by decide +kernel
theorem dX7_search_149 : decode cX7_search 149 = .ok (.ifCond .ne 182, 3) := by decide +kernel
theorem dX7_search_152 : decode cX7_search 152 = .ok (.aload_n 0, 1) := by decide +kernel
theorem dX7_search_153 : decode cX7_search 153 = .ok (.getfield 45, 3) := by decide +kernel
theorem dX7_search_156 : decode cX7_search 156 = .ok (.iload 5, 2) := by decide +kernel
theorem dX7_search_158 : decode cX7_search 158 = .ok (.iaload, 1) := by decide +kernel
theorem dX7_search_159 : decode cX7_search 159 = .ok (.istore 8, 2) := by decide +kernel
theorem dX7_search_161 : decode cX7_search 161 = .ok (.aload_n 0, 1) := by decide +kernel
theorem dX7_search_162 : decode cX7_search 162 = .ok (.getfield 48, 3) := by decide +kernel
theorem dX7_search_165 : decode cX7_search 165 = .ok (.iload 5, 2) := by decide +kernel
theorem dX7_search_167 : decode cX7_search 167 = .ok (.iaload, 1) := by decide +kernel
theorem dX7_search_168 : decode cX7_search 168 = .ok (.aload_n 0, 1) := by decide +kernel
theorem dX7_search_169 : decode cX7_search 169 = .ok (.getfield 27, 3) := by decide +kernel
theorem dX7_search_172 : decode cX7_search 172 = .ok (.iload 8, 2) := by decide +kernel
theorem dX7_search_174 : decode cX7_search 174 = .ok (.iaload, 1) := by decide +kernel
theorem dX7_search_175 : decode cX7_search 175 = .ok (.if_icmp .ne 79, 3) := by decide +kernel
theorem dX7_search_178 : decode cX7_search 178 = .ok (.iload 8, 2) := by decide +kernel
theorem dX7_search_180 : decode cX7_search 180 = .ok (.iconst 1, 1) := by decide +kernel
theorem dX7_search_181 : decode cX7_search 181 = .ok (.iadd, 1) := by decide +kernel
theorem dX7_search_182 : decode cX7_search 182 = .ok (.istore 9, 2) := by decide +kernel
theorem dX7_search_184 : decode cX7_search 184 = .ok (.iload 9, 2) := by decide +kernel
theorem dX7_search_186 : decode cX7_search 186 = .ok (.bipush 6, 2) := by decide +kernel
theorem dX7_search_188 : decode cX7_search 188 = .ok (.if_icmp .ge 31, 3) := by decide +kernel
theorem dX7_search_191 : decode cX7_search 191 = .ok (.iload_n 3, 1) := by decide +kernel
theorem dX7_search_192 : decode cX7_search 192 = .ok (.iload 9, 2) := by decide +kernel
theorem dX7_search_194 : decode cX7_search 194 = .ok (.ishr, 1) := by decide +kernel
theorem dX7_search_195 : decode cX7_search 195 = .ok (.iconst 1, 1) := by decide +kernel
theorem dX7_search_196 : decode cX7_search 196 = .ok (.iand, 1) := by decide +kernel
theorem dX7_search_197 : decode cX7_search 197 = .ok (.aload_n 0, 1) := by decide +kernel
theorem dX7_search_198 : decode cX7_search 198 = .ok (.getfield 39, 3) := by decide +kernel
theorem dX7_search_201 : decode cX7_search 201 = .ok (.iload 5, 2) := by decide +kernel
theorem dX7_search_203 : decode cX7_search 203 = .ok (.iaload, 1) := by decide +kernel
theorem dX7_search_204 : decode cX7_search 204 = .ok (.iload 9, 2) := by decide +kernel
theorem dX7_search_206 : decode cX7_search 206 = .ok (.ishr, 1) := by decide +kernel
theorem dX7_search_207 : decode cX7_search 207 = .ok (.iconst (-1), 1) := by decide +kernel
theorem dX7_search_208 : decode cX7_search 208 = .ok (.ixor, 1) := by decide +kernel
theorem dX7_search_209 : decode cX7_search 209 = .ok (.iand, 1) := by decide +kernel
theorem dX7_search_210 : decode cX7_search 210 = .ok (.ifCond .ne 9, 3) := by decide +kernel
theorem dX7_search_213 : decode cX7_search 213 = .ok (.iinc 9 1, 3) := by decide +kernel
theorem dX7_search_216 : decode cX7_search 216 = .ok (.goto (-32), 3) := by decide +kernel
theorem dX7_search_219 : decode cX7_search 219 = .ok (.aload_n 0, 1) := by decide +kernel
theorem dX7_search_220 : decode cX7_search 220 = .ok (.getfield 45, 3) := by decide +kernel
theorem dX7_search_223 : decode cX7_search 223 = .ok (.iload 5, 2) := by decide +kernel
theorem dX7_search_225 : decode cX7_search 225 = .ok (.aload_n 0, 1) := by decide +kernel
theorem dX7_search_226 : decode cX7_search 226 = .ok (.getfield 42, 3) := by decide +kernel
theorem dX7_search_229 : decode cX7_search 229 = .ok (.iload 5, 2) := by decide +kernel
theorem dX7_search_231 : decode cX7_search 231 = .ok (.iaload, 1) := by decide +kernel
theorem dX7_search_232 : decode cX7_search 232 = .ok (.ifCond .ge 8, 3) := by decide +kernel
theorem dX7_search_235 : decode cX7_search 235 = .ok (.bipush 6, 2) := by decide +kernel
theorem dX7_search_237 : decode cX7_search 237 = .ok (.goto 5, 3) := by decide +kernel
theorem dX7_search_240 : decode cX7_search 240 = .ok (.iload 9, 2) := by decide +kernel
theorem dX7_search_242 : decode cX7_search 242 = .ok (.iastore, 1) := by decide +kernel
theorem dX7_search_243 : decode cX7_search 243 = .ok (.aload_n 0, 1) := by decide +kernel
theorem dX7_search_244 : decode cX7_search 244 = .ok (.getfield 48, 3) := by decide +kernel
theorem dX7_search_247 : decode cX7_search 247 = .ok (.iload 5, 2) := by decide +kernel
theorem dX7_search_249 : decode cX7_search 249 = .ok (.iconst 0, 1) := by decide +kernel
theorem dX7_search_250 : decode cX7_search 250 = .ok (.iastore, 1) := by decide +kernel
theorem dX7_search_251 : decode cX7_search 251 = .ok (.goto (-121), 3) := by decide +kernel
theorem dX7_search_254 : decode cX7_search 254 = .ok (.aload_n 0, 1) := by decide +kernel
theorem dX7_search_255 : decode cX7_search 255 = .ok (.getfield 51, 3) := by decide +kernel
theorem dX7_search_258 : decode cX7_search 258 = .ok (.iload 5, 2) := by decide +kernel
theorem dX7_search_260 : decode cX7_search 260 = .ok (.aload_n 0, 1) := by decide +kernel
theorem dX7_search_261 : decode cX7_search 261 = .ok (.getfield 30, 3) := by decide +kernel
theorem dX7_search_264 : decode cX7_search 264 = .ok (.iload 8, 2) := by decide +kernel
theorem dX7_search_266 : decode cX7_search 266 = .ok (.sipush 1400, 3) := by decide +kernel
theorem dX7_search_269 : decode cX7_search 269 = .ok (.imul, 1) := by decide +kernel
theorem dX7_search_270 : decode cX7_search 270 = .ok (.aload_n 0, 1) := by decide +kernel
theorem dX7_search_271 : decode cX7_search 271 = .ok (.getfield 48, 3) := by decide +kernel
theorem dX7_search_274 : decode cX7_search 274 = .ok (.iload 5, 2) := by decide +kernel
theorem dX7_search_276 : decode cX7_search 276 = .ok (.iaload, 1) := by decide +kernel
theorem dX7_search_277 : decode cX7_search 277 = .ok (.iadd, 1) := by decide +kernel
theorem dX7_search_278 : decode cX7_search 278 = .ok (.laload, 1) := by decide +kernel
theorem dX7_search_279 : decode cX7_search 279 = .ok (.lastore, 1) := by decide +kernel
theorem dX7_search_280 : decode cX7_search 280 = .ok (.aload_n 0, 1) := by decide +kernel
theorem dX7_search_281 : decode cX7_search 281 = .ok (.getfield 48, 3) := by decide +kernel
theorem dX7_search_284 : decode cX7_search 284 = .ok (.iload 5, 2) := by decide +kernel
theorem dX7_search_286 : decode cX7_search 286 = .ok (.dup2, 1) := by decide +kernel
theorem dX7_search_287 : decode cX7_search 287 = .ok (.iaload, 1) := by decide +kernel
theorem dX7_search_288 : decode cX7_search 288 = .ok (.iconst 1, 1) := by decide +kernel
theorem dX7_search_289 : decode cX7_search 289 = .ok (.iadd, 1) := by decide +kernel
theorem dX7_search_290 : decode cX7_search 290 = .ok (.iastore, 1) := by decide +kernel
theorem dX7_search_291 : decode cX7_search 291 = .ok (.aload_n 0, 1) := by decide +kernel
theorem dX7_search_292 : decode cX7_search 292 = .ok (.getfield 42, 3) := by decide +kernel
theorem dX7_search_295 : decode cX7_search 295 = .ok (.iload 5, 2) := by decide +kernel
theorem dX7_search_297 : decode cX7_search 297 = .ok (.iaload, 1) := by decide +kernel
theorem dX7_search_298 : decode cX7_search 298 = .ok (.ifCond .lt 23, 3) := by decide +kernel
theorem dX7_search_301 : decode cX7_search 301 = .ok (.aload_n 0, 1) := by decide +kernel
theorem dX7_search_302 : decode cX7_search 302 = .ok (.getfield 51, 3) := by decide +kernel
theorem dX7_search_305 : decode cX7_search 305 = .ok (.iload 5, 2) := by decide +kernel
end
section
theorem dX7_search_307 : decode cX7_search 307 = .ok (.laload, 1) := by decide +kernel
theorem dX7_search_308 : decode cX7_search 308 = .ok (.aload_n 0, 1) := by decide +kernel
theorem dX7_search_309 : decode cX7_search 309 = .ok (.getfield 42, 3) := by decide +kernel
theorem dX7_search_312 : decode cX7_search 312 = .ok (.iload 5, 2) := by decide +kernel
theorem dX7_search_314 : decode cX7_search 314 = .ok (.iaload, 1) := by decide +kernel
theorem dX7_search_315 : decode cX7_search 315 = .ok (.invokestatic 82, 3) := by decide +kernel
theorem dX7_search_318 : decode cX7_search 318 = .ok (.ifCond .eq 7, 3) := by decide +kernel
theorem dX7_search_321 : decode cX7_search 321 = .ok (.iconst 1, 1) := by decide +kernel
theorem dX7_search_322 : decode cX7_search 322 = .ok (.goto 4, 3) := by decide +kernel
theorem dX7_search_325 : decode cX7_search 325 = .ok (.iconst 0, 1) := by decide +kernel
theorem dX7_search_326 : decode cX7_search 326 = .ok (.istore 7, 2) := by decide +kernel
theorem dX7_search_328 : decode cX7_search 328 = .ok (.goto (-198), 3) := by decide +kernel
theorem dX7_search_331 : decode cX7_search 331 = .ok (.iload 7, 2) := by decide +kernel
theorem dX7_search_333 : decode cX7_search 333 = .ok (.ifCond .ne 9, 3) := by decide +kernel
theorem dX7_search_336 : decode cX7_search 336 = .ok (.iinc 5 (-1), 3) := by decide +kernel
theorem dX7_search_339 : decode cX7_search 339 = .ok (.goto (-267), 3) := by decide +kernel
theorem dX7_search_342 : decode cX7_search 342 = .ok (.aload_n 0, 1) := by decide +kernel
theorem dX7_search_343 : decode cX7_search 343 = .ok (.getfield 135, 3) := by decide +kernel
theorem dX7_search_346 : decode cX7_search 346 = .ok (.iload_n 1, 1) := by decide +kernel
theorem dX7_search_347 : decode cX7_search 347 = .ok (.if_icmp .ne 16, 3) := by decide +kernel
theorem dX7_search_350 : decode cX7_search 350 = .ok (.aload_n 0, 1) := by decide +kernel
theorem dX7_search_351 : decode cX7_search 351 = .ok (.dup, 1) := by decide +kernel
theorem dX7_search_352 : decode cX7_search 352 = .ok (.getfield 135, 3) := by decide +kernel
theorem dX7_search_355 : decode cX7_search 355 = .ok (.iconst 1, 1) := by decide +kernel
theorem dX7_search_356 : decode cX7_search 356 = .ok (.iadd, 1) := by decide +kernel
theorem dX7_search_357 : decode cX7_search 357 = .ok (.putfield 135, 3) := by decide +kernel
theorem dX7_search_360 : decode cX7_search 360 = .ok (.iload 4, 2) := by decide +kernel
theorem dX7_search_362 : decode cX7_search 362 = .ok (.ireturn, 1) := by decide +kernel
theorem dX7_search_363 : decode cX7_search 363 = .ok (.aload_n 0, 1) := by decide +kernel
theorem dX7_search_364 : decode cX7_search 364 = .ok (.dup, 1) := by decide +kernel
theorem dX7_search_365 : decode cX7_search 365 = .ok (.getfield 135, 3) := by decide +kernel
theorem dX7_search_368 : decode cX7_search 368 = .ok (.iconst 1, 1) := by decide +kernel
theorem dX7_search_369 : decode cX7_search 369 = .ok (.iadd, 1) := by decide +kernel
theorem dX7_search_370 : decode cX7_search 370 = .ok (.putfield 135, 3) := by decide +kernel
theorem dX7_search_373 : decode cX7_search 373 = .ok (.aload_n 0, 1) := by decide +kernel
theorem dX7_search_374 : decode cX7_search 374 = .ok (.getfield 51, 3) := by decide +kernel
theorem dX7_search_377 : decode cX7_search 377 = .ok (.iload 5, 2) := by decide +kernel
theorem dX7_search_379 : decode cX7_search 379 = .ok (.laload, 1) := by decide +kernel
theorem dX7_search_380 : decode cX7_search 380 = .ok (.aload_n 0, 1) := by decide +kernel
theorem dX7_search_381 : decode cX7_search 381 = .ok (.getfield 36, 3) := by decide +kernel
theorem dX7_search_384 : decode cX7_search 384 = .ok (.iload 5, 2) := by decide +kernel
theorem dX7_search_386 : decode cX7_search 386 = .ok (.laload, 1) := by decide +kernel
theorem dX7_search_387 : decode cX7_search 387 = .ok (.land, 1) := by decide +kernel
theorem dX7_search_388 : decode cX7_search 388 = .ok (.lconst 0, 1) := by decide +kernel
theorem dX7_search_389 : decode cX7_search 389 = .ok (.lcmp, 1) := by decide +kernel
theorem dX7_search_390 : decode cX7_search 390 = .ok (.ifCond .eq 6, 3) := by decide +kernel
theorem dX7_search_393 : decode cX7_search 393 = .ok (.goto (-321), 3) := by decide +kernel
theorem dX7_search_396 : decode cX7_search 396 = .ok (.aload_n 0, 1) := by decide +kernel
theorem dX7_search_397 : decode cX7_search 397 = .ok (.getfield 36, 3) := by decide +kernel
theorem dX7_search_400 : decode cX7_search 400 = .ok (.iload 5, 2) := by decide +kernel
theorem dX7_search_402 : decode cX7_search 402 = .ok (.iconst 1, 1) := by decide +kernel
theorem dX7_search_403 : decode cX7_search 403 = .ok (.iadd, 1) := by decide +kernel
theorem dX7_search_404 : decode cX7_search 404 = .ok (.aload_n 0, 1) := by decide +kernel
theorem dX7_search_405 : decode cX7_search 405 = .ok (.getfield 36, 3) := by decide +kernel
theorem dX7_search_408 : decode cX7_search 408 = .ok (.iload 5, 2) := by decide +kernel
theorem dX7_search_410 : decode cX7_search 410 = .ok (.laload, 1) := by decide +kernel
theorem dX7_search_411 : decode cX7_search 411 = .ok (.aload_n 0, 1) := by decide +kernel
theorem dX7_search_412 : decode cX7_search 412 = .ok (.getfield 51, 3) := by decide +kernel
theorem dX7_search_415 : decode cX7_search 415 = .ok (.iload 5, 2) := by decide +kernel
theorem dX7_search_417 : decode cX7_search 417 = .ok (.laload, 1) := by decide +kernel
theorem dX7_search_418 : decode cX7_search 418 = .ok (.lor, 1) := by decide +kernel
theorem dX7_search_419 : decode cX7_search 419 = .ok (.lastore, 1) := by decide +kernel
theorem dX7_search_420 : decode cX7_search 420 = .ok (.aload_n 0, 1) := by decide +kernel
theorem dX7_search_421 : decode cX7_search 421 = .ok (.getfield 39, 3) := by decide +kernel
theorem dX7_search_424 : decode cX7_search 424 = .ok (.iload 5, 2) := by decide +kernel
theorem dX7_search_426 : decode cX7_search 426 = .ok (.iconst 1, 1) := by decide +kernel
theorem dX7_search_427 : decode cX7_search 427 = .ok (.iadd, 1) := by decide +kernel
theorem dX7_search_428 : decode cX7_search 428 = .ok (.aload_n 0, 1) := by decide +kernel
theorem dX7_search_429 : decode cX7_search 429 = .ok (.getfield 39, 3) := by decide +kernel
theorem dX7_search_432 : decode cX7_search 432 = .ok (.iload 5, 2) := by decide +kernel
theorem dX7_search_434 : decode cX7_search 434 = .ok (.iaload, 1) := by decide +kernel
theorem dX7_search_435 : decode cX7_search 435 = .ok (.iconst 1, 1) := by decide +kernel
theorem dX7_search_436 : decode cX7_search 436 = .ok (.aload_n 0, 1) := by decide +kernel
theorem dX7_search_437 : decode cX7_search 437 = .ok (.getfield 45, 3) := by decide +kernel
theorem dX7_search_440 : decode cX7_search 440 = .ok (.iload 5, 2) := by decide +kernel
theorem dX7_search_442 : decode cX7_search 442 = .ok (.iaload, 1) := by decide +kernel
theorem dX7_search_443 : decode cX7_search 443 = .ok (.ishl, 1) := by decide +kernel
theorem dX7_search_444 : decode cX7_search 444 = .ok (.ior, 1) := by decide +kernel
theorem dX7_search_445 : decode cX7_search 445 = .ok (.iastore, 1) := by decide +kernel
theorem dX7_search_446 : decode cX7_search 446 = .ok (.iinc 5 1, 3) := by decide +kernel
theorem dX7_search_449 : decode cX7_search 449 = .ok (.aload_n 0, 1) := by decide +kernel
theorem dX7_search_450 : decode cX7_search 450 = .ok (.iload 5, 2) := by decide +kernel
theorem dX7_search_452 : decode cX7_search 452 = .ok (.iload_n 3, 1) := by decide +kernel
theorem dX7_search_453 : decode cX7_search 453 = .ok (.invokevirtual 138, 3) := by decide +kernel
theorem dX7_search_456 : decode cX7_search 456 = .ok (.goto (-384), 3) := by decide +kernel
theorem dX7_search_459 : decode cX7_search 459 = .ok (.iload 4, 2) := by decide +kernel
theorem dX7_search_461 : decode cX7_search 461 = .ok (.ireturn, 1) := by decide +kernel
theorem dX7_pack_0 : decode cX7_pack 0 = .ok (.aload_n 0, 1) := by decide +kernel
theorem dX7_pack_1 : decode cX7_pack 1 = .ok (.iload_n 1, 1) := by decide +kernel
theorem dX7_pack_2 : decode cX7_pack 2 = .ok (.iconst 1, 1) := by decide +kernel
theorem dX7_pack_3 : decode cX7_pack 3 = .ok (.ldc 143, 2) := by decide +kernel
theorem dX7_pack_5 : decode cX7_pack 5 = .ok (.invokestatic 88, 3) := by decide +kernel
theorem dX7_pack_8 : decode cX7_pack 8 = .ok (.invokevirtual 96, 3) := by decide +kernel
theorem dX7_pack_11 : decode cX7_pack 11 = .ok (.ifCond .ne 5, 3) := by decide +kernel
theorem dX7_pack_14 : decode cX7_pack 14 = .ok (.iconst 0, 1) := by decide +kernel
theorem dX7_pack_15 : decode cX7_pack 15 = .ok (.ireturn, 1) := by decide +kernel
theorem dX7_pack_16 : decode cX7_pack 16 = .ok (.aload_n 0, 1) := by decide +kernel
theorem dX7_pack_17 : decode cX7_pack 17 = .ok (.iload_n 1, 1) := by decide +kernel
theorem dX7_pack_18 : decode cX7_pack 18 = .ok (.iconst (-1), 1) := by decide +kernel
theorem dX7_pack_19 : decode cX7_pack 19 = .ok (.invokevirtual 144, 3) := by decide +kernel
theorem dX7_pack_22 : decode cX7_pack 22 = .ok (.istore_n 2, 1) := by decide +kernel
theorem dX7_pack_23 : decode cX7_pack 23 = .ok (.aload_n 0, 1) := by decide +kernel
theorem dX7_pack_24 : decode cX7_pack 24 = .ok (.getfield 135, 3) := by decide +kernel
theorem dX7_pack_27 : decode cX7_pack 27 = .ok (.iload_n 1, 1) := by decide +kernel
theorem dX7_pack_28 : decode cX7_pack 28 = .ok (.if_icmp .gt 5, 3) := by decide +kernel
theorem dX7_pack_31 : decode cX7_pack 31 = .ok (.iload_n 2, 1) := by decide +kernel
theorem dX7_pack_32 : decode cX7_pack 32 = .ok (.ireturn, 1) := by decide +kernel
theorem dX7_pack_33 : decode cX7_pack 33 = .ok (.aload_n 0, 1) := by decide +kernel
theorem dX7_pack_34 : decode cX7_pack 34 = .ok (.iload_n 1, 1) := by decide +kernel
theorem dX7_pack_35 : decode cX7_pack 35 = .ok (.putfield 135, 3) := by decide +kernel
theorem dX7_pack_38 : decode cX7_pack 38 = .ok (.iconst (-1), 1) := by decide +kernel
theorem dX7_pack_39 : decode cX7_pack 39 = .ok (.iload_n 2, 1) := by decide +kernel
theorem dX7_pack_40 : decode cX7_pack 40 = .ok (.isub, 1) := by decide +kernel
theorem dX7_pack_41 : decode cX7_pack 41 = .ok (.ireturn, 1) := by decide +kernel
theorem dX7_tries_0 : decode cX7_tries 0 = .ok (.aload_n 0, 1) := by decide +kernel
theorem dX7_tries_1 : decode cX7_tries 1 = .ok (.iconst 0, 1) := by decide +kernel
theorem dX7_tries_2 : decode cX7_tries 2 = .ok (.putfield 78, 3) := by decide +kernel
theorem dX7_tries_5 : decode cX7_tries 5 = .ok (.aload_n 0, 1) := by decide +kernel
theorem dX7_tries_6 : decode cX7_tries 6 = .ok (.getfield 135, 3) := by decide +kernel
theorem dX7_tries_9 : decode cX7_tries 9 = .ok (.ireturn, 1) := by decide +kernel
theorem dX7_assemble_0 : decode cX7_assemble 0 = .ok (.aload_n 0, 1) := by decide +kernel
theorem dX7_assemble_1 : decode cX7_assemble 1 = .ok (.iload_n 1, 1) := by decide +kernel
theorem dX7_assemble_2 : decode cX7_assemble 2 = .ok (.ifCond .lt 17, 3) := by decide +kernel
theorem dX7_assemble_5 : decode cX7_assemble 5 = .ok (.iload_n 2, 1) := by decide +kernel
theorem dX7_assemble_6 : decode cX7_assemble 6 = .ok (.iconst 1, 1) := by decide +kernel
theorem dX7_assemble_7 : decode cX7_assemble 7 = .ok (.ldc 143, 2) := by decide +kernel
theorem dX7_assemble_9 : decode cX7_assemble 9 = .ok (.invokestatic 88, 3) := by decide +kernel
theorem dX7_assemble_12 : decode cX7_assemble 12 = .ok (.ifCond .eq 7, 3) := by decide +kernel
theorem dX7_assemble_15 : decode cX7_assemble 15 = .ok (.iconst 1, 1) := by decide +kernel
theorem dX7_assemble_16 : decode cX7_assemble 16 = .ok (.goto 4, 3) := by decide +kernel
theorem dX7_assemble_19 : decode cX7_assemble 19 = .ok (.iconst 0, 1) := by decide +kernel
theorem dX7_assemble_20 : decode cX7_assemble 20 = .ok (.invokevirtual 96, 3) := by decide +kernel
theorem dX7_assemble_23 : decode cX7_assemble 23 = .ok (.ifCond .ne 5, 3) := by decide +kernel
theorem dX7_assemble_26 : decode cX7_assemble 26 = .ok (.iconst 0, 1) := by decide +kernel
theorem dX7_assemble_27 : decode cX7_assemble 27 = .ok (.ireturn, 1) := by decide +kernel
theorem dX7_assemble_28 : decode cX7_assemble 28 = .ok (.aload_n 0, 1) := by decide +kernel
theorem dX7_assemble_29 : decode cX7_assemble 29 = .ok (.iload_n 2, 1) := by decide +kernel
theorem dX7_assemble_30 : decode cX7_assemble 30 = .ok (.iload_n 1, 1) := by decide +kernel
theorem dX7_assemble_31 : decode cX7_assemble 31 = .ok (.invokevirtual 144, 3) := by decide +kernel
theorem dX7_assemble_34 : decode cX7_assemble 34 = .ok (.ldc 142, 2) := by decide +kernel
theorem dX7_assemble_36 : decode cX7_assemble 36 = .ok (.isub, 1) := by decide +kernel
theorem dX7_assemble_37 : decode cX7_assemble 37 = .ok (.istore_n 3, 1) := by decide +kernel
theorem dX7_assemble_38 : decode cX7_assemble 38 = .ok (.aload_n 0, 1) := by decide +kernel
theorem dX7_assemble_39 : decode cX7_assemble 39 = .ok (.getfield 135, 3) := by decide +kernel
theorem dX7_assemble_42 : decode cX7_assemble 42 = .ok (.iload_n 2, 1) := by decide +kernel
theorem dX7_assemble_43 : decode cX7_assemble 43 = .ok (.if_icmp .le 8, 3) := by decide +kernel
theorem dX7_assemble_46 : decode cX7_assemble 46 = .ok (.aload_n 0, 1) := by decide +kernel
theorem dX7_assemble_47 : decode cX7_assemble 47 = .ok (.iload_n 2, 1) := by decide +kernel
theorem dX7_assemble_48 : decode cX7_assemble 48 = .ok (.putfield 135, 3) := by decide +kernel
theorem dX7_assemble_51 : decode cX7_assemble 51 = .ok (.iload_n 3, 1) := by decide +kernel
theorem dX7_assemble_52 : decode cX7_assemble 52 = .ok (.ifCond .ge 5, 3) := by decide +kernel
theorem dX7_assemble_55 : decode cX7_assemble 55 = .ok (.iconst 0, 1) := by decide +kernel
theorem dX7_assemble_56 : decode cX7_assemble 56 = .ok (.ireturn, 1) := by decide +kernel
theorem dX7_assemble_57 : decode cX7_assemble 57 = .ok (.iconst 0, 1) := by decide +kernel
theorem dX7_assemble_58 : decode cX7_assemble 58 = .ok (.istore 4, 2) := by decide +kernel
theorem dX7_assemble_60 : decode cX7_assemble 60 = .ok (.iload 4, 2) := by decide +kernel
theorem dX7_assemble_62 : decode cX7_assemble 62 = .ok (.bipush 6, 2) := by decide +kernel
theorem dX7_assemble_64 : decode cX7_assemble 64 = .ok (.if_icmp .ge 17, 3) := by decide +kernel
theorem dX7_assemble_67 : decode cX7_assemble 67 = .ok (.aload_n 0, 1) := by decide +kernel
theorem dX7_assemble_68 : decode cX7_assemble 68 = .ok (.getfield 33, 3) := by decide +kernel
theorem dX7_assemble_71 : decode cX7_assemble 71 = .ok (.iload 4, 2) := by decide +kernel
theorem dX7_assemble_73 : decode cX7_assemble 73 = .ok (.lconst 0, 1) := by decide +kernel
theorem dX7_assemble_74 : decode cX7_assemble 74 = .ok (.lastore, 1) := by decide +kernel
theorem dX7_assemble_75 : decode cX7_assemble 75 = .ok (.iinc 4 1, 3) := by decide +kernel
theorem dX7_assemble_78 : decode cX7_assemble 78 = .ok (.goto (-18), 3) := by decide +kernel
theorem dX7_assemble_81 : decode cX7_assemble 81 = .ok (.iconst 0, 1) := by decide +kernel
theorem dX7_assemble_82 : decode cX7_assemble 82 = .ok (.istore 4, 2) := by decide +kernel
theorem dX7_assemble_84 : decode cX7_assemble 84 = .ok (.iload 4, 2) := by decide +kernel
theorem dX7_assemble_86 : decode cX7_assemble 86 = .ok (.iload_n 3, 1) := by decide +kernel
theorem dX7_assemble_87 : decode cX7_assemble 87 = .ok (.if_icmp .ge 28, 3) := by decide +kernel
theorem dX7_assemble_90 : decode cX7_assemble 90 = .ok (.aload_n 0, 1) := by decide +kernel
theorem dX7_assemble_91 : decode cX7_assemble 91 = .ok (.getfield 33, 3) := by decide +kernel
theorem dX7_assemble_94 : decode cX7_assemble 94 = .ok (.aload_n 0, 1) := by decide +kernel
theorem dX7_assemble_95 : decode cX7_assemble 95 = .ok (.getfield 45, 3) := by decide +kernel
theorem dX7_assemble_98 : decode cX7_assemble 98 = .ok (.iload 4, 2) := by decide +kernel
theorem dX7_assemble_100 : decode cX7_assemble 100 = .ok (.iaload, 1) := by decide +kernel
theorem dX7_assemble_101 : decode cX7_assemble 101 = .ok (.aload_n 0, 1) := by decide +kernel
theorem dX7_assemble_102 : decode cX7_assemble 102 = .ok (.getfield 51, 3) := by decide +kernel
theorem dX7_assemble_105 : decode cX7_assemble 105 = .ok (.iload 4, 2) := by decide +kernel
theorem dX7_assemble_107 : decode cX7_assemble 107 = .ok (.laload, 1) := by decide +kernel
theorem dX7_assemble_108 : decode cX7_assemble 108 = .ok (.lastore, 1) := by decide +kernel
theorem dX7_assemble_109 : decode cX7_assemble 109 = .ok (.iinc 4 1, 3) := by decide +kernel
theorem dX7_assemble_112 : decode cX7_assemble 112 = .ok (.goto (-28), 3) := by decide +kernel
theorem dX7_assemble_115 : decode cX7_assemble 115 = .ok (.iconst 1, 1) := by decide +kernel
theorem dX7_assemble_116 : decode cX7_assemble 116 = .ok (.ireturn, 1) := by decide +kernel
theorem dX7_put_0 : decode cX7_put 0 = .ok (.aload_n 0, 1) := by decide +kernel
theorem dX7_put_1 : decode cX7_put 1 = .ok (.iload_n 1, 1) := by decide +kernel
theorem dX7_put_2 : decode cX7_put 2 = .ok (.iconst 0, 1) := by decide +kernel
theorem dX7_put_3 : decode cX7_put 3 = .ok (.iconst 5, 1) := by decide +kernel
theorem dX7_put_4 : decode cX7_put 4 = .ok (.invokestatic 88, 3) := by decide +kernel
theorem dX7_put_7 : decode cX7_put 7 = .ok (.invokevirtual 96, 3) := by decide +kernel
theorem dX7_put_10 : decode cX7_put 10 = .ok (.ifCond .ne 4, 3) := by decide +kernel
theorem dX7_put_13 : decode cX7_put 13 = .ok (.return_, 1) := by decide +kernel
theorem dX7_put_14 : decode cX7_put 14 = .ok (.aload_n 0, 1) := by decide +kernel
theorem dX7_put_15 : decode cX7_put 15 = .ok (.iload_n 1, 1) := by decide +kernel
theorem dX7_put_16 : decode cX7_put 16 = .ok (.invokevirtual 124, 3) := by decide +kernel
theorem dX7_put_19 : decode cX7_put 19 = .ok (.iconst 0, 1) := by decide +kernel
theorem dX7_put_20 : decode cX7_put 20 = .ok (.istore 4, 2) := by decide +kernel
theorem dX7_put_22 : decode cX7_put 22 = .ok (.iconst 0, 1) := by decide +kernel
theorem dX7_put_23 : decode cX7_put 23 = .ok (.istore 5, 2) := by decide +kernel
theorem dX7_put_25 : decode cX7_put 25 = .ok (.iload 5, 2) := by decide +kernel
theorem dX7_put_27 : decode cX7_put 27 = .ok (.aload_n 0, 1) := by decide +kernel
theorem dX7_put_28 : decode cX7_put 28 = .ok (.getfield 21, 3) := by decide +kernel
theorem dX7_put_31 : decode cX7_put 31 = .ok (.iload_n 1, 1) := by decide +kernel
theorem dX7_put_32 : decode cX7_put 32 = .ok (.iaload, 1) := by decide +kernel
theorem dX7_put_33 : decode cX7_put 33 = .ok (.if_icmp .ge 78, 3) := by decide +kernel
theorem dX7_put_36 : decode cX7_put 36 = .ok (.iconst 0, 1) := by decide +kernel
theorem dX7_put_37 : decode cX7_put 37 = .ok (.istore 6, 2) := by decide +kernel
theorem dX7_put_39 : decode cX7_put 39 = .ok (.iload 6, 2) := by decide +kernel
theorem dX7_put_41 : decode cX7_put 41 = .ok (.bipush 64, 2) := by decide +kernel
theorem dX7_put_43 : decode cX7_put 43 = .ok (.if_icmp .ge 62, 3) := by decide +kernel
theorem dX7_put_46 : decode cX7_put 46 = .ok (.iload 4, 2) := by decide +kernel
theorem dX7_put_48 : decode cX7_put 48 = .ok (.ifCond .ne 44, 3) := by decide +kernel
theorem dX7_put_51 : decode cX7_put 51 = .ok (.lload_n 2, 1) := by decide +kernel
theorem dX7_put_52 : decode cX7_put 52 = .ok (.lconst 0, 1) := by decide +kernel
theorem dX7_put_53 : decode cX7_put 53 = .ok (.lcmp, 1) := by decide +kernel
theorem dX7_put_54 : decode cX7_put 54 = .ok (.ifCond .eq 42, 3) := by decide +kernel
theorem dX7_put_57 : decode cX7_put 57 = .ok (.aload_n 0, 1) := by decide +kernel
theorem dX7_put_58 : decode cX7_put 58 = .ok (.getfield 24, 3) := by decide +kernel
theorem dX7_put_61 : decode cX7_put 61 = .ok (.iload_n 1, 1) := by decide +kernel
theorem dX7_put_62 : decode cX7_put 62 = .ok (.bipush 48, 2) := by decide +kernel
theorem dX7_put_64 : decode cX7_put 64 = .ok (.imul, 1) := by decide +kernel
theorem dX7_put_65 : decode cX7_put 65 = .ok (.iload 5, 2) := by decide +kernel
theorem dX7_put_67 : decode cX7_put 67 = .ok (.iadd, 1) := by decide +kernel
theorem dX7_put_68 : decode cX7_put 68 = .ok (.laload, 1) := by decide +kernel
theorem dX7_put_69 : decode cX7_put 69 = .ok (.iload 6, 2) := by decide +kernel
theorem dX7_put_71 : decode cX7_put 71 = .ok (.iconst 4, 1) := by decide +kernel
theorem dX7_put_72 : decode cX7_put 72 = .ok (.irem, 1) := by decide +kernel
theorem dX7_put_73 : decode cX7_put 73 = .ok (.iload 6, 2) := by decide +kernel
theorem dX7_put_75 : decode cX7_put 75 = .ok (.iconst 4, 1) := by decide +kernel
theorem dX7_put_76 : decode cX7_put 76 = .ok (.idiv, 1) := by decide +kernel
theorem dX7_put_77 : decode cX7_put 77 = .ok (.iconst 4, 1) := by decide +kernel
theorem dX7_put_78 : decode cX7_put 78 = .ok (.irem, 1) := by decide +kernel
theorem dX7_put_79 : decode cX7_put 79 = .ok (.iload 6, 2) := by decide +kernel
theorem dX7_put_81 : decode cX7_put 81 = .ok (.bipush 16, 2) := by decide +kernel
theorem dX7_put_83 : decode cX7_put 83 = .ok (.idiv, 1) := by decide +kernel
theorem dX7_put_84 : decode cX7_put 84 = .ok (.invokestatic 128, 3) := by decide +kernel
theorem dX7_put_87 : decode cX7_put 87 = .ok (.lload_n 2, 1) := by decide +kernel
theorem dX7_put_88 : decode cX7_put 88 = .ok (.lcmp, 1) := by decide +kernel
theorem dX7_put_89 : decode cX7_put 89 = .ok (.ifCond .ne 7, 3) := by decide +kernel
theorem dX7_put_92 : decode cX7_put 92 = .ok (.iconst 1, 1) := by decide +kernel
theorem dX7_put_93 : decode cX7_put 93 = .ok (.goto 4, 3) := by decide +kernel
theorem dX7_put_96 : decode cX7_put 96 = .ok (.iconst 0, 1) := by decide +kernel
theorem dX7_put_97 : decode cX7_put 97 = .ok (.istore 4, 2) := by decide +kernel
theorem dX7_put_99 : decode cX7_put 99 = .ok (.iinc 6 1, 3) := by decide +kernel
theorem dX7_put_102 : decode cX7_put 102 = .ok (.goto (-63), 3) := by decide +kernel
theorem dX7_put_105 : decode cX7_put 105 = .ok (.iinc 5 1, 3) := by decide +kernel
theorem dX7_put_108 : decode cX7_put 108 = .ok (.goto (-83), 3) := by decide +kernel
theorem dX7_put_111 : decode cX7_put 111 = .ok (.iconst 1, 1) := by decide +kernel
theorem dX7_put_112 : decode cX7_put 112 = .ok (.istore 5, 2) := by decide +kernel
theorem dX7_put_114 : decode cX7_put 114 = .ok (.iconst 0, 1) := by decide +kernel
theorem dX7_put_115 : decode cX7_put 115 = .ok (.istore 6, 2) := by decide +kernel
theorem dX7_put_117 : decode cX7_put 117 = .ok (.iload 6, 2) := by decide +kernel
theorem dX7_put_119 : decode cX7_put 119 = .ok (.bipush 6, 2) := by decide +kernel
theorem dX7_put_121 : decode cX7_put 121 = .ok (.if_icmp .ge 41, 3) := by decide +kernel
theorem dX7_put_124 : decode cX7_put 124 = .ok (.iload 5, 2) := by decide +kernel
theorem dX7_put_126 : decode cX7_put 126 = .ok (.ifCond .eq 27, 3) := by decide +kernel
theorem dX7_put_129 : decode cX7_put 129 = .ok (.iload 6, 2) := by decide +kernel
theorem dX7_put_131 : decode cX7_put 131 = .ok (.iload_n 1, 1) := by decide +kernel
theorem dX7_put_132 : decode cX7_put 132 = .ok (.if_icmp .eq 17, 3) := by decide +kernel
theorem dX7_put_135 : decode cX7_put 135 = .ok (.aload_n 0, 1) := by decide +kernel
theorem dX7_put_136 : decode cX7_put 136 = .ok (.getfield 33, 3) := by decide +kernel
theorem dX7_put_139 : decode cX7_put 139 = .ok (.iload 6, 2) := by decide +kernel
theorem dX7_put_141 : decode cX7_put 141 = .ok (.laload, 1) := by decide +kernel
theorem dX7_put_142 : decode cX7_put 142 = .ok (.lload_n 2, 1) := by decide +kernel
theorem dX7_put_143 : decode cX7_put 143 = .ok (.land, 1) := by decide +kernel
theorem dX7_put_144 : decode cX7_put 144 = .ok (.lconst 0, 1) := by decide +kernel
theorem dX7_put_145 : decode cX7_put 145 = .ok (.lcmp, 1) := by decide +kernel
theorem dX7_put_146 : decode cX7_put 146 = .ok (.ifCond .ne 7, 3) := by decide +kernel
theorem dX7_put_149 : decode cX7_put 149 = .ok (.iconst 1, 1) := by decide +kernel
theorem dX7_put_150 : decode cX7_put 150 = .ok (.goto 4, 3) := by decide +kernel
theorem dX7_put_153 : decode cX7_put 153 = .ok (.iconst 0, 1) := by decide +kernel
theorem dX7_put_154 : decode cX7_put 154 = .ok (.istore 5, 2) := by decide +kernel
theorem dX7_put_156 : decode cX7_put 156 = .ok (.iinc 6 1, 3) := by decide +kernel
theorem dX7_put_159 : decode cX7_put 159 = .ok (.goto (-42), 3) := by decide +kernel
theorem dX7_put_162 : decode cX7_put 162 = .ok (.aload_n 0, 1) := by decide +kernel
theorem dX7_put_163 : decode cX7_put 163 = .ok (.iload 4, 2) := by decide +kernel
theorem dX7_put_165 : decode cX7_put 165 = .ok (.ifCond .ne 7, 3) := by decide +kernel
theorem dX7_put_168 : decode cX7_put 168 = .ok (.iconst 1, 1) := by decide +kernel
theorem dX7_put_169 : decode cX7_put 169 = .ok (.goto 13, 3) := by decide +kernel
theorem dX7_put_172 : decode cX7_put 172 = .ok (.iload 5, 2) := by decide +kernel
theorem dX7_put_174 : decode cX7_put 174 = .ok (.ifCond .eq 7, 3) := by decide +kernel
theorem dX7_put_177 : decode cX7_put 177 = .ok (.iconst 0, 1) := by decide +kernel
theorem dX7_put_178 : decode cX7_put 178 = .ok (.goto 4, 3) := by decide +kernel
theorem dX7_put_181 : decode cX7_put 181 = .ok (.iconst 2, 1) := by decide +kernel
theorem dX7_put_182 : decode cX7_put 182 = .ok (.putfield 78, 3) := by decide +kernel
theorem dX7_put_185 : decode cX7_put 185 = .ok (.aload_n 0, 1) := by decide +kernel
theorem dX7_put_186 : decode cX7_put 186 = .ok (.getfield 78, 3) := by decide +kernel
theorem dX7_put_189 : decode cX7_put 189 = .ok (.ifCond .ne 10, 3) := by decide +kernel
theorem dX7_put_192 : decode cX7_put 192 = .ok (.aload_n 0, 1) := by decide +kernel
theorem dX7_put_193 : decode cX7_put 193 = .ok (.getfield 33, 3) := by decide +kernel
theorem dX7_put_196 : decode cX7_put 196 = .ok (.iload_n 1, 1) := by decide +kernel
theorem dX7_put_197 : decode cX7_put 197 = .ok (.lload_n 2, 1) := by decide +kernel
theorem dX7_put_198 : decode cX7_put 198 = .ok (.lastore, 1) := by decide +kernel
theorem dX7_put_199 : decode cX7_put 199 = .ok (.return_, 1) := by decide +kernel
theorem dX7_take_0 : decode cX7_take 0 = .ok (.aload_n 0, 1) := by decide +kernel
theorem dX7_take_1 : decode cX7_take 1 = .ok (.iload_n 1, 1) := by decide +kernel
theorem dX7_take_2 : decode cX7_take 2 = .ok (.iconst 0, 1) := by decide +kernel
theorem dX7_take_3 : decode cX7_take 3 = .ok (.iconst 5, 1) := by decide +kernel
theorem dX7_take_4 : decode cX7_take 4 = .ok (.invokestatic 88, 3) := by decide +kernel
theorem dX7_take_7 : decode cX7_take 7 = .ok (.ifCond .ne 7, 3) := by decide +kernel
theorem dX7_take_10 : decode cX7_take 10 = .ok (.iconst 1, 1) := by decide +kernel
theorem dX7_take_11 : decode cX7_take 11 = .ok (.goto 19, 3) := by decide +kernel
theorem dX7_take_14 : decode cX7_take 14 = .ok (.aload_n 0, 1) := by decide +kernel
theorem dX7_take_15 : decode cX7_take 15 = .ok (.getfield 33, 3) := by decide +kernel
theorem dX7_take_18 : decode cX7_take 18 = .ok (.iload_n 1, 1) := by decide +kernel
theorem dX7_take_19 : decode cX7_take 19 = .ok (.laload, 1) := by decide +kernel
theorem dX7_take_20 : decode cX7_take 20 = .ok (.lconst 0, 1) := by decide +kernel
theorem dX7_take_21 : decode cX7_take 21 = .ok (.lcmp, 1) := by decide +kernel
theorem dX7_take_22 : decode cX7_take 22 = .ok (.ifCond .ne 7, 3) := by decide +kernel
theorem dX7_take_25 : decode cX7_take 25 = .ok (.iconst 2, 1) := by decide +kernel
theorem dX7_take_26 : decode cX7_take 26 = .ok (.goto 4, 3) := by decide +kernel
theorem dX7_take_29 : decode cX7_take 29 = .ok (.iconst 0, 1) := by decide +kernel
theorem dX7_take_30 : decode cX7_take 30 = .ok (.putfield 78, 3) := by decide +kernel
theorem dX7_take_33 : decode cX7_take 33 = .ok (.aload_n 0, 1) := by decide +kernel
theorem dX7_take_34 : decode cX7_take 34 = .ok (.getfield 78, 3) := by decide +kernel
theorem dX7_take_37 : decode cX7_take 37 = .ok (.ifCond .ne 10, 3) := by decide +kernel
theorem dX7_take_40 : decode cX7_take 40 = .ok (.aload_n 0, 1) := by decide +kernel
theorem dX7_take_41 : decode cX7_take 41 = .ok (.getfield 33, 3) := by decide +kernel
theorem dX7_take_44 : decode cX7_take 44 = .ok (.iload_n 1, 1) := by decide +kernel
theorem dX7_take_45 : decode cX7_take 45 = .ok (.lconst 0, 1) := by decide +kernel
theorem dX7_take_46 : decode cX7_take 46 = .ok (.lastore, 1) := by decide +kernel
theorem dX7_take_47 : decode cX7_take 47 = .ok (.return_, 1) := by decide +kernel
theorem dX7_cells_0 : decode cX7_cells 0 = .ok (.aload_n 0, 1) := by decide +kernel
theorem dX7_cells_1 : decode cX7_cells 1 = .ok (.iload_n 1, 1) := by decide +kernel
theorem dX7_cells_2 : decode cX7_cells 2 = .ok (.iconst 0, 1) := by decide +kernel
theorem dX7_cells_3 : decode cX7_cells 3 = .ok (.iconst 5, 1) := by decide +kernel
theorem dX7_cells_4 : decode cX7_cells 4 = .ok (.invokestatic 88, 3) := by decide +kernel
theorem dX7_cells_7 : decode cX7_cells 7 = .ok (.invokevirtual 96, 3) := by decide +kernel
theorem dX7_cells_10 : decode cX7_cells 10 = .ok (.ifCond .eq 12, 3) := by decide +kernel
theorem dX7_cells_13 : decode cX7_cells 13 = .ok (.aload_n 0, 1) := by decide +kernel
theorem dX7_cells_14 : decode cX7_cells 14 = .ok (.getfield 33, 3) := by decide +kernel
theorem dX7_cells_17 : decode cX7_cells 17 = .ok (.iload_n 1, 1) := by decide +kernel
theorem dX7_cells_18 : decode cX7_cells 18 = .ok (.laload, 1) := by decide +kernel
theorem dX7_cells_19 : decode cX7_cells 19 = .ok (.goto 4, 3) := by decide +kernel
theorem dX7_cells_22 : decode cX7_cells 22 = .ok (.lconst 0, 1) := by decide +kernel
theorem dX7_cells_23 : decode cX7_cells 23 = .ok (.lreturn, 1) := by decide +kernel
theorem dX7_at_0 : decode cX7_at 0 = .ok (.aload_n 0, 1) := by decide +kernel
theorem dX7_at_1 : decode cX7_at 1 = .ok (.getfield 57, 3) := by decide +kernel
theorem dX7_at_4 : decode cX7_at 4 = .ok (.iload_n 1, 1) := by decide +kernel
theorem dX7_at_5 : decode cX7_at 5 = .ok (.bipush 10, 2) := by decide +kernel
theorem dX7_at_7 : decode cX7_at 7 = .ok (.imul, 1) := by decide +kernel
theorem dX7_at_8 : decode cX7_at 8 = .ok (.iload_n 2, 1) := by decide +kernel
theorem dX7_at_9 : decode cX7_at 9 = .ok (.iadd, 1) := by decide +kernel
theorem dX7_at_10 : decode cX7_at 10 = .ok (.iconst 3, 1) := by decide +kernel
theorem dX7_at_11 : decode cX7_at 11 = .ok (.imul, 1) := by decide +kernel
theorem dX7_at_12 : decode cX7_at 12 = .ok (.iload_n 3, 1) := by decide +kernel
theorem dX7_at_13 : decode cX7_at 13 = .ok (.iadd, 1) := by decide +kernel
theorem dX7_at_14 : decode cX7_at 14 = .ok (.iaload, 1) := by decide +kernel
theorem dX7_at_15 : decode cX7_at 15 = .ok (.aload_n 0, 1) := by decide +kernel
theorem dX7_at_16 : decode cX7_at 16 = .ok (.getfield 69, 3) := by decide +kernel
theorem dX7_at_19 : decode cX7_at 19 = .ok (.iconst 3, 1) := by decide +kernel
theorem dX7_at_20 : decode cX7_at 20 = .ok (.iload_n 1, 1) := by decide +kernel
theorem dX7_at_21 : decode cX7_at 21 = .ok (.imul, 1) := by decide +kernel
theorem dX7_at_22 : decode cX7_at 22 = .ok (.iload_n 3, 1) := by decide +kernel
theorem dX7_at_23 : decode cX7_at 23 = .ok (.iadd, 1) := by decide +kernel
theorem dX7_at_24 : decode cX7_at 24 = .ok (.iaload, 1) := by decide +kernel
theorem dX7_at_25 : decode cX7_at 25 = .ok (.iadd, 1) := by decide +kernel
theorem dX7_at_26 : decode cX7_at 26 = .ok (.ireturn, 1) := by decide +kernel
theorem dX7_hits_0 : decode cX7_hits 0 = .ok (.iconst 0, 1) := by decide +kernel
theorem dX7_hits_1 : decode cX7_hits 1 = .ok (.istore_n 3, 1) := by decide +kernel
theorem dX7_hits_2 : decode cX7_hits 2 = .ok (.iload_n 3, 1) := by decide +kernel
theorem dX7_hits_3 : decode cX7_hits 3 = .ok (.bipush 6, 2) := by decide +kernel
theorem dX7_hits_5 : decode cX7_hits 5 = .ok (.if_icmp .ge 152, 3) := by decide +kernel
theorem dX7_hits_8 : decode cX7_hits 8 = .ok (.iconst 0, 1) := by decide +kernel
theorem dX7_hits_9 : decode cX7_hits 9 = .ok (.istore 4, 2) := by decide +kernel
theorem dX7_hits_11 : decode cX7_hits 11 = .ok (.iload 4, 2) := by decide +kernel
theorem dX7_hits_13 : decode cX7_hits 13 = .ok (.bipush 6, 2) := by decide +kernel
theorem dX7_hits_15 : decode cX7_hits 15 = .ok (.if_icmp .ge 136, 3) := by decide +kernel
theorem dX7_hits_18 : decode cX7_hits 18 = .ok (.iload_n 2, 1) := by decide +kernel
theorem dX7_hits_19 : decode cX7_hits 19 = .ok (.iload_n 3, 1) := by decide +kernel
theorem dX7_hits_20 : decode cX7_hits 20 = .ok (.ishr, 1) := by decide +kernel
theorem dX7_hits_21 : decode cX7_hits 21 = .ok (.iconst 1, 1) := by decide +kernel
theorem dX7_hits_22 : decode cX7_hits 22 = .ok (.iand, 1) := by decide +kernel
theorem dX7_hits_23 : decode cX7_hits 23 = .ok (.ifCond .eq 122, 3) := by decide +kernel
theorem dX7_hits_26 : decode cX7_hits 26 = .ok (.iload_n 1, 1) := by decide +kernel
theorem dX7_hits_27 : decode cX7_hits 27 = .ok (.iload_n 2, 1) := by decide +kernel
theorem dX7_hits_28 : decode cX7_hits 28 = .ok (.iconst (-1), 1) := by decide +kernel
theorem dX7_hits_29 : decode cX7_hits 29 = .ok (.ixor, 1) := by decide +kernel
theorem dX7_hits_30 : decode cX7_hits 30 = .ok (.iand, 1) := by decide +kernel
theorem dX7_hits_31 : decode cX7_hits 31 = .ok (.iload 4, 2) := by decide +kernel
theorem dX7_hits_33 : decode cX7_hits 33 = .ok (.ishr, 1) := by decide +kernel
theorem dX7_hits_34 : decode cX7_hits 34 = .ok (.iconst 1, 1) := by decide +kernel
theorem dX7_hits_35 : decode cX7_hits 35 = .ok (.iand, 1) := by decide +kernel
theorem dX7_hits_36 : decode cX7_hits 36 = .ok (.ifCond .ne 6, 3) := by decide +kernel
theorem dX7_hits_39 : decode cX7_hits 39 = .ok (.goto 106, 3) := by decide +kernel
theorem dX7_hits_42 : decode cX7_hits 42 = .ok (.iconst 0, 1) := by decide +kernel
theorem dX7_hits_43 : decode cX7_hits 43 = .ok (.istore 5, 2) := by decide +kernel
theorem dX7_hits_45 : decode cX7_hits 45 = .ok (.iload 5, 2) := by decide +kernel
theorem dX7_hits_47 : decode cX7_hits 47 = .ok (.aload_n 0, 1) := by decide +kernel
theorem dX7_hits_48 : decode cX7_hits 48 = .ok (.getfield 54, 3) := by decide +kernel
theorem dX7_hits_51 : decode cX7_hits 51 = .ok (.iload_n 3, 1) := by decide +kernel
theorem dX7_hits_52 : decode cX7_hits 52 = .ok (.iaload, 1) := by decide +kernel
theorem dX7_hits_53 : decode cX7_hits 53 = .ok (.if_icmp .ge 92, 3) := by decide +kernel
theorem dX7_hits_56 : decode cX7_hits 56 = .ok (.iconst 0, 1) := by decide +kernel
theorem dX7_hits_57 : decode cX7_hits 57 = .ok (.istore 6, 2) := by decide +kernel
theorem dX7_hits_59 : decode cX7_hits 59 = .ok (.iload 6, 2) := by decide +kernel
theorem dX7_hits_61 : decode cX7_hits 61 = .ok (.aload_n 0, 1) := by decide +kernel
theorem dX7_hits_62 : decode cX7_hits 62 = .ok (.getfield 54, 3) := by decide +kernel
theorem dX7_hits_65 : decode cX7_hits 65 = .ok (.iload 4, 2) := by decide +kernel
theorem dX7_hits_67 : decode cX7_hits 67 = .ok (.iaload, 1) := by decide +kernel
theorem dX7_hits_68 : decode cX7_hits 68 = .ok (.if_icmp .ge 71, 3) := by decide +kernel
theorem dX7_hits_71 : decode cX7_hits 71 = .ok (.aload_n 0, 1) := by decide +kernel
theorem dX7_hits_72 : decode cX7_hits 72 = .ok (.iload_n 3, 1) := by decide +kernel
theorem dX7_hits_73 : decode cX7_hits 73 = .ok (.iload 5, 2) := by decide +kernel
theorem dX7_hits_75 : decode cX7_hits 75 = .ok (.iconst 0, 1) := by decide +kernel
theorem dX7_hits_76 : decode cX7_hits 76 = .ok (.invokevirtual 148, 3) := by decide +kernel
theorem dX7_hits_79 : decode cX7_hits 79 = .ok (.aload_n 0, 1) := by decide +kernel
theorem dX7_hits_80 : decode cX7_hits 80 = .ok (.iload 4, 2) := by decide +kernel
theorem dX7_hits_82 : decode cX7_hits 82 = .ok (.iload 6, 2) := by decide +kernel
theorem dX7_hits_84 : decode cX7_hits 84 = .ok (.iconst 0, 1) := by decide +kernel
theorem dX7_hits_85 : decode cX7_hits 85 = .ok (.invokevirtual 148, 3) := by decide +kernel
theorem dX7_hits_88 : decode cX7_hits 88 = .ok (.if_icmp .ne 45, 3) := by decide +kernel
theorem dX7_hits_91 : decode cX7_hits 91 = .ok (.aload_n 0, 1) := by decide +kernel
theorem dX7_hits_92 : decode cX7_hits 92 = .ok (.iload_n 3, 1) := by decide +kernel
theorem dX7_hits_93 : decode cX7_hits 93 = .ok (.iload 5, 2) := by decide +kernel
theorem dX7_hits_95 : decode cX7_hits 95 = .ok (.iconst 1, 1) := by decide +kernel
theorem dX7_hits_96 : decode cX7_hits 96 = .ok (.invokevirtual 148, 3) := by decide +kernel
theorem dX7_hits_99 : decode cX7_hits 99 = .ok (.aload_n 0, 1) := by decide +kernel
theorem dX7_hits_100 : decode cX7_hits 100 = .ok (.iload 4, 2) := by decide +kernel
theorem dX7_hits_102 : decode cX7_hits 102 = .ok (.iload 6, 2) := by decide +kernel
theorem dX7_hits_104 : decode cX7_hits 104 = .ok (.iconst 1, 1) := by decide +kernel
theorem dX7_hits_105 : decode cX7_hits 105 = .ok (.invokevirtual 148, 3) := by decide +kernel
theorem dX7_hits_108 : decode cX7_hits 108 = .ok (.if_icmp .ne 25, 3) := by decide +kernel
theorem dX7_hits_111 : decode cX7_hits 111 = .ok (.aload_n 0, 1) := by decide +kernel
theorem dX7_hits_112 : decode cX7_hits 112 = .ok (.iload_n 3, 1) := by decide +kernel
theorem dX7_hits_113 : decode cX7_hits 113 = .ok (.iload 5, 2) := by decide +kernel
theorem dX7_hits_115 : decode cX7_hits 115 = .ok (.iconst 2, 1) := by decide +kernel
theorem dX7_hits_116 : decode cX7_hits 116 = .ok (.invokevirtual 148, 3) := by decide +kernel
theorem dX7_hits_119 : decode cX7_hits 119 = .ok (.aload_n 0, 1) := by decide +kernel
theorem dX7_hits_120 : decode cX7_hits 120 = .ok (.iload 4, 2) := by decide +kernel
theorem dX7_hits_122 : decode cX7_hits 122 = .ok (.iload 6, 2) := by decide +kernel
theorem dX7_hits_124 : decode cX7_hits 124 = .ok (.iconst 2, 1) := by decide +kernel
theorem dX7_hits_125 : decode cX7_hits 125 = .ok (.invokevirtual 148, 3) := by decide +kernel
theorem dX7_hits_128 : decode cX7_hits 128 = .ok (.if_icmp .ne 5, 3) := by decide +kernel
theorem dX7_hits_131 : decode cX7_hits 131 = .ok (.iconst 1, 1) := by decide +kernel
theorem dX7_hits_132 : decode cX7_hits 132 = .ok (.ireturn, 1) := by decide +kernel
theorem dX7_hits_133 : decode cX7_hits 133 = .ok (.iinc 6 1, 3) := by decide +kernel
theorem dX7_hits_136 : decode cX7_hits 136 = .ok (.goto (-77), 3) := by decide +kernel
theorem dX7_hits_139 : decode cX7_hits 139 = .ok (.iinc 5 1, 3) := by decide +kernel
theorem dX7_hits_142 : decode cX7_hits 142 = .ok (.goto (-97), 3) := by decide +kernel
theorem dX7_hits_145 : decode cX7_hits 145 = .ok (.iinc 4 1, 3) := by decide +kernel
theorem dX7_hits_148 : decode cX7_hits 148 = .ok (.goto (-137), 3) := by decide +kernel
theorem dX7_hits_151 : decode cX7_hits 151 = .ok (.iinc 3 1, 3) := by decide +kernel
theorem dX7_hits_154 : decode cX7_hits 154 = .ok (.goto (-152), 3) := by decide +kernel
theorem dX7_hits_157 : decode cX7_hits 157 = .ok (.iconst 0, 1) := by decide +kernel
theorem dX7_hits_158 : decode cX7_hits 158 = .ok (.ireturn, 1) := by decide +kernel
theorem dX7_edge_0 : decode cX7_edge 0 = .ok (.iload_n 3, 1) := by decide +kernel
theorem dX7_edge_1 : decode cX7_edge 1 = .ok (.ifCond .eq 8, 3) := by decide +kernel
theorem dX7_edge_4 : decode cX7_edge 4 = .ok (.ldc 152, 2) := by decide +kernel
theorem dX7_edge_6 : decode cX7_edge 6 = .ok (.goto 5, 3) := by decide +kernel
theorem dX7_edge_9 : decode cX7_edge 9 = .ok (.ldc 153, 2) := by decide +kernel
theorem dX7_edge_11 : decode cX7_edge 11 = .ok (.istore 4, 2) := by decide +kernel
theorem dX7_edge_13 : decode cX7_edge 13 = .ok (.iconst 0, 1) := by decide +kernel
theorem dX7_edge_14 : decode cX7_edge 14 = .ok (.istore 5, 2) := by decide +kernel
theorem dX7_edge_16 : decode cX7_edge 16 = .ok (.iload 5, 2) := by decide +kernel
theorem dX7_edge_18 : decode cX7_edge 18 = .ok (.bipush 6, 2) := by decide +kernel
theorem dX7_edge_20 : decode cX7_edge 20 = .ok (.if_icmp .ge 88, 3) := by decide +kernel
theorem dX7_edge_23 : decode cX7_edge 23 = .ok (.iconst 0, 1) := by decide +kernel
theorem dX7_edge_24 : decode cX7_edge 24 = .ok (.istore 6, 2) := by decide +kernel
theorem dX7_edge_26 : decode cX7_edge 26 = .ok (.iload 6, 2) := by decide +kernel
theorem dX7_edge_28 : decode cX7_edge 28 = .ok (.aload_n 0, 1) := by decide +kernel
theorem dX7_edge_29 : decode cX7_edge 29 = .ok (.getfield 54, 3) := by decide +kernel
theorem dX7_edge_32 : decode cX7_edge 32 = .ok (.iload 5, 2) := by decide +kernel
theorem dX7_edge_34 : decode cX7_edge 34 = .ok (.iaload, 1) := by decide +kernel
theorem dX7_edge_35 : decode cX7_edge 35 = .ok (.if_icmp .ge 67, 3) := by decide +kernel
theorem dX7_edge_38 : decode cX7_edge 38 = .ok (.iload_n 1, 1) := by decide +kernel
theorem dX7_edge_39 : decode cX7_edge 39 = .ok (.iload 5, 2) := by decide +kernel
theorem dX7_edge_41 : decode cX7_edge 41 = .ok (.ishr, 1) := by decide +kernel
theorem dX7_edge_42 : decode cX7_edge 42 = .ok (.iconst 1, 1) := by decide +kernel
theorem dX7_edge_43 : decode cX7_edge 43 = .ok (.iand, 1) := by decide +kernel
theorem dX7_edge_44 : decode cX7_edge 44 = .ok (.iconst 1, 1) := by decide +kernel
theorem dX7_edge_45 : decode cX7_edge 45 = .ok (.if_icmp .ne 57, 3) := by decide +kernel
theorem dX7_edge_48 : decode cX7_edge 48 = .ok (.aload_n 0, 1) := by decide +kernel
theorem dX7_edge_49 : decode cX7_edge 49 = .ok (.iload 5, 2) := by decide +kernel
theorem dX7_edge_51 : decode cX7_edge 51 = .ok (.iload 6, 2) := by decide +kernel
theorem dX7_edge_53 : decode cX7_edge 53 = .ok (.iload_n 2, 1) := by decide +kernel
theorem dX7_edge_54 : decode cX7_edge 54 = .ok (.invokevirtual 148, 3) := by decide +kernel
theorem dX7_edge_57 : decode cX7_edge 57 = .ok (.istore 7, 2) := by decide +kernel
theorem dX7_edge_59 : decode cX7_edge 59 = .ok (.iload_n 3, 1) := by decide +kernel
theorem dX7_edge_60 : decode cX7_edge 60 = .ok (.ifCond .eq 20, 3) := by decide +kernel
theorem dX7_edge_63 : decode cX7_edge 63 = .ok (.iload 7, 2) := by decide +kernel
theorem dX7_edge_65 : decode cX7_edge 65 = .ok (.iload 4, 2) := by decide +kernel
theorem dX7_edge_67 : decode cX7_edge 67 = .ok (.if_icmp .le 8, 3) := by decide +kernel
theorem dX7_edge_70 : decode cX7_edge 70 = .ok (.iload 7, 2) := by decide +kernel
theorem dX7_edge_72 : decode cX7_edge 72 = .ok (.goto 22, 3) := by decide +kernel
theorem dX7_edge_75 : decode cX7_edge 75 = .ok (.iload 4, 2) := by decide +kernel
theorem dX7_edge_77 : decode cX7_edge 77 = .ok (.goto 17, 3) := by decide +kernel
theorem dX7_edge_80 : decode cX7_edge 80 = .ok (.iload 7, 2) := by decide +kernel
theorem dX7_edge_82 : decode cX7_edge 82 = .ok (.iload 4, 2) := by decide +kernel
theorem dX7_edge_84 : decode cX7_edge 84 = .ok (.if_icmp .ge 8, 3) := by decide +kernel
theorem dX7_edge_87 : decode cX7_edge 87 = .ok (.iload 7, 2) := by decide +kernel
theorem dX7_edge_89 : decode cX7_edge 89 = .ok (.goto 5, 3) := by decide +kernel
theorem dX7_edge_92 : decode cX7_edge 92 = .ok (.iload 4, 2) := by decide +kernel
theorem dX7_edge_94 : decode cX7_edge 94 = .ok (.istore 4, 2) := by decide +kernel
theorem dX7_edge_96 : decode cX7_edge 96 = .ok (.iinc 6 1, 3) := by decide +kernel
theorem dX7_edge_99 : decode cX7_edge 99 = .ok (.goto (-73), 3) := by decide +kernel
theorem dX7_edge_102 : decode cX7_edge 102 = .ok (.iinc 5 1, 3) := by decide +kernel
theorem dX7_edge_105 : decode cX7_edge 105 = .ok (.goto (-89), 3) := by decide +kernel
theorem dX7_edge_108 : decode cX7_edge 108 = .ok (.iload 4, 2) := by decide +kernel
theorem dX7_edge_110 : decode cX7_edge 110 = .ok (.ireturn, 1) := by decide +kernel
theorem dX7_isFree_0 : decode cX7_isFree 0 = .ok (.iconst 0, 1) := by decide +kernel
theorem dX7_isFree_1 : decode cX7_isFree 1 = .ok (.istore_n 3, 1) := by decide +kernel
theorem dX7_isFree_2 : decode cX7_isFree 2 = .ok (.iload_n 3, 1) := by decide +kernel
theorem dX7_isFree_3 : decode cX7_isFree 3 = .ok (.iconst 3, 1) := by decide +kernel
theorem dX7_isFree_4 : decode cX7_isFree 4 = .ok (.if_icmp .ge 53, 3) := by decide +kernel
theorem dX7_isFree_7 : decode cX7_isFree 7 = .ok (.aload_n 0, 1) := by decide +kernel
theorem dX7_isFree_8 : decode cX7_isFree 8 = .ok (.iload_n 2, 1) := by decide +kernel
theorem dX7_isFree_9 : decode cX7_isFree 9 = .ok (.iload_n 3, 1) := by decide +kernel
theorem dX7_isFree_10 : decode cX7_isFree 10 = .ok (.iconst 1, 1) := by decide +kernel
theorem dX7_isFree_11 : decode cX7_isFree 11 = .ok (.invokevirtual 154, 3) := by decide +kernel
theorem dX7_isFree_14 : decode cX7_isFree 14 = .ok (.aload_n 0, 1) := by decide +kernel
theorem dX7_isFree_15 : decode cX7_isFree 15 = .ok (.iload_n 1, 1) := by decide +kernel
theorem dX7_isFree_16 : decode cX7_isFree 16 = .ok (.iload_n 2, 1) := by decide +kernel
theorem dX7_isFree_17 : decode cX7_isFree 17 = .ok (.iconst (-1), 1) := by decide +kernel
theorem dX7_isFree_18 : decode cX7_isFree 18 = .ok (.ixor, 1) := by decide +kernel
theorem dX7_isFree_19 : decode cX7_isFree 19 = .ok (.iand, 1) := by decide +kernel
theorem dX7_isFree_20 : decode cX7_isFree 20 = .ok (.iload_n 3, 1) := by decide +kernel
theorem dX7_isFree_21 : decode cX7_isFree 21 = .ok (.iconst 0, 1) := by decide +kernel
theorem dX7_isFree_22 : decode cX7_isFree 22 = .ok (.invokevirtual 154, 3) := by decide +kernel
theorem dX7_isFree_25 : decode cX7_isFree 25 = .ok (.if_icmp .lt 24, 3) := by decide +kernel
theorem dX7_isFree_28 : decode cX7_isFree 28 = .ok (.aload_n 0, 1) := by decide +kernel
theorem dX7_isFree_29 : decode cX7_isFree 29 = .ok (.iload_n 1, 1) := by decide +kernel
theorem dX7_isFree_30 : decode cX7_isFree 30 = .ok (.iload_n 2, 1) := by decide +kernel
theorem dX7_isFree_31 : decode cX7_isFree 31 = .ok (.iconst (-1), 1) := by decide +kernel
theorem dX7_isFree_32 : decode cX7_isFree 32 = .ok (.ixor, 1) := by decide +kernel
theorem dX7_isFree_33 : decode cX7_isFree 33 = .ok (.iand, 1) := by decide +kernel
theorem dX7_isFree_34 : decode cX7_isFree 34 = .ok (.iload_n 3, 1) := by decide +kernel
theorem dX7_isFree_35 : decode cX7_isFree 35 = .ok (.iconst 1, 1) := by decide +kernel
theorem dX7_isFree_36 : decode cX7_isFree 36 = .ok (.invokevirtual 154, 3) := by decide +kernel
theorem dX7_isFree_39 : decode cX7_isFree 39 = .ok (.aload_n 0, 1) := by decide +kernel
theorem dX7_isFree_40 : decode cX7_isFree 40 = .ok (.iload_n 2, 1) := by decide +kernel
theorem dX7_isFree_41 : decode cX7_isFree 41 = .ok (.iload_n 3, 1) := by decide +kernel
theorem dX7_isFree_42 : decode cX7_isFree 42 = .ok (.iconst 0, 1) := by decide +kernel
theorem dX7_isFree_43 : decode cX7_isFree 43 = .ok (.invokevirtual 154, 3) := by decide +kernel
theorem dX7_isFree_46 : decode cX7_isFree 46 = .ok (.if_icmp .ge 5, 3) := by decide +kernel
theorem dX7_isFree_49 : decode cX7_isFree 49 = .ok (.iconst 1, 1) := by decide +kernel
theorem dX7_isFree_50 : decode cX7_isFree 50 = .ok (.ireturn, 1) := by decide +kernel
theorem dX7_isFree_51 : decode cX7_isFree 51 = .ok (.iinc 3 1, 3) := by decide +kernel
theorem dX7_isFree_54 : decode cX7_isFree 54 = .ok (.goto (-52), 3) := by decide +kernel
theorem dX7_isFree_57 : decode cX7_isFree 57 = .ok (.iconst 0, 1) := by decide +kernel
theorem dX7_isFree_58 : decode cX7_isFree 58 = .ok (.ireturn, 1) := by decide +kernel
theorem dX7_isKnown_0 : decode cX7_isKnown 0 = .ok (.iconst 0, 1) := by decide +kernel
theorem dX7_isKnown_1 : decode cX7_isKnown 1 = .ok (.istore_n 2, 1) := by decide +kernel
theorem dX7_isKnown_2 : decode cX7_isKnown 2 = .ok (.iload_n 1, 1) := by decide +kernel
theorem dX7_isKnown_3 : decode cX7_isKnown 3 = .ok (.iload_n 2, 1) := by decide +kernel
theorem dX7_isKnown_4 : decode cX7_isKnown 4 = .ok (.ishr, 1) := by decide +kernel
theorem dX7_isKnown_5 : decode cX7_isKnown 5 = .ok (.iconst 1, 1) := by decide +kernel
theorem dX7_isKnown_6 : decode cX7_isKnown 6 = .ok (.iand, 1) := by decide +kernel
theorem dX7_isKnown_7 : decode cX7_isKnown 7 = .ok (.ifCond .ne 9, 3) := by decide +kernel
theorem dX7_isKnown_10 : decode cX7_isKnown 10 = .ok (.iinc 2 1, 3) := by decide +kernel
theorem dX7_isKnown_13 : decode cX7_isKnown 13 = .ok (.goto (-11), 3) := by decide +kernel
theorem dX7_isKnown_16 : decode cX7_isKnown 16 = .ok (.iconst 0, 1) := by decide +kernel
theorem dX7_isKnown_17 : decode cX7_isKnown 17 = .ok (.istore_n 3, 1) := by decide +kernel
theorem dX7_isKnown_18 : decode cX7_isKnown 18 = .ok (.iload_n 3, 1) := by decide +kernel
theorem dX7_isKnown_19 : decode cX7_isKnown 19 = .ok (.bipush 18, 2) := by decide +kernel
theorem dX7_isKnown_21 : decode cX7_isKnown 21 = .ok (.if_icmp .ge 49, 3) := by decide +kernel
theorem dX7_isKnown_24 : decode cX7_isKnown 24 = .ok (.aload_n 0, 1) := by decide +kernel
theorem dX7_isKnown_25 : decode cX7_isKnown 25 = .ok (.getfield 72, 3) := by decide +kernel
theorem dX7_isKnown_28 : decode cX7_isKnown 28 = .ok (.iload_n 3, 1) := by decide +kernel
theorem dX7_isKnown_29 : decode cX7_isKnown 29 = .ok (.iload_n 1, 1) := by decide +kernel
theorem dX7_isKnown_30 : decode cX7_isKnown 30 = .ok (.iload_n 3, 1) := by decide +kernel
theorem dX7_isKnown_31 : decode cX7_isKnown 31 = .ok (.iconst 3, 1) := by decide +kernel
theorem dX7_isKnown_32 : decode cX7_isKnown 32 = .ok (.idiv, 1) := by decide +kernel
theorem dX7_isKnown_33 : decode cX7_isKnown 33 = .ok (.ishr, 1) := by decide +kernel
theorem dX7_isKnown_34 : decode cX7_isKnown 34 = .ok (.iconst 1, 1) := by decide +kernel
theorem dX7_isKnown_35 : decode cX7_isKnown 35 = .ok (.iand, 1) := by decide +kernel
theorem dX7_isKnown_36 : decode cX7_isKnown 36 = .ok (.iconst 1, 1) := by decide +kernel
theorem dX7_isKnown_37 : decode cX7_isKnown 37 = .ok (.if_icmp .ne 25, 3) := by decide +kernel
theorem dX7_isKnown_40 : decode cX7_isKnown 40 = .ok (.aload_n 0, 1) := by decide +kernel
theorem dX7_isKnown_41 : decode cX7_isKnown 41 = .ok (.getfield 69, 3) := by decide +kernel
theorem dX7_isKnown_44 : decode cX7_isKnown 44 = .ok (.iload_n 3, 1) := by decide +kernel
theorem dX7_isKnown_45 : decode cX7_isKnown 45 = .ok (.iaload, 1) := by decide +kernel
theorem dX7_isKnown_46 : decode cX7_isKnown 46 = .ok (.aload_n 0, 1) := by decide +kernel
theorem dX7_isKnown_47 : decode cX7_isKnown 47 = .ok (.getfield 69, 3) := by decide +kernel
theorem dX7_isKnown_50 : decode cX7_isKnown 50 = .ok (.iconst 3, 1) := by decide +kernel
theorem dX7_isKnown_51 : decode cX7_isKnown 51 = .ok (.iload_n 2, 1) := by decide +kernel
theorem dX7_isKnown_52 : decode cX7_isKnown 52 = .ok (.imul, 1) := by decide +kernel
theorem dX7_isKnown_53 : decode cX7_isKnown 53 = .ok (.iload_n 3, 1) := by decide +kernel
theorem dX7_isKnown_54 : decode cX7_isKnown 54 = .ok (.iconst 3, 1) := by decide +kernel
theorem dX7_isKnown_55 : decode cX7_isKnown 55 = .ok (.irem, 1) := by decide +kernel
theorem dX7_isKnown_56 : decode cX7_isKnown 56 = .ok (.iadd, 1) := by decide +kernel
theorem dX7_isKnown_57 : decode cX7_isKnown 57 = .ok (.iaload, 1) := by decide +kernel
theorem dX7_isKnown_58 : decode cX7_isKnown 58 = .ok (.isub, 1) := by decide +kernel
theorem dX7_isKnown_59 : decode cX7_isKnown 59 = .ok (.goto 4, 3) := by decide +kernel
theorem dX7_isKnown_62 : decode cX7_isKnown 62 = .ok (.iconst 0, 1) := by decide +kernel
theorem dX7_isKnown_63 : decode cX7_isKnown 63 = .ok (.iastore, 1) := by decide +kernel
theorem dX7_isKnown_64 : decode cX7_isKnown 64 = .ok (.iinc 3 1, 3) := by decide +kernel
theorem dX7_isKnown_67 : decode cX7_isKnown 67 = .ok (.goto (-49), 3) := by decide +kernel
theorem dX7_isKnown_70 : decode cX7_isKnown 70 = .ok (.iconst 0, 1) := by decide +kernel
theorem dX7_isKnown_71 : decode cX7_isKnown 71 = .ok (.istore_n 3, 1) := by decide +kernel
theorem dX7_isKnown_72 : decode cX7_isKnown 72 = .ok (.iload_n 3, 1) := by decide +kernel
theorem dX7_isKnown_73 : decode cX7_isKnown 73 = .ok (.aload_n 0, 1) := by decide +kernel
theorem dX7_isKnown_74 : decode cX7_isKnown 74 = .ok (.getfield 157, 3) := by decide +kernel
theorem dX7_isKnown_77 : decode cX7_isKnown 77 = .ok (.if_icmp .ge 69, 3) := by decide +kernel
theorem dX7_isKnown_80 : decode cX7_isKnown 80 = .ok (.iconst 1, 1) := by decide +kernel
theorem dX7_isKnown_81 : decode cX7_isKnown 81 = .ok (.istore 4, 2) := by decide +kernel
theorem dX7_isKnown_83 : decode cX7_isKnown 83 = .ok (.iconst 0, 1) := by decide +kernel
theorem dX7_isKnown_84 : decode cX7_isKnown 84 = .ok (.istore 5, 2) := by decide +kernel
theorem dX7_isKnown_86 : decode cX7_isKnown 86 = .ok (.iload 5, 2) := by decide +kernel
theorem dX7_isKnown_88 : decode cX7_isKnown 88 = .ok (.bipush 18, 2) := by decide +kernel
theorem dX7_isKnown_90 : decode cX7_isKnown 90 = .ok (.if_icmp .ge 43, 3) := by decide +kernel
theorem dX7_isKnown_93 : decode cX7_isKnown 93 = .ok (.iload 4, 2) := by decide +kernel
theorem dX7_isKnown_95 : decode cX7_isKnown 95 = .ok (.ifCond .eq 38, 3) := by decide +kernel
theorem dX7_isKnown_98 : decode cX7_isKnown 98 = .ok (.aload_n 0, 1) := by decide +kernel
theorem dX7_isKnown_99 : decode cX7_isKnown 99 = .ok (.getfield 60, 3) := by decide +kernel
theorem dX7_isKnown_102 : decode cX7_isKnown 102 = .ok (.iload_n 3, 1) := by decide +kernel
theorem dX7_isKnown_103 : decode cX7_isKnown 103 = .ok (.bipush 18, 2) := by decide +kernel
theorem dX7_isKnown_105 : decode cX7_isKnown 105 = .ok (.imul, 1) := by decide +kernel
theorem dX7_isKnown_106 : decode cX7_isKnown 106 = .ok (.iload 5, 2) := by decide +kernel
theorem dX7_isKnown_108 : decode cX7_isKnown 108 = .ok (.iadd, 1) := by decide +kernel
theorem dX7_isKnown_109 : decode cX7_isKnown 109 = .ok (.iaload, 1) := by decide +kernel
theorem dX7_isKnown_110 : decode cX7_isKnown 110 = .ok (.aload_n 0, 1) := by decide +kernel
theorem dX7_isKnown_111 : decode cX7_isKnown 111 = .ok (.getfield 72, 3) := by decide +kernel
theorem dX7_isKnown_114 : decode cX7_isKnown 114 = .ok (.iload 5, 2) := by decide +kernel
theorem dX7_isKnown_116 : decode cX7_isKnown 116 = .ok (.iaload, 1) := by decide +kernel
theorem dX7_isKnown_117 : decode cX7_isKnown 117 = .ok (.if_icmp .ne 7, 3) := by decide +kernel
theorem dX7_isKnown_120 : decode cX7_isKnown 120 = .ok (.iconst 1, 1) := by decide +kernel
theorem dX7_isKnown_121 : decode cX7_isKnown 121 = .ok (.goto 4, 3) := by decide +kernel
theorem dX7_isKnown_124 : decode cX7_isKnown 124 = .ok (.iconst 0, 1) := by decide +kernel
theorem dX7_isKnown_125 : decode cX7_isKnown 125 = .ok (.istore 4, 2) := by decide +kernel
theorem dX7_isKnown_127 : decode cX7_isKnown 127 = .ok (.iinc 5 1, 3) := by decide +kernel
theorem dX7_isKnown_130 : decode cX7_isKnown 130 = .ok (.goto (-44), 3) := by decide +kernel
theorem dX7_isKnown_133 : decode cX7_isKnown 133 = .ok (.iload 4, 2) := by decide +kernel
theorem dX7_isKnown_135 : decode cX7_isKnown 135 = .ok (.ifCond .eq 5, 3) := by decide +kernel
theorem dX7_isKnown_138 : decode cX7_isKnown 138 = .ok (.iconst 1, 1) := by decide +kernel
theorem dX7_isKnown_139 : decode cX7_isKnown 139 = .ok (.ireturn, 1) := by decide +kernel
theorem dX7_isKnown_140 : decode cX7_isKnown 140 = .ok (.iinc 3 1, 3) := by decide +kernel
theorem dX7_isKnown_143 : decode cX7_isKnown 143 = .ok (.goto (-71), 3) := by decide +kernel
theorem dX7_isKnown_146 : decode cX7_isKnown 146 = .ok (.iconst 0, 1) := by decide +kernel
theorem dX7_isKnown_147 : decode cX7_isKnown 147 = .ok (.ireturn, 1) := by decide +kernel
theorem dX7_plan_0 : decode cX7_plan 0 = .ok (.iload_n 1, 1) := by decide +kernel
theorem dX7_plan_1 : decode cX7_plan 1 = .ok (.iconst 0, 1) := by decide +kernel
theorem dX7_plan_2 : decode cX7_plan 2 = .ok (.bipush 63, 2) := by decide +kernel
theorem dX7_plan_4 : decode cX7_plan 4 = .ok (.invokestatic 88, 3) := by decide +kernel
theorem dX7_plan_7 : decode cX7_plan 7 = .ok (.ifCond .eq 18, 3) := by decide +kernel
theorem dX7_plan_10 : decode cX7_plan 10 = .ok (.iload_n 2, 1) := by decide +kernel
theorem dX7_plan_11 : decode cX7_plan 11 = .ok (.iconst 1, 1) := by decide +kernel
theorem dX7_plan_12 : decode cX7_plan 12 = .ok (.sipush 300, 3) := by decide +kernel
theorem dX7_plan_15 : decode cX7_plan 15 = .ok (.invokestatic 88, 3) := by decide +kernel
theorem dX7_plan_18 : decode cX7_plan 18 = .ok (.ifCond .eq 7, 3) := by decide +kernel
theorem dX7_plan_21 : decode cX7_plan 21 = .ok (.iconst 1, 1) := by decide +kernel
theorem dX7_plan_22 : decode cX7_plan 22 = .ok (.goto 4, 3) := by decide +kernel
theorem dX7_plan_25 : decode cX7_plan 25 = .ok (.iconst 0, 1) := by decide +kernel
theorem dX7_plan_26 : decode cX7_plan 26 = .ok (.istore_n 3, 1) := by decide +kernel
theorem dX7_plan_27 : decode cX7_plan 27 = .ok (.iconst 0, 1) := by decide +kernel
theorem dX7_plan_28 : decode cX7_plan 28 = .ok (.istore 4, 2) := by decide +kernel
theorem dX7_plan_30 : decode cX7_plan 30 = .ok (.iconst 0, 1) := by decide +kernel
theorem dX7_plan_31 : decode cX7_plan 31 = .ok (.istore 5, 2) := by decide +kernel
theorem dX7_plan_33 : decode cX7_plan 33 = .ok (.iload 5, 2) := by decide +kernel
theorem dX7_plan_35 : decode cX7_plan 35 = .ok (.bipush 6, 2) := by decide +kernel
theorem dX7_plan_37 : decode cX7_plan 37 = .ok (.if_icmp .ge 46, 3) := by decide +kernel
theorem dX7_plan_40 : decode cX7_plan 40 = .ok (.iload_n 3, 1) := by decide +kernel
theorem dX7_plan_41 : decode cX7_plan 41 = .ok (.ifCond .eq 42, 3) := by decide +kernel
theorem dX7_plan_44 : decode cX7_plan 44 = .ok (.iload_n 1, 1) := by decide +kernel
theorem dX7_plan_45 : decode cX7_plan 45 = .ok (.iload 5, 2) := by decide +kernel
theorem dX7_plan_47 : decode cX7_plan 47 = .ok (.ishr, 1) := by decide +kernel
theorem dX7_plan_48 : decode cX7_plan 48 = .ok (.iconst 1, 1) := by decide +kernel
theorem dX7_plan_49 : decode cX7_plan 49 = .ok (.iand, 1) := by decide +kernel
theorem dX7_plan_50 : decode cX7_plan 50 = .ok (.ifCond .ne 6, 3) := by decide +kernel
theorem dX7_plan_53 : decode cX7_plan 53 = .ok (.goto 24, 3) := by decide +kernel
theorem dX7_plan_56 : decode cX7_plan 56 = .ok (.iinc 4 1, 3) := by decide +kernel
theorem dX7_plan_59 : decode cX7_plan 59 = .ok (.aload_n 0, 1) := by decide +kernel
theorem dX7_plan_60 : decode cX7_plan 60 = .ok (.getfield 33, 3) := by decide +kernel
theorem dX7_plan_63 : decode cX7_plan 63 = .ok (.iload 5, 2) := by decide +kernel
theorem dX7_plan_65 : decode cX7_plan 65 = .ok (.laload, 1) := by decide +kernel
theorem dX7_plan_66 : decode cX7_plan 66 = .ok (.lconst 0, 1) := by decide +kernel
theorem dX7_plan_67 : decode cX7_plan 67 = .ok (.lcmp, 1) := by decide +kernel
theorem dX7_plan_68 : decode cX7_plan 68 = .ok (.ifCond .eq 7, 3) := by decide +kernel
theorem dX7_plan_71 : decode cX7_plan 71 = .ok (.iconst 1, 1) := by decide +kernel
theorem dX7_plan_72 : decode cX7_plan 72 = .ok (.goto 4, 3) := by decide +kernel
theorem dX7_plan_75 : decode cX7_plan 75 = .ok (.iconst 0, 1) := by decide +kernel
theorem dX7_plan_76 : decode cX7_plan 76 = .ok (.istore_n 3, 1) := by decide +kernel
theorem dX7_plan_77 : decode cX7_plan 77 = .ok (.iinc 5 1, 3) := by decide +kernel
theorem dX7_plan_80 : decode cX7_plan 80 = .ok (.goto (-47), 3) := by decide +kernel
theorem dX7_plan_83 : decode cX7_plan 83 = .ok (.aload_n 0, 1) := by decide +kernel
theorem dX7_plan_84 : decode cX7_plan 84 = .ok (.iload_n 3, 1) := by decide +kernel
theorem dX7_plan_85 : decode cX7_plan 85 = .ok (.ifCond .eq 13, 3) := by decide +kernel
theorem dX7_plan_88 : decode cX7_plan 88 = .ok (.iload 4, 2) := by decide +kernel
theorem dX7_plan_90 : decode cX7_plan 90 = .ok (.iconst 1, 1) := by decide +kernel
theorem dX7_plan_91 : decode cX7_plan 91 = .ok (.if_icmp .le 7, 3) := by decide +kernel
theorem dX7_plan_94 : decode cX7_plan 94 = .ok (.iconst 1, 1) := by decide +kernel
theorem dX7_plan_95 : decode cX7_plan 95 = .ok (.goto 4, 3) := by decide +kernel
theorem dX7_plan_98 : decode cX7_plan 98 = .ok (.iconst 0, 1) := by decide +kernel
theorem dX7_plan_99 : decode cX7_plan 99 = .ok (.invokevirtual 96, 3) := by decide +kernel
theorem dX7_plan_102 : decode cX7_plan 102 = .ok (.ifCond .ne 5, 3) := by decide +kernel
theorem dX7_plan_105 : decode cX7_plan 105 = .ok (.iconst 0, 1) := by decide +kernel
theorem dX7_plan_106 : decode cX7_plan 106 = .ok (.ireturn, 1) := by decide +kernel
theorem dX7_plan_107 : decode cX7_plan 107 = .ok (.iconst 0, 1) := by decide +kernel
theorem dX7_plan_108 : decode cX7_plan 108 = .ok (.istore 5, 2) := by decide +kernel
theorem dX7_plan_110 : decode cX7_plan 110 = .ok (.iload 5, 2) := by decide +kernel
theorem dX7_plan_112 : decode cX7_plan 112 = .ok (.bipush 6, 2) := by decide +kernel
theorem dX7_plan_114 : decode cX7_plan 114 = .ok (.if_icmp .ge 119, 3) := by decide +kernel
theorem dX7_plan_117 : decode cX7_plan 117 = .ok (.aload_n 0, 1) := by decide +kernel
theorem dX7_plan_118 : decode cX7_plan 118 = .ok (.getfield 54, 3) := by decide +kernel
theorem dX7_plan_121 : decode cX7_plan 121 = .ok (.iload 5, 2) := by decide +kernel
theorem dX7_plan_123 : decode cX7_plan 123 = .ok (.iconst 0, 1) := by decide +kernel
theorem dX7_plan_124 : decode cX7_plan 124 = .ok (.iastore, 1) := by decide +kernel
theorem dX7_plan_125 : decode cX7_plan 125 = .ok (.iconst 0, 1) := by decide +kernel
theorem dX7_plan_126 : decode cX7_plan 126 = .ok (.istore 6, 2) := by decide +kernel
theorem dX7_plan_128 : decode cX7_plan 128 = .ok (.iload 6, 2) := by decide +kernel
theorem dX7_plan_130 : decode cX7_plan 130 = .ok (.bipush 64, 2) := by decide +kernel
theorem dX7_plan_132 : decode cX7_plan 132 = .ok (.if_icmp .ge 95, 3) := by decide +kernel
theorem dX7_plan_135 : decode cX7_plan 135 = .ok (.aload_n 0, 1) := by decide +kernel
theorem dX7_plan_136 : decode cX7_plan 136 = .ok (.getfield 33, 3) := by decide +kernel
theorem dX7_plan_139 : decode cX7_plan 139 = .ok (.iload 5, 2) := by decide +kernel
theorem dX7_plan_141 : decode cX7_plan 141 = .ok (.laload, 1) := by decide +kernel
theorem dX7_plan_142 : decode cX7_plan 142 = .ok (.iload 6, 2) := by decide +kernel
theorem dX7_plan_144 : decode cX7_plan 144 = .ok (.invokestatic 82, 3) := by decide +kernel
theorem dX7_plan_147 : decode cX7_plan 147 = .ok (.ifCond .ne 6, 3) := by decide +kernel
theorem dX7_plan_150 : decode cX7_plan 150 = .ok (.goto 71, 3) := by decide +kernel
theorem dX7_plan_153 : decode cX7_plan 153 = .ok (.iload 5, 2) := by decide +kernel
theorem dX7_plan_155 : decode cX7_plan 155 = .ok (.bipush 10, 2) := by decide +kernel
theorem dX7_plan_157 : decode cX7_plan 157 = .ok (.imul, 1) := by decide +kernel
theorem dX7_plan_158 : decode cX7_plan 158 = .ok (.aload_n 0, 1) := by decide +kernel
theorem dX7_plan_159 : decode cX7_plan 159 = .ok (.getfield 54, 3) := by decide +kernel
theorem dX7_plan_162 : decode cX7_plan 162 = .ok (.iload 5, 2) := by decide +kernel
theorem dX7_plan_164 : decode cX7_plan 164 = .ok (.iaload, 1) := by decide +kernel
theorem dX7_plan_165 : decode cX7_plan 165 = .ok (.iadd, 1) := by decide +kernel
theorem dX7_plan_166 : decode cX7_plan 166 = .ok (.iconst 3, 1) := by decide +kernel
theorem dX7_plan_167 : decode cX7_plan 167 = .ok (.imul, 1) := by decide +kernel
theorem dX7_plan_168 : decode cX7_plan 168 = .ok (.istore 7, 2) := by decide +kernel
theorem dX7_plan_170 : decode cX7_plan 170 = .ok (.aload_n 0, 1) := by decide +kernel
theorem dX7_plan_171 : decode cX7_plan 171 = .ok (.getfield 57, 3) := by decide +kernel
theorem dX7_plan_174 : decode cX7_plan 174 = .ok (.iload 7, 2) := by decide +kernel
theorem dX7_plan_176 : decode cX7_plan 176 = .ok (.iload 6, 2) := by decide +kernel
theorem dX7_plan_178 : decode cX7_plan 178 = .ok (.iconst 4, 1) := by decide +kernel
theorem dX7_plan_179 : decode cX7_plan 179 = .ok (.irem, 1) := by decide +kernel
theorem dX7_plan_180 : decode cX7_plan 180 = .ok (.iastore, 1) := by decide +kernel
theorem dX7_plan_181 : decode cX7_plan 181 = .ok (.aload_n 0, 1) := by decide +kernel
theorem dX7_plan_182 : decode cX7_plan 182 = .ok (.getfield 57, 3) := by decide +kernel
theorem dX7_plan_185 : decode cX7_plan 185 = .ok (.iload 7, 2) := by decide +kernel
theorem dX7_plan_187 : decode cX7_plan 187 = .ok (.iconst 1, 1) := by decide +kernel
theorem dX7_plan_188 : decode cX7_plan 188 = .ok (.iadd, 1) := by decide +kernel
theorem dX7_plan_189 : decode cX7_plan 189 = .ok (.iload 6, 2) := by decide +kernel
theorem dX7_plan_191 : decode cX7_plan 191 = .ok (.iconst 4, 1) := by decide +kernel
theorem dX7_plan_192 : decode cX7_plan 192 = .ok (.idiv, 1) := by decide +kernel
theorem dX7_plan_193 : decode cX7_plan 193 = .ok (.iconst 4, 1) := by decide +kernel
theorem dX7_plan_194 : decode cX7_plan 194 = .ok (.irem, 1) := by decide +kernel
theorem dX7_plan_195 : decode cX7_plan 195 = .ok (.iastore, 1) := by decide +kernel
theorem dX7_plan_196 : decode cX7_plan 196 = .ok (.aload_n 0, 1) := by decide +kernel
theorem dX7_plan_197 : decode cX7_plan 197 = .ok (.getfield 57, 3) := by decide +kernel
theorem dX7_plan_200 : decode cX7_plan 200 = .ok (.iload 7, 2) := by decide +kernel
theorem dX7_plan_202 : decode cX7_plan 202 = .ok (.iconst 2, 1) := by decide +kernel
theorem dX7_plan_203 : decode cX7_plan 203 = .ok (.iadd, 1) := by decide +kernel
theorem dX7_plan_204 : decode cX7_plan 204 = .ok (.iload 6, 2) := by decide +kernel
theorem dX7_plan_206 : decode cX7_plan 206 = .ok (.bipush 16, 2) := by decide +kernel
theorem dX7_plan_208 : decode cX7_plan 208 = .ok (.idiv, 1) := by decide +kernel
theorem dX7_plan_209 : decode cX7_plan 209 = .ok (.iastore, 1) := by decide +kernel
theorem dX7_plan_210 : decode cX7_plan 210 = .ok (.aload_n 0, 1) := by decide +kernel
theorem dX7_plan_211 : decode cX7_plan 211 = .ok (.getfield 54, 3) := by decide +kernel
theorem dX7_plan_214 : decode cX7_plan 214 = .ok (.iload 5, 2) := by decide +kernel
theorem dX7_plan_216 : decode cX7_plan 216 = .ok (.dup2, 1) := by decide +kernel
theorem dX7_plan_217 : decode cX7_plan 217 = .ok (.iaload, 1) := by decide +kernel
theorem dX7_plan_218 : decode cX7_plan 218 = .ok (.iconst 1, 1) := by decide +kernel
theorem dX7_plan_219 : decode cX7_plan 219 = .ok (.iadd, 1) := by decide +kernel
theorem dX7_plan_220 : decode cX7_plan 220 = .ok (.iastore, 1) := by decide +kernel
theorem dX7_plan_221 : decode cX7_plan 221 = .ok (.iinc 6 1, 3) := by decide +kernel
theorem dX7_plan_224 : decode cX7_plan 224 = .ok (.goto (-96), 3) := by decide +kernel
theorem dX7_plan_227 : decode cX7_plan 227 = .ok (.iinc 5 1, 3) := by decide +kernel
theorem dX7_plan_230 : decode cX7_plan 230 = .ok (.goto (-120), 3) := by decide +kernel
theorem dX7_plan_233 : decode cX7_plan 233 = .ok (.aload_n 0, 1) := by decide +kernel
theorem dX7_plan_234 : decode cX7_plan 234 = .ok (.iconst 0, 1) := by decide +kernel
theorem dX7_plan_235 : decode cX7_plan 235 = .ok (.putfield 160, 3) := by decide +kernel
theorem dX7_plan_238 : decode cX7_plan 238 = .ok (.aload_n 0, 1) := by decide +kernel
theorem dX7_plan_239 : decode cX7_plan 239 = .ok (.iconst 1, 1) := by decide +kernel
theorem dX7_plan_240 : decode cX7_plan 240 = .ok (.putfield 157, 3) := by decide +kernel
theorem dX7_plan_243 : decode cX7_plan 243 = .ok (.iconst 0, 1) := by decide +kernel
theorem dX7_plan_244 : decode cX7_plan 244 = .ok (.istore 5, 2) := by decide +kernel
theorem dX7_plan_246 : decode cX7_plan 246 = .ok (.iload 5, 2) := by decide +kernel
theorem dX7_plan_248 : decode cX7_plan 248 = .ok (.bipush 18, 2) := by decide +kernel
theorem dX7_plan_250 : decode cX7_plan 250 = .ok (.if_icmp .ge 17, 3) := by decide +kernel
theorem dX7_plan_253 : decode cX7_plan 253 = .ok (.aload_n 0, 1) := by decide +kernel
theorem dX7_plan_254 : decode cX7_plan 254 = .ok (.getfield 60, 3) := by decide +kernel
theorem dX7_plan_257 : decode cX7_plan 257 = .ok (.iload 5, 2) := by decide +kernel
theorem dX7_plan_259 : decode cX7_plan 259 = .ok (.iconst 0, 1) := by decide +kernel
theorem dX7_plan_260 : decode cX7_plan 260 = .ok (.iastore, 1) := by decide +kernel
theorem dX7_plan_261 : decode cX7_plan 261 = .ok (.iinc 5 1, 3) := by decide +kernel
theorem dX7_plan_264 : decode cX7_plan 264 = .ok (.goto (-18), 3) := by decide +kernel
theorem dX7_plan_267 : decode cX7_plan 267 = .ok (.aload_n 0, 1) := by decide +kernel
theorem dX7_plan_268 : decode cX7_plan 268 = .ok (.getfield 63, 3) := by decide +kernel
theorem dX7_plan_271 : decode cX7_plan 271 = .ok (.iconst 0, 1) := by decide +kernel
theorem dX7_plan_272 : decode cX7_plan 272 = .ok (.iconst (-1), 1) := by decide +kernel
theorem dX7_plan_273 : decode cX7_plan 273 = .ok (.iastore, 1) := by decide +kernel
theorem dX7_plan_274 : decode cX7_plan 274 = .ok (.iconst 0, 1) := by decide +kernel
theorem dX7_plan_275 : decode cX7_plan 275 = .ok (.istore 5, 2) := by decide +kernel
theorem dX7_plan_277 : decode cX7_plan 277 = .ok (.iload 5, 2) := by decide +kernel
theorem dX7_plan_279 : decode cX7_plan 279 = .ok (.aload_n 0, 1) := by decide +kernel
theorem dX7_plan_280 : decode cX7_plan 280 = .ok (.getfield 157, 3) := by decide +kernel
theorem dX7_plan_283 : decode cX7_plan 283 = .ok (.if_icmp .ge 74, 3) := by decide +kernel
theorem dX7_plan_286 : decode cX7_plan 286 = .ok (.iconst 1, 1) := by decide +kernel
theorem dX7_plan_287 : decode cX7_plan 287 = .ok (.istore 6, 2) := by decide +kernel
theorem dX7_plan_289 : decode cX7_plan 289 = .ok (.iload 6, 2) := by decide +kernel
theorem dX7_plan_291 : decode cX7_plan 291 = .ok (.iload_n 1, 1) := by decide +kernel
theorem dX7_plan_292 : decode cX7_plan 292 = .ok (.if_icmp .ge 59, 3) := by decide +kernel
theorem dX7_plan_295 : decode cX7_plan 295 = .ok (.iload 6, 2) := by decide +kernel
theorem dX7_plan_297 : decode cX7_plan 297 = .ok (.iload_n 1, 1) := by decide +kernel
theorem dX7_plan_298 : decode cX7_plan 298 = .ok (.iconst (-1), 1) := by decide +kernel
theorem dX7_plan_299 : decode cX7_plan 299 = .ok (.ixor, 1) := by decide +kernel
theorem dX7_plan_300 : decode cX7_plan 300 = .ok (.iand, 1) := by decide +kernel
theorem dX7_plan_301 : decode cX7_plan 301 = .ok (.ifCond .eq 6, 3) := by decide +kernel
theorem dX7_plan_304 : decode cX7_plan 304 = .ok (.goto 41, 3) := by decide +kernel
theorem dX7_plan_307 : decode cX7_plan 307 = .ok (.iconst 0, 1) := by decide +kernel
theorem dX7_plan_308 : decode cX7_plan 308 = .ok (.istore 7, 2) := by decide +kernel
theorem dX7_plan_310 : decode cX7_plan 310 = .ok (.iload 7, 2) := by decide +kernel
theorem dX7_plan_312 : decode cX7_plan 312 = .ok (.bipush 6, 2) := by decide +kernel
theorem dX7_plan_314 : decode cX7_plan 314 = .ok (.if_icmp .ge 31, 3) := by decide +kernel
theorem dX7_plan_317 : decode cX7_plan 317 = .ok (.aload_n 0, 1) := by decide +kernel
theorem dX7_plan_318 : decode cX7_plan 318 = .ok (.iload_n 1, 1) := by decide +kernel
theorem dX7_plan_319 : decode cX7_plan 319 = .ok (.iload_n 2, 1) := by decide +kernel
theorem dX7_plan_320 : decode cX7_plan 320 = .ok (.iload 5, 2) := by decide +kernel
theorem dX7_plan_322 : decode cX7_plan 322 = .ok (.iload 6, 2) := by decide +kernel
theorem dX7_plan_324 : decode cX7_plan 324 = .ok (.iload 7, 2) := by decide +kernel
theorem dX7_plan_326 : decode cX7_plan 326 = .ok (.invokevirtual 163, 3) := by decide +kernel
theorem dX7_plan_329 : decode cX7_plan 329 = .ok (.istore 8, 2) := by decide +kernel
theorem dX7_plan_331 : decode cX7_plan 331 = .ok (.iload 8, 2) := by decide +kernel
theorem dX7_plan_333 : decode cX7_plan 333 = .ok (.ifCond .eq 6, 3) := by decide +kernel
theorem dX7_plan_336 : decode cX7_plan 336 = .ok (.iload 8, 2) := by decide +kernel
theorem dX7_plan_338 : decode cX7_plan 338 = .ok (.ireturn, 1) := by decide +kernel
theorem dX7_plan_339 : decode cX7_plan 339 = .ok (.iinc 7 1, 3) := by decide +kernel
theorem dX7_plan_342 : decode cX7_plan 342 = .ok (.goto (-32), 3) := by decide +kernel
theorem dX7_plan_345 : decode cX7_plan 345 = .ok (.iinc 6 1, 3) := by decide +kernel
theorem dX7_plan_348 : decode cX7_plan 348 = .ok (.goto (-59), 3) := by decide +kernel
theorem dX7_plan_351 : decode cX7_plan 351 = .ok (.iinc 5 1, 3) := by decide +kernel
theorem dX7_plan_354 : decode cX7_plan 354 = .ok (.goto (-77), 3) := by decide +kernel
theorem dX7_plan_357 : decode cX7_plan 357 = .ok (.iconst (-1), 1) := by decide +kernel
theorem dX7_plan_358 : decode cX7_plan 358 = .ok (.ireturn, 1) := by decide +kernel
theorem dX7_run_0 : decode cX7_run 0 = .ok (.iconst 0, 1) := by decide +kernel
theorem dX7_run_1 : decode cX7_run 1 = .ok (.istore 6, 2) := by decide +kernel
theorem dX7_run_3 : decode cX7_run 3 = .ok (.iload 6, 2) := by decide +kernel
theorem dX7_run_5 : decode cX7_run 5 = .ok (.bipush 18, 2) := by decide +kernel
theorem dX7_run_7 : decode cX7_run 7 = .ok (.if_icmp .ge 28, 3) := by decide +kernel
theorem dX7_run_10 : decode cX7_run 10 = .ok (.aload_n 0, 1) := by decide +kernel
theorem dX7_run_11 : decode cX7_run 11 = .ok (.getfield 69, 3) := by decide +kernel
theorem dX7_run_14 : decode cX7_run 14 = .ok (.iload 6, 2) := by decide +kernel
theorem dX7_run_16 : decode cX7_run 16 = .ok (.aload_n 0, 1) := by decide +kernel
theorem dX7_run_17 : decode cX7_run 17 = .ok (.getfield 60, 3) := by decide +kernel
theorem dX7_run_20 : decode cX7_run 20 = .ok (.iload_n 3, 1) := by decide +kernel
theorem dX7_run_21 : decode cX7_run 21 = .ok (.bipush 18, 2) := by decide +kernel
theorem dX7_run_23 : decode cX7_run 23 = .ok (.imul, 1) := by decide +kernel
theorem dX7_run_24 : decode cX7_run 24 = .ok (.iload 6, 2) := by decide +kernel
theorem dX7_run_26 : decode cX7_run 26 = .ok (.iadd, 1) := by decide +kernel
theorem dX7_run_27 : decode cX7_run 27 = .ok (.iaload, 1) := by decide +kernel
theorem dX7_run_28 : decode cX7_run 28 = .ok (.iastore, 1) := by decide +kernel
theorem dX7_run_29 : decode cX7_run 29 = .ok (.iinc 6 1, 3) := by decide +kernel
theorem dX7_run_32 : decode cX7_run 32 = .ok (.goto (-29), 3) := by decide +kernel
theorem dX7_run_35 : decode cX7_run 35 = .ok (.iconst 0, 1) := by decide +kernel
theorem dX7_run_36 : decode cX7_run 36 = .ok (.istore 6, 2) := by decide +kernel
theorem dX7_run_38 : decode cX7_run 38 = .ok (.iinc 6 1, 3) := by decide +kernel
theorem dX7_run_41 : decode cX7_run 41 = .ok (.iconst 0, 1) := by decide +kernel
theorem dX7_run_42 : decode cX7_run 42 = .ok (.istore 7, 2) := by decide +kernel
theorem dX7_run_44 : decode cX7_run 44 = .ok (.iload 7, 2) := by decide +kernel
theorem dX7_run_46 : decode cX7_run 46 = .ok (.bipush 6, 2) := by decide +kernel
theorem dX7_run_48 : decode cX7_run 48 = .ok (.if_icmp .ge 61, 3) := by decide +kernel
theorem dX7_run_51 : decode cX7_run 51 = .ok (.iload 4, 2) := by decide +kernel
theorem dX7_run_53 : decode cX7_run 53 = .ok (.iload 7, 2) := by decide +kernel
theorem dX7_run_55 : decode cX7_run 55 = .ok (.ishr, 1) := by decide +kernel
theorem dX7_run_56 : decode cX7_run 56 = .ok (.iconst 1, 1) := by decide +kernel
theorem dX7_run_57 : decode cX7_run 57 = .ok (.iand, 1) := by decide +kernel
theorem dX7_run_58 : decode cX7_run 58 = .ok (.iconst 1, 1) := by decide +kernel
theorem dX7_run_59 : decode cX7_run 59 = .ok (.if_icmp .ne 44, 3) := by decide +kernel
theorem dX7_run_62 : decode cX7_run 62 = .ok (.aload_n 0, 1) := by decide +kernel
theorem dX7_run_63 : decode cX7_run 63 = .ok (.getfield 69, 3) := by decide +kernel
theorem dX7_run_66 : decode cX7_run 66 = .ok (.iconst 3, 1) := by decide +kernel
theorem dX7_run_67 : decode cX7_run 67 = .ok (.iload 7, 2) := by decide +kernel
theorem dX7_run_69 : decode cX7_run 69 = .ok (.imul, 1) := by decide +kernel
theorem dX7_run_70 : decode cX7_run 70 = .ok (.iload 5, 2) := by decide +kernel
theorem dX7_run_72 : decode cX7_run 72 = .ok (.iconst 2, 1) := by decide +kernel
theorem dX7_run_73 : decode cX7_run 73 = .ok (.idiv, 1) := by decide +kernel
theorem dX7_run_74 : decode cX7_run 74 = .ok (.iadd, 1) := by decide +kernel
theorem dX7_run_75 : decode cX7_run 75 = .ok (.aload_n 0, 1) := by decide +kernel
theorem dX7_run_76 : decode cX7_run 76 = .ok (.getfield 69, 3) := by decide +kernel
theorem dX7_run_79 : decode cX7_run 79 = .ok (.iconst 3, 1) := by decide +kernel
theorem dX7_run_80 : decode cX7_run 80 = .ok (.iload 7, 2) := by decide +kernel
theorem dX7_run_82 : decode cX7_run 82 = .ok (.imul, 1) := by decide +kernel
theorem dX7_run_83 : decode cX7_run 83 = .ok (.iload 5, 2) := by decide +kernel
theorem dX7_run_85 : decode cX7_run 85 = .ok (.iconst 2, 1) := by decide +kernel
theorem dX7_run_86 : decode cX7_run 86 = .ok (.idiv, 1) := by decide +kernel
theorem dX7_run_87 : decode cX7_run 87 = .ok (.iadd, 1) := by decide +kernel
theorem dX7_run_88 : decode cX7_run 88 = .ok (.iaload, 1) := by decide +kernel
theorem dX7_run_89 : decode cX7_run 89 = .ok (.iload 5, 2) := by decide +kernel
theorem dX7_run_91 : decode cX7_run 91 = .ok (.iconst 2, 1) := by decide +kernel
theorem dX7_run_92 : decode cX7_run 92 = .ok (.irem, 1) := by decide +kernel
theorem dX7_run_93 : decode cX7_run 93 = .ok (.ifCond .ne 7, 3) := by decide +kernel
theorem dX7_run_96 : decode cX7_run 96 = .ok (.iconst 1, 1) := by decide +kernel
theorem dX7_run_97 : decode cX7_run 97 = .ok (.goto 4, 3) := by decide +kernel
theorem dX7_run_100 : decode cX7_run 100 = .ok (.iconst (-1), 1) := by decide +kernel
theorem dX7_run_101 : decode cX7_run 101 = .ok (.iadd, 1) := by decide +kernel
theorem dX7_run_102 : decode cX7_run 102 = .ok (.iastore, 1) := by decide +kernel
theorem dX7_run_103 : decode cX7_run 103 = .ok (.iinc 7 1, 3) := by decide +kernel
theorem dX7_run_106 : decode cX7_run 106 = .ok (.goto (-62), 3) := by decide +kernel
theorem dX7_run_109 : decode cX7_run 109 = .ok (.aload_n 0, 1) := by decide +kernel
theorem dX7_run_110 : decode cX7_run 110 = .ok (.iload_n 1, 1) := by decide +kernel
theorem dX7_run_111 : decode cX7_run 111 = .ok (.iload 4, 2) := by decide +kernel
theorem dX7_run_113 : decode cX7_run 113 = .ok (.invokevirtual 167, 3) := by decide +kernel
theorem dX7_run_116 : decode cX7_run 116 = .ok (.ifCond .eq 5, 3) := by decide +kernel
theorem dX7_run_119 : decode cX7_run 119 = .ok (.iconst 0, 1) := by decide +kernel
theorem dX7_run_120 : decode cX7_run 120 = .ok (.ireturn, 1) := by decide +kernel
theorem dX7_run_121 : decode cX7_run 121 = .ok (.sipush 1000, 3) := by decide +kernel
theorem dX7_run_124 : decode cX7_run 124 = .ok (.iload 4, 2) := by decide +kernel
end
section
theorem dX7_run_126 : decode cX7_run 126 = .ok (.imul, 1) := by decide +kernel
theorem dX7_run_127 : decode cX7_run 127 = .ok (.bipush 100, 2) := by decide +kernel
theorem dX7_run_129 : decode cX7_run 129 = .ok (.iload 5, 2) := by decide +kernel
theorem dX7_run_131 : decode cX7_run 131 = .ok (.imul, 1) := by decide +kernel
theorem dX7_run_132 : decode cX7_run 132 = .ok (.iadd, 1) := by decide +kernel
theorem dX7_run_133 : decode cX7_run 133 = .ok (.iload 6, 2) := by decide +kernel
theorem dX7_run_135 : decode cX7_run 135 = .ok (.iadd, 1) := by decide +kernel
theorem dX7_run_136 : decode cX7_run 136 = .ok (.istore 7, 2) := by decide +kernel
theorem dX7_run_138 : decode cX7_run 138 = .ok (.aload_n 0, 1) := by decide +kernel
theorem dX7_run_139 : decode cX7_run 139 = .ok (.iload_n 1, 1) := by decide +kernel
theorem dX7_run_140 : decode cX7_run 140 = .ok (.iload 4, 2) := by decide +kernel
theorem dX7_run_142 : decode cX7_run 142 = .ok (.invokevirtual 170, 3) := by decide +kernel
theorem dX7_run_145 : decode cX7_run 145 = .ok (.ifCond .eq 15, 3) := by decide +kernel
theorem dX7_run_148 : decode cX7_run 148 = .ok (.aload_n 0, 1) := by decide +kernel
theorem dX7_run_149 : decode cX7_run 149 = .ok (.iload_n 3, 1) := by decide +kernel
theorem dX7_run_150 : decode cX7_run 150 = .ok (.iload 7, 2) := by decide +kernel
theorem dX7_run_152 : decode cX7_run 152 = .ok (.invokevirtual 173, 3) := by decide +kernel
theorem dX7_run_155 : decode cX7_run 155 = .ok (.aload_n 0, 1) := by decide +kernel
theorem dX7_run_156 : decode cX7_run 156 = .ok (.getfield 160, 3) := by decide +kernel
theorem dX7_run_159 : decode cX7_run 159 = .ok (.ireturn, 1) := by decide +kernel
theorem dX7_run_160 : decode cX7_run 160 = .ok (.aload_n 0, 1) := by decide +kernel
theorem dX7_run_161 : decode cX7_run 161 = .ok (.iload_n 1, 1) := by decide +kernel
theorem dX7_run_162 : decode cX7_run 162 = .ok (.invokevirtual 176, 3) := by decide +kernel
theorem dX7_run_165 : decode cX7_run 165 = .ok (.ifCond .eq 6, 3) := by decide +kernel
theorem dX7_run_168 : decode cX7_run 168 = .ok (.goto (-130), 3) := by decide +kernel
theorem dX7_run_171 : decode cX7_run 171 = .ok (.aload_n 0, 1) := by decide +kernel
theorem dX7_run_172 : decode cX7_run 172 = .ok (.getfield 157, 3) := by decide +kernel
theorem dX7_run_175 : decode cX7_run 175 = .ok (.iload_n 2, 1) := by decide +kernel
theorem dX7_run_176 : decode cX7_run 176 = .ok (.if_icmp .ne 6, 3) := by decide +kernel
theorem dX7_run_179 : decode cX7_run 179 = .ok (.bipush (-2), 2) := by decide +kernel
theorem dX7_run_181 : decode cX7_run 181 = .ok (.ireturn, 1) := by decide +kernel
theorem dX7_run_182 : decode cX7_run 182 = .ok (.iconst 0, 1) := by decide +kernel
theorem dX7_run_183 : decode cX7_run 183 = .ok (.istore 8, 2) := by decide +kernel
theorem dX7_run_185 : decode cX7_run 185 = .ok (.iload 8, 2) := by decide +kernel
theorem dX7_run_187 : decode cX7_run 187 = .ok (.bipush 18, 2) := by decide +kernel
theorem dX7_run_189 : decode cX7_run 189 = .ok (.if_icmp .ge 31, 3) := by decide +kernel
theorem dX7_run_192 : decode cX7_run 192 = .ok (.aload_n 0, 1) := by decide +kernel
theorem dX7_run_193 : decode cX7_run 193 = .ok (.getfield 60, 3) := by decide +kernel
theorem dX7_run_196 : decode cX7_run 196 = .ok (.aload_n 0, 1) := by decide +kernel
theorem dX7_run_197 : decode cX7_run 197 = .ok (.getfield 157, 3) := by decide +kernel
theorem dX7_run_200 : decode cX7_run 200 = .ok (.bipush 18, 2) := by decide +kernel
theorem dX7_run_202 : decode cX7_run 202 = .ok (.imul, 1) := by decide +kernel
theorem dX7_run_203 : decode cX7_run 203 = .ok (.iload 8, 2) := by decide +kernel
theorem dX7_run_205 : decode cX7_run 205 = .ok (.iadd, 1) := by decide +kernel
theorem dX7_run_206 : decode cX7_run 206 = .ok (.aload_n 0, 1) := by decide +kernel
theorem dX7_run_207 : decode cX7_run 207 = .ok (.getfield 72, 3) := by decide +kernel
theorem dX7_run_210 : decode cX7_run 210 = .ok (.iload 8, 2) := by decide +kernel
theorem dX7_run_212 : decode cX7_run 212 = .ok (.iaload, 1) := by decide +kernel
theorem dX7_run_213 : decode cX7_run 213 = .ok (.iastore, 1) := by decide +kernel
theorem dX7_run_214 : decode cX7_run 214 = .ok (.iinc 8 1, 3) := by decide +kernel
theorem dX7_run_217 : decode cX7_run 217 = .ok (.goto (-32), 3) := by decide +kernel
theorem dX7_run_220 : decode cX7_run 220 = .ok (.aload_n 0, 1) := by decide +kernel
theorem dX7_run_221 : decode cX7_run 221 = .ok (.getfield 63, 3) := by decide +kernel
theorem dX7_run_224 : decode cX7_run 224 = .ok (.aload_n 0, 1) := by decide +kernel
theorem dX7_run_225 : decode cX7_run 225 = .ok (.getfield 157, 3) := by decide +kernel
theorem dX7_run_228 : decode cX7_run 228 = .ok (.iload_n 3, 1) := by decide +kernel
theorem dX7_run_229 : decode cX7_run 229 = .ok (.iastore, 1) := by decide +kernel
theorem dX7_run_230 : decode cX7_run 230 = .ok (.aload_n 0, 1) := by decide +kernel
theorem dX7_run_231 : decode cX7_run 231 = .ok (.getfield 66, 3) := by decide +kernel
theorem dX7_run_234 : decode cX7_run 234 = .ok (.aload_n 0, 1) := by decide +kernel
theorem dX7_run_235 : decode cX7_run 235 = .ok (.getfield 157, 3) := by decide +kernel
theorem dX7_run_238 : decode cX7_run 238 = .ok (.iload 7, 2) := by decide +kernel
theorem dX7_run_240 : decode cX7_run 240 = .ok (.iastore, 1) := by decide +kernel
theorem dX7_run_241 : decode cX7_run 241 = .ok (.aload_n 0, 1) := by decide +kernel
theorem dX7_run_242 : decode cX7_run 242 = .ok (.dup, 1) := by decide +kernel
theorem dX7_run_243 : decode cX7_run 243 = .ok (.getfield 157, 3) := by decide +kernel
theorem dX7_run_246 : decode cX7_run 246 = .ok (.iconst 1, 1) := by decide +kernel
theorem dX7_run_247 : decode cX7_run 247 = .ok (.iadd, 1) := by decide +kernel
theorem dX7_run_248 : decode cX7_run 248 = .ok (.putfield 157, 3) := by decide +kernel
theorem dX7_run_251 : decode cX7_run 251 = .ok (.goto (-213), 3) := by decide +kernel
theorem dX7_finish_0 : decode cX7_finish 0 = .ok (.iconst 1, 1) := by decide +kernel
theorem dX7_finish_1 : decode cX7_finish 1 = .ok (.istore_n 3, 1) := by decide +kernel
theorem dX7_finish_2 : decode cX7_finish 2 = .ok (.iload_n 1, 1) := by decide +kernel
theorem dX7_finish_3 : decode cX7_finish 3 = .ok (.istore 4, 2) := by decide +kernel
theorem dX7_finish_5 : decode cX7_finish 5 = .ok (.aload_n 0, 1) := by decide +kernel
theorem dX7_finish_6 : decode cX7_finish 6 = .ok (.getfield 63, 3) := by decide +kernel
theorem dX7_finish_9 : decode cX7_finish 9 = .ok (.iload 4, 2) := by decide +kernel
theorem dX7_finish_11 : decode cX7_finish 11 = .ok (.iaload, 1) := by decide +kernel
theorem dX7_finish_12 : decode cX7_finish 12 = .ok (.ifCond .lt 18, 3) := by decide +kernel
theorem dX7_finish_15 : decode cX7_finish 15 = .ok (.iinc 3 1, 3) := by decide +kernel
theorem dX7_finish_18 : decode cX7_finish 18 = .ok (.aload_n 0, 1) := by decide +kernel
theorem dX7_finish_19 : decode cX7_finish 19 = .ok (.getfield 63, 3) := by decide +kernel
theorem dX7_finish_22 : decode cX7_finish 22 = .ok (.iload 4, 2) := by decide +kernel
theorem dX7_finish_24 : decode cX7_finish 24 = .ok (.iaload, 1) := by decide +kernel
theorem dX7_finish_25 : decode cX7_finish 25 = .ok (.istore 4, 2) := by decide +kernel
theorem dX7_finish_27 : decode cX7_finish 27 = .ok (.goto (-22), 3) := by decide +kernel
theorem dX7_finish_30 : decode cX7_finish 30 = .ok (.aload_n 0, 1) := by decide +kernel
theorem dX7_finish_31 : decode cX7_finish 31 = .ok (.iload_n 3, 1) := by decide +kernel
theorem dX7_finish_32 : decode cX7_finish 32 = .ok (.putfield 160, 3) := by decide +kernel
theorem dX7_finish_35 : decode cX7_finish 35 = .ok (.aload_n 0, 1) := by decide +kernel
theorem dX7_finish_36 : decode cX7_finish 36 = .ok (.getfield 75, 3) := by decide +kernel
theorem dX7_finish_39 : decode cX7_finish 39 = .ok (.iload_n 3, 1) := by decide +kernel
theorem dX7_finish_40 : decode cX7_finish 40 = .ok (.iconst 1, 1) := by decide +kernel
theorem dX7_finish_41 : decode cX7_finish 41 = .ok (.isub, 1) := by decide +kernel
theorem dX7_finish_42 : decode cX7_finish 42 = .ok (.iload_n 2, 1) := by decide +kernel
theorem dX7_finish_43 : decode cX7_finish 43 = .ok (.iastore, 1) := by decide +kernel
theorem dX7_finish_44 : decode cX7_finish 44 = .ok (.iload_n 3, 1) := by decide +kernel
theorem dX7_finish_45 : decode cX7_finish 45 = .ok (.iconst 2, 1) := by decide +kernel
theorem dX7_finish_46 : decode cX7_finish 46 = .ok (.isub, 1) := by decide +kernel
theorem dX7_finish_47 : decode cX7_finish 47 = .ok (.istore 4, 2) := by decide +kernel
theorem dX7_finish_49 : decode cX7_finish 49 = .ok (.iload_n 1, 1) := by decide +kernel
theorem dX7_finish_50 : decode cX7_finish 50 = .ok (.istore 5, 2) := by decide +kernel
theorem dX7_finish_52 : decode cX7_finish 52 = .ok (.aload_n 0, 1) := by decide +kernel
theorem dX7_finish_53 : decode cX7_finish 53 = .ok (.getfield 63, 3) := by decide +kernel
theorem dX7_finish_56 : decode cX7_finish 56 = .ok (.iload 5, 2) := by decide +kernel
theorem dX7_finish_58 : decode cX7_finish 58 = .ok (.iaload, 1) := by decide +kernel
theorem dX7_finish_59 : decode cX7_finish 59 = .ok (.ifCond .lt 32, 3) := by decide +kernel
theorem dX7_finish_62 : decode cX7_finish 62 = .ok (.aload_n 0, 1) := by decide +kernel
theorem dX7_finish_63 : decode cX7_finish 63 = .ok (.getfield 75, 3) := by decide +kernel
theorem dX7_finish_66 : decode cX7_finish 66 = .ok (.iload 4, 2) := by decide +kernel
theorem dX7_finish_68 : decode cX7_finish 68 = .ok (.aload_n 0, 1) := by decide +kernel
theorem dX7_finish_69 : decode cX7_finish 69 = .ok (.getfield 66, 3) := by decide +kernel
theorem dX7_finish_72 : decode cX7_finish 72 = .ok (.iload 5, 2) := by decide +kernel
theorem dX7_finish_74 : decode cX7_finish 74 = .ok (.iaload, 1) := by decide +kernel
theorem dX7_finish_75 : decode cX7_finish 75 = .ok (.iastore, 1) := by decide +kernel
theorem dX7_finish_76 : decode cX7_finish 76 = .ok (.iinc 4 (-1), 3) := by decide +kernel
theorem dX7_finish_79 : decode cX7_finish 79 = .ok (.aload_n 0, 1) := by decide +kernel
theorem dX7_finish_80 : decode cX7_finish 80 = .ok (.getfield 63, 3) := by decide +kernel
theorem dX7_finish_83 : decode cX7_finish 83 = .ok (.iload 5, 2) := by decide +kernel
theorem dX7_finish_85 : decode cX7_finish 85 = .ok (.iaload, 1) := by decide +kernel
theorem dX7_finish_86 : decode cX7_finish 86 = .ok (.istore 5, 2) := by decide +kernel
theorem dX7_finish_88 : decode cX7_finish 88 = .ok (.goto (-36), 3) := by decide +kernel
theorem dX7_finish_91 : decode cX7_finish 91 = .ok (.return_, 1) := by decide +kernel
theorem dX7_states_0 : decode cX7_states 0 = .ok (.aload_n 0, 1) := by decide +kernel
theorem dX7_states_1 : decode cX7_states 1 = .ok (.iconst 0, 1) := by decide +kernel
theorem dX7_states_2 : decode cX7_states 2 = .ok (.putfield 78, 3) := by decide +kernel
theorem dX7_states_5 : decode cX7_states 5 = .ok (.aload_n 0, 1) := by decide +kernel
theorem dX7_states_6 : decode cX7_states 6 = .ok (.getfield 157, 3) := by decide +kernel
theorem dX7_states_9 : decode cX7_states 9 = .ok (.ireturn, 1) := by decide +kernel
theorem dX7_move_0 : decode cX7_move 0 = .ok (.aload_n 0, 1) := by decide +kernel
theorem dX7_move_1 : decode cX7_move 1 = .ok (.iload_n 1, 1) := by decide +kernel
theorem dX7_move_2 : decode cX7_move 2 = .ok (.iconst 0, 1) := by decide +kernel
theorem dX7_move_3 : decode cX7_move 3 = .ok (.aload_n 0, 1) := by decide +kernel
theorem dX7_move_4 : decode cX7_move 4 = .ok (.getfield 160, 3) := by decide +kernel
theorem dX7_move_7 : decode cX7_move 7 = .ok (.iconst 1, 1) := by decide +kernel
theorem dX7_move_8 : decode cX7_move 8 = .ok (.isub, 1) := by decide +kernel
theorem dX7_move_9 : decode cX7_move 9 = .ok (.invokestatic 88, 3) := by decide +kernel
theorem dX7_move_12 : decode cX7_move 12 = .ok (.ifCond .eq 7, 3) := by decide +kernel
theorem dX7_move_15 : decode cX7_move 15 = .ok (.iconst 0, 1) := by decide +kernel
theorem dX7_move_16 : decode cX7_move 16 = .ok (.goto 4, 3) := by decide +kernel
theorem dX7_move_19 : decode cX7_move 19 = .ok (.iconst 1, 1) := by decide +kernel
theorem dX7_move_20 : decode cX7_move 20 = .ok (.putfield 78, 3) := by decide +kernel
theorem dX7_move_23 : decode cX7_move 23 = .ok (.aload_n 0, 1) := by decide +kernel
theorem dX7_move_24 : decode cX7_move 24 = .ok (.getfield 78, 3) := by decide +kernel
theorem dX7_move_27 : decode cX7_move 27 = .ok (.ifCond .le 7, 3) := by decide +kernel
theorem dX7_move_30 : decode cX7_move 30 = .ok (.iconst 0, 1) := by decide +kernel
theorem dX7_move_31 : decode cX7_move 31 = .ok (.goto 9, 3) := by decide +kernel
theorem dX7_move_34 : decode cX7_move 34 = .ok (.aload_n 0, 1) := by decide +kernel
theorem dX7_move_35 : decode cX7_move 35 = .ok (.getfield 75, 3) := by decide +kernel
theorem dX7_move_38 : decode cX7_move 38 = .ok (.iload_n 1, 1) := by decide +kernel
theorem dX7_move_39 : decode cX7_move 39 = .ok (.iaload, 1) := by decide +kernel
theorem dX7_move_40 : decode cX7_move 40 = .ok (.ireturn, 1) := by decide +kernel
theorem dJ6_bitCount_0f7a4_0 : decode cJ6_bitCount_0f7a4 0 = .ok (.iload_n 0, 1) := by decide +kernel
theorem dJ6_bitCount_0f7a4_1 : decode cJ6_bitCount_0f7a4 1 = .ok (.iload_n 0, 1) := by decide +kernel
theorem dJ6_bitCount_0f7a4_2 : decode cJ6_bitCount_0f7a4 2 = .ok (.iconst 1, 1) := by decide +kernel
theorem dJ6_bitCount_0f7a4_3 : decode cJ6_bitCount_0f7a4 3 = .ok (.iushr, 1) := by decide +kernel
theorem dJ6_bitCount_0f7a4_4 : decode cJ6_bitCount_0f7a4 4 = .ok (.ldc_w 265, 3) := by decide +kernel
theorem dJ6_bitCount_0f7a4_7 : decode cJ6_bitCount_0f7a4 7 = .ok (.iand, 1) := by decide +kernel
theorem dJ6_bitCount_0f7a4_8 : decode cJ6_bitCount_0f7a4 8 = .ok (.isub, 1) := by decide +kernel
theorem dJ6_bitCount_0f7a4_9 : decode cJ6_bitCount_0f7a4 9 = .ok (.istore_n 0, 1) := by decide +kernel
theorem dJ6_bitCount_0f7a4_10 : decode cJ6_bitCount_0f7a4 10 = .ok (.iload_n 0, 1) := by decide +kernel
theorem dJ6_bitCount_0f7a4_11 : decode cJ6_bitCount_0f7a4 11 = .ok (.ldc_w 266, 3) := by decide +kernel
theorem dJ6_bitCount_0f7a4_14 : decode cJ6_bitCount_0f7a4 14 = .ok (.iand, 1) := by decide +kernel
theorem dJ6_bitCount_0f7a4_15 : decode cJ6_bitCount_0f7a4 15 = .ok (.iload_n 0, 1) := by decide +kernel
theorem dJ6_bitCount_0f7a4_16 : decode cJ6_bitCount_0f7a4 16 = .ok (.iconst 2, 1) := by decide +kernel
theorem dJ6_bitCount_0f7a4_17 : decode cJ6_bitCount_0f7a4 17 = .ok (.iushr, 1) := by decide +kernel
theorem dJ6_bitCount_0f7a4_18 : decode cJ6_bitCount_0f7a4 18 = .ok (.ldc_w 266, 3) := by decide +kernel
theorem dJ6_bitCount_0f7a4_21 : decode cJ6_bitCount_0f7a4 21 = .ok (.iand, 1) := by decide +kernel
theorem dJ6_bitCount_0f7a4_22 : decode cJ6_bitCount_0f7a4 22 = .ok (.iadd, 1) := by decide +kernel
theorem dJ6_bitCount_0f7a4_23 : decode cJ6_bitCount_0f7a4 23 = .ok (.istore_n 0, 1) := by decide +kernel
theorem dJ6_bitCount_0f7a4_24 : decode cJ6_bitCount_0f7a4 24 = .ok (.iload_n 0, 1) := by decide +kernel
theorem dJ6_bitCount_0f7a4_25 : decode cJ6_bitCount_0f7a4 25 = .ok (.iload_n 0, 1) := by decide +kernel
theorem dJ6_bitCount_0f7a4_26 : decode cJ6_bitCount_0f7a4 26 = .ok (.iconst 4, 1) := by decide +kernel
theorem dJ6_bitCount_0f7a4_27 : decode cJ6_bitCount_0f7a4 27 = .ok (.iushr, 1) := by decide +kernel
theorem dJ6_bitCount_0f7a4_28 : decode cJ6_bitCount_0f7a4 28 = .ok (.iadd, 1) := by decide +kernel
theorem dJ6_bitCount_0f7a4_29 : decode cJ6_bitCount_0f7a4 29 = .ok (.ldc_w 267, 3) := by decide +kernel
theorem dJ6_bitCount_0f7a4_32 : decode cJ6_bitCount_0f7a4 32 = .ok (.iand, 1) := by decide +kernel
theorem dJ6_bitCount_0f7a4_33 : decode cJ6_bitCount_0f7a4 33 = .ok (.istore_n 0, 1) := by decide +kernel
theorem dJ6_bitCount_0f7a4_34 : decode cJ6_bitCount_0f7a4 34 = .ok (.iload_n 0, 1) := by decide +kernel
theorem dJ6_bitCount_0f7a4_35 : decode cJ6_bitCount_0f7a4 35 = .ok (.iload_n 0, 1) := by decide +kernel
theorem dJ6_bitCount_0f7a4_36 : decode cJ6_bitCount_0f7a4 36 = .ok (.bipush 8, 2) := by decide +kernel
theorem dJ6_bitCount_0f7a4_38 : decode cJ6_bitCount_0f7a4 38 = .ok (.iushr, 1) := by decide +kernel
theorem dJ6_bitCount_0f7a4_39 : decode cJ6_bitCount_0f7a4 39 = .ok (.iadd, 1) := by decide +kernel
theorem dJ6_bitCount_0f7a4_40 : decode cJ6_bitCount_0f7a4 40 = .ok (.istore_n 0, 1) := by decide +kernel
theorem dJ6_bitCount_0f7a4_41 : decode cJ6_bitCount_0f7a4 41 = .ok (.iload_n 0, 1) := by decide +kernel
theorem dJ6_bitCount_0f7a4_42 : decode cJ6_bitCount_0f7a4 42 = .ok (.iload_n 0, 1) := by decide +kernel
theorem dJ6_bitCount_0f7a4_43 : decode cJ6_bitCount_0f7a4 43 = .ok (.bipush 16, 2) := by decide +kernel
theorem dJ6_bitCount_0f7a4_45 : decode cJ6_bitCount_0f7a4 45 = .ok (.iushr, 1) := by decide +kernel
theorem dJ6_bitCount_0f7a4_46 : decode cJ6_bitCount_0f7a4 46 = .ok (.iadd, 1) := by decide +kernel
theorem dJ6_bitCount_0f7a4_47 : decode cJ6_bitCount_0f7a4 47 = .ok (.istore_n 0, 1) := by decide +kernel
theorem dJ6_bitCount_0f7a4_48 : decode cJ6_bitCount_0f7a4 48 = .ok (.iload_n 0, 1) := by decide +kernel
theorem dJ6_bitCount_0f7a4_49 : decode cJ6_bitCount_0f7a4 49 = .ok (.bipush 63, 2) := by decide +kernel
theorem dJ6_bitCount_0f7a4_51 : decode cJ6_bitCount_0f7a4 51 = .ok (.iand, 1) := by decide +kernel
theorem dJ6_bitCount_0f7a4_52 : decode cJ6_bitCount_0f7a4 52 = .ok (.ireturn, 1) := by decide +kernel
theorem dJ13_bitCount_95d88_0 : decode cJ13_bitCount_95d88 0 = .ok (.lload_n 0, 1) := by decide +kernel
theorem dJ13_bitCount_95d88_1 : decode cJ13_bitCount_95d88 1 = .ok (.lload_n 0, 1) := by decide +kernel
theorem dJ13_bitCount_95d88_2 : decode cJ13_bitCount_95d88 2 = .ok (.iconst 1, 1) := by decide +kernel
theorem dJ13_bitCount_95d88_3 : decode cJ13_bitCount_95d88 3 = .ok (.lushr, 1) := by decide +kernel
theorem dJ13_bitCount_95d88_4 : decode cJ13_bitCount_95d88 4 = .ok (.ldc2_w 314, 3) := by decide +kernel
theorem dJ13_bitCount_95d88_7 : decode cJ13_bitCount_95d88 7 = .ok (.land, 1) := by decide +kernel
theorem dJ13_bitCount_95d88_8 : decode cJ13_bitCount_95d88 8 = .ok (.lsub, 1) := by decide +kernel
theorem dJ13_bitCount_95d88_9 : decode cJ13_bitCount_95d88 9 = .ok (.lstore_n 0, 1) := by decide +kernel
theorem dJ13_bitCount_95d88_10 : decode cJ13_bitCount_95d88 10 = .ok (.lload_n 0, 1) := by decide +kernel
theorem dJ13_bitCount_95d88_11 : decode cJ13_bitCount_95d88 11 = .ok (.ldc2_w 316, 3) := by decide +kernel
theorem dJ13_bitCount_95d88_14 : decode cJ13_bitCount_95d88 14 = .ok (.land, 1) := by decide +kernel
theorem dJ13_bitCount_95d88_15 : decode cJ13_bitCount_95d88 15 = .ok (.lload_n 0, 1) := by decide +kernel
theorem dJ13_bitCount_95d88_16 : decode cJ13_bitCount_95d88 16 = .ok (.iconst 2, 1) := by decide +kernel
theorem dJ13_bitCount_95d88_17 : decode cJ13_bitCount_95d88 17 = .ok (.lushr, 1) := by decide +kernel
theorem dJ13_bitCount_95d88_18 : decode cJ13_bitCount_95d88 18 = .ok (.ldc2_w 316, 3) := by decide +kernel
theorem dJ13_bitCount_95d88_21 : decode cJ13_bitCount_95d88 21 = .ok (.land, 1) := by decide +kernel
theorem dJ13_bitCount_95d88_22 : decode cJ13_bitCount_95d88 22 = .ok (.ladd, 1) := by decide +kernel
theorem dJ13_bitCount_95d88_23 : decode cJ13_bitCount_95d88 23 = .ok (.lstore_n 0, 1) := by decide +kernel
theorem dJ13_bitCount_95d88_24 : decode cJ13_bitCount_95d88 24 = .ok (.lload_n 0, 1) := by decide +kernel
theorem dJ13_bitCount_95d88_25 : decode cJ13_bitCount_95d88 25 = .ok (.lload_n 0, 1) := by decide +kernel
theorem dJ13_bitCount_95d88_26 : decode cJ13_bitCount_95d88 26 = .ok (.iconst 4, 1) := by decide +kernel
theorem dJ13_bitCount_95d88_27 : decode cJ13_bitCount_95d88 27 = .ok (.lushr, 1) := by decide +kernel
theorem dJ13_bitCount_95d88_28 : decode cJ13_bitCount_95d88 28 = .ok (.ladd, 1) := by decide +kernel
theorem dJ13_bitCount_95d88_29 : decode cJ13_bitCount_95d88 29 = .ok (.ldc2_w 318, 3) := by decide +kernel
theorem dJ13_bitCount_95d88_32 : decode cJ13_bitCount_95d88 32 = .ok (.land, 1) := by decide +kernel
theorem dJ13_bitCount_95d88_33 : decode cJ13_bitCount_95d88 33 = .ok (.lstore_n 0, 1) := by decide +kernel
theorem dJ13_bitCount_95d88_34 : decode cJ13_bitCount_95d88 34 = .ok (.lload_n 0, 1) := by decide +kernel
theorem dJ13_bitCount_95d88_35 : decode cJ13_bitCount_95d88 35 = .ok (.lload_n 0, 1) := by decide +kernel
theorem dJ13_bitCount_95d88_36 : decode cJ13_bitCount_95d88 36 = .ok (.bipush 8, 2) := by decide +kernel
theorem dJ13_bitCount_95d88_38 : decode cJ13_bitCount_95d88 38 = .ok (.lushr, 1) := by decide +kernel
theorem dJ13_bitCount_95d88_39 : decode cJ13_bitCount_95d88 39 = .ok (.ladd, 1) := by decide +kernel
theorem dJ13_bitCount_95d88_40 : decode cJ13_bitCount_95d88 40 = .ok (.lstore_n 0, 1) := by decide +kernel
theorem dJ13_bitCount_95d88_41 : decode cJ13_bitCount_95d88 41 = .ok (.lload_n 0, 1) := by decide +kernel
theorem dJ13_bitCount_95d88_42 : decode cJ13_bitCount_95d88 42 = .ok (.lload_n 0, 1) := by decide +kernel
theorem dJ13_bitCount_95d88_43 : decode cJ13_bitCount_95d88 43 = .ok (.bipush 16, 2) := by decide +kernel
theorem dJ13_bitCount_95d88_45 : decode cJ13_bitCount_95d88 45 = .ok (.lushr, 1) := by decide +kernel
theorem dJ13_bitCount_95d88_46 : decode cJ13_bitCount_95d88 46 = .ok (.ladd, 1) := by decide +kernel
theorem dJ13_bitCount_95d88_47 : decode cJ13_bitCount_95d88 47 = .ok (.lstore_n 0, 1) := by decide +kernel
theorem dJ13_bitCount_95d88_48 : decode cJ13_bitCount_95d88 48 = .ok (.lload_n 0, 1) := by decide +kernel
theorem dJ13_bitCount_95d88_49 : decode cJ13_bitCount_95d88 49 = .ok (.lload_n 0, 1) := by decide +kernel
theorem dJ13_bitCount_95d88_50 : decode cJ13_bitCount_95d88 50 = .ok (.bipush 32, 2) := by decide +kernel
theorem dJ13_bitCount_95d88_52 : decode cJ13_bitCount_95d88 52 = .ok (.lushr, 1) := by decide +kernel
theorem dJ13_bitCount_95d88_53 : decode cJ13_bitCount_95d88 53 = .ok (.ladd, 1) := by decide +kernel
theorem dJ13_bitCount_95d88_54 : decode cJ13_bitCount_95d88 54 = .ok (.lstore_n 0, 1) := by decide +kernel
theorem dJ13_bitCount_95d88_55 : decode cJ13_bitCount_95d88 55 = .ok (.lload_n 0, 1) := by decide +kernel
theorem dJ13_bitCount_95d88_56 : decode cJ13_bitCount_95d88 56 = .ok (.l2i, 1) := by decide +kernel
theorem dJ13_bitCount_95d88_57 : decode cJ13_bitCount_95d88 57 = .ok (.bipush 127, 2) := by decide +kernel
theorem dJ13_bitCount_95d88_59 : decode cJ13_bitCount_95d88 59 = .ok (.iand, 1) := by decide +kernel
theorem dJ13_bitCount_95d88_60 : decode cJ13_bitCount_95d88 60 = .ok (.ireturn, 1) := by decide +kernel
theorem dJ9_max_7cf53_0 : decode cJ9_max_7cf53 0 = .ok (.iload_n 0, 1) := by decide +kernel
theorem dJ9_max_7cf53_1 : decode cJ9_max_7cf53 1 = .ok (.iload_n 1, 1) := by decide +kernel
theorem dJ9_max_7cf53_2 : decode cJ9_max_7cf53 2 = .ok (.if_icmp .lt 7, 3) := by decide +kernel
theorem dJ9_max_7cf53_5 : decode cJ9_max_7cf53 5 = .ok (.iload_n 0, 1) := by decide +kernel
theorem dJ9_max_7cf53_6 : decode cJ9_max_7cf53 6 = .ok (.goto 4, 3) := by decide +kernel
theorem dJ9_max_7cf53_9 : decode cJ9_max_7cf53 9 = .ok (.iload_n 1, 1) := by decide +kernel
theorem dJ9_max_7cf53_10 : decode cJ9_max_7cf53 10 = .ok (.ireturn, 1) := by decide +kernel
theorem dJ9_min_7cf53_0 : decode cJ9_min_7cf53 0 = .ok (.iload_n 0, 1) := by decide +kernel
theorem dJ9_min_7cf53_1 : decode cJ9_min_7cf53 1 = .ok (.iload_n 1, 1) := by decide +kernel
theorem dJ9_min_7cf53_2 : decode cJ9_min_7cf53 2 = .ok (.if_icmp .gt 7, 3) := by decide +kernel
theorem dJ9_min_7cf53_5 : decode cJ9_min_7cf53 5 = .ok (.iload_n 0, 1) := by decide +kernel
theorem dJ9_min_7cf53_6 : decode cJ9_min_7cf53 6 = .ok (.goto 4, 3) := by decide +kernel
theorem dJ9_min_7cf53_9 : decode cJ9_min_7cf53 9 = .ok (.iload_n 1, 1) := by decide +kernel
theorem dJ9_min_7cf53_10 : decode cJ9_min_7cf53 10 = .ok (.ireturn, 1) := by decide +kernel
theorem dJ7_fill_d0a16_0 : decode cJ7_fill_d0a16 0 = .ok (.iconst 0, 1) := by decide +kernel
theorem dJ7_fill_d0a16_1 : decode cJ7_fill_d0a16 1 = .ok (.istore_n 3, 1) := by decide +kernel
theorem dJ7_fill_d0a16_2 : decode cJ7_fill_d0a16 2 = .ok (.aload_n 0, 1) := by decide +kernel
theorem dJ7_fill_d0a16_3 : decode cJ7_fill_d0a16 3 = .ok (.arraylength, 1) := by decide +kernel
theorem dJ7_fill_d0a16_4 : decode cJ7_fill_d0a16 4 = .ok (.istore 4, 2) := by decide +kernel
theorem dJ7_fill_d0a16_6 : decode cJ7_fill_d0a16 6 = .ok (.iload_n 3, 1) := by decide +kernel
theorem dJ7_fill_d0a16_7 : decode cJ7_fill_d0a16 7 = .ok (.iload 4, 2) := by decide +kernel
theorem dJ7_fill_d0a16_9 : decode cJ7_fill_d0a16 9 = .ok (.if_icmp .ge 13, 3) := by decide +kernel
theorem dJ7_fill_d0a16_12 : decode cJ7_fill_d0a16 12 = .ok (.aload_n 0, 1) := by decide +kernel
theorem dJ7_fill_d0a16_13 : decode cJ7_fill_d0a16 13 = .ok (.iload_n 3, 1) := by decide +kernel
theorem dJ7_fill_d0a16_14 : decode cJ7_fill_d0a16 14 = .ok (.lload_n 1, 1) := by decide +kernel
theorem dJ7_fill_d0a16_15 : decode cJ7_fill_d0a16 15 = .ok (.lastore, 1) := by decide +kernel
theorem dJ7_fill_d0a16_16 : decode cJ7_fill_d0a16 16 = .ok (.iinc 3 1, 3) := by decide +kernel
theorem dJ7_fill_d0a16_19 : decode cJ7_fill_d0a16 19 = .ok (.goto (-13), 3) := by decide +kernel
theorem dJ7_fill_d0a16_22 : decode cJ7_fill_d0a16 22 = .ok (.return_, 1) := by decide +kernel
theorem dJ7_fill_53178_0 : decode cJ7_fill_53178 0 = .ok (.iconst 0, 1) := by decide +kernel
theorem dJ7_fill_53178_1 : decode cJ7_fill_53178 1 = .ok (.istore_n 2, 1) := by decide +kernel
theorem dJ7_fill_53178_2 : decode cJ7_fill_53178 2 = .ok (.aload_n 0, 1) := by decide +kernel
theorem dJ7_fill_53178_3 : decode cJ7_fill_53178 3 = .ok (.arraylength, 1) := by decide +kernel
theorem dJ7_fill_53178_4 : decode cJ7_fill_53178 4 = .ok (.istore_n 3, 1) := by decide +kernel
theorem dJ7_fill_53178_5 : decode cJ7_fill_53178 5 = .ok (.iload_n 2, 1) := by decide +kernel
theorem dJ7_fill_53178_6 : decode cJ7_fill_53178 6 = .ok (.iload_n 3, 1) := by decide +kernel
theorem dJ7_fill_53178_7 : decode cJ7_fill_53178 7 = .ok (.if_icmp .ge 13, 3) := by decide +kernel
theorem dJ7_fill_53178_10 : decode cJ7_fill_53178 10 = .ok (.aload_n 0, 1) := by decide +kernel
theorem dJ7_fill_53178_11 : decode cJ7_fill_53178 11 = .ok (.iload_n 2, 1) := by decide +kernel
theorem dJ7_fill_53178_12 : decode cJ7_fill_53178 12 = .ok (.iload_n 1, 1) := by decide +kernel
theorem dJ7_fill_53178_13 : decode cJ7_fill_53178 13 = .ok (.iastore, 1) := by decide +kernel
theorem dJ7_fill_53178_14 : decode cJ7_fill_53178 14 = .ok (.iinc 2 1, 3) := by decide +kernel
theorem dJ7_fill_53178_17 : decode cJ7_fill_53178 17 = .ok (.goto (-12), 3) := by decide +kernel
theorem dJ7_fill_53178_20 : decode cJ7_fill_53178 20 = .ok (.return_, 1) := by decide +kernel
theorem dL_cube_0 : decode cL_cube 0 = .ok (.aload 4, 2) := by decide +kernel
theorem dL_cube_2 : decode cL_cube 2 = .ok (.iconst 0, 1) := by decide +kernel
theorem dL_cube_3 : decode cL_cube 3 = .ok (.aload_n 0, 1) := by decide +kernel
theorem dL_cube_4 : decode cL_cube 4 = .ok (.iload_n 1, 1) := by decide +kernel
theorem dL_cube_5 : decode cL_cube 5 = .ok (.iload_n 2, 1) := by decide +kernel
theorem dL_cube_6 : decode cL_cube 6 = .ok (.iload_n 3, 1) := by decide +kernel
theorem dL_cube_7 : decode cL_cube 7 = .ok (.invokevirtual 7, 3) := by decide +kernel
theorem dL_cube_10 : decode cL_cube 10 = .ok (.i2l, 1) := by decide +kernel
theorem dL_cube_11 : decode cL_cube 11 = .ok (.lastore, 1) := by decide +kernel
theorem dL_cube_12 : decode cL_cube 12 = .ok (.goto 11, 3) := by decide +kernel
theorem dL_cube_15 : decode cL_cube 15 = .ok (.astore 5, 2) := by decide +kernel
theorem dL_cube_17 : decode cL_cube 17 = .ok (.iconst 1, 1) := by decide +kernel
theorem dL_cube_18 : decode cL_cube 18 = .ok (.ireturn, 1) := by decide +kernel
theorem dL_cube_19 : decode cL_cube 19 = .ok (.astore 5, 2) := by decide +kernel
theorem dL_cube_21 : decode cL_cube 21 = .ok (.iconst 2, 1) := by decide +kernel
theorem dL_cube_22 : decode cL_cube 22 = .ok (.ireturn, 1) := by decide +kernel
theorem dL_cube_23 : decode cL_cube 23 = .ok (.iconst 0, 1) := by decide +kernel
theorem dL_cube_24 : decode cL_cube 24 = .ok (.ireturn, 1) := by decide +kernel
theorem dL_mirror_0 : decode cL_mirror 0 = .ok (.aload_n 0, 1) := by decide +kernel
theorem dL_mirror_1 : decode cL_mirror 1 = .ok (.iload_n 1, 1) := by decide +kernel
theorem dL_mirror_2 : decode cL_mirror 2 = .ok (.iload_n 2, 1) := by decide +kernel
theorem dL_mirror_3 : decode cL_mirror 3 = .ok (.invokevirtual 17, 3) := by decide +kernel
theorem dL_mirror_6 : decode cL_mirror 6 = .ok (.goto 6, 3) := by decide +kernel
theorem dL_mirror_9 : decode cL_mirror 9 = .ok (.astore_n 3, 1) := by decide +kernel
theorem dL_mirror_10 : decode cL_mirror 10 = .ok (.iconst 1, 1) := by decide +kernel
theorem dL_mirror_11 : decode cL_mirror 11 = .ok (.ireturn, 1) := by decide +kernel
theorem dL_mirror_12 : decode cL_mirror 12 = .ok (.iconst 0, 1) := by decide +kernel
theorem dL_mirror_13 : decode cL_mirror 13 = .ok (.ireturn, 1) := by decide +kernel
theorem dL_shapes_0 : decode cL_shapes 0 = .ok (.aload_n 2, 1) := by decide +kernel
theorem dL_shapes_1 : decode cL_shapes 1 = .ok (.iconst 0, 1) := by decide +kernel
theorem dL_shapes_2 : decode cL_shapes 2 = .ok (.aload_n 0, 1) := by decide +kernel
theorem dL_shapes_3 : decode cL_shapes 3 = .ok (.iload_n 1, 1) := by decide +kernel
theorem dL_shapes_4 : decode cL_shapes 4 = .ok (.invokevirtual 21, 3) := by decide +kernel
theorem dL_shapes_7 : decode cL_shapes 7 = .ok (.i2l, 1) := by decide +kernel
theorem dL_shapes_8 : decode cL_shapes 8 = .ok (.lastore, 1) := by decide +kernel
theorem dL_shapes_9 : decode cL_shapes 9 = .ok (.goto 6, 3) := by decide +kernel
theorem dL_shapes_12 : decode cL_shapes 12 = .ok (.astore_n 3, 1) := by decide +kernel
theorem dL_shapes_13 : decode cL_shapes 13 = .ok (.iconst 1, 1) := by decide +kernel
theorem dL_shapes_14 : decode cL_shapes 14 = .ok (.ireturn, 1) := by decide +kernel
theorem dL_shapes_15 : decode cL_shapes 15 = .ok (.iconst 0, 1) := by decide +kernel
theorem dL_shapes_16 : decode cL_shapes 16 = .ok (.ireturn, 1) := by decide +kernel
theorem dL_shape_0 : decode cL_shape 0 = .ok (.aload_n 3, 1) := by decide +kernel
theorem dL_shape_1 : decode cL_shape 1 = .ok (.iconst 0, 1) := by decide +kernel
theorem dL_shape_2 : decode cL_shape 2 = .ok (.aload_n 0, 1) := by decide +kernel
theorem dL_shape_3 : decode cL_shape 3 = .ok (.iload_n 1, 1) := by decide +kernel
theorem dL_shape_4 : decode cL_shape 4 = .ok (.iload_n 2, 1) := by decide +kernel
theorem dL_shape_5 : decode cL_shape 5 = .ok (.invokevirtual 25, 3) := by decide +kernel
theorem dL_shape_8 : decode cL_shape 8 = .ok (.lastore, 1) := by decide +kernel
theorem dL_shape_9 : decode cL_shape 9 = .ok (.goto 11, 3) := by decide +kernel
theorem dL_shape_12 : decode cL_shape 12 = .ok (.astore 4, 2) := by decide +kernel
theorem dL_shape_14 : decode cL_shape 14 = .ok (.iconst 1, 1) := by decide +kernel
theorem dL_shape_15 : decode cL_shape 15 = .ok (.ireturn, 1) := by decide +kernel
theorem dL_shape_16 : decode cL_shape 16 = .ok (.astore 4, 2) := by decide +kernel
theorem dL_shape_18 : decode cL_shape 18 = .ok (.iconst 2, 1) := by decide +kernel
theorem dL_shape_19 : decode cL_shape 19 = .ok (.ireturn, 1) := by decide +kernel
theorem dL_shape_20 : decode cL_shape 20 = .ok (.iconst 0, 1) := by decide +kernel
theorem dL_shape_21 : decode cL_shape 21 = .ok (.ireturn, 1) := by decide +kernel
theorem dL_target_0 : decode cL_target 0 = .ok (.aload_n 0, 1) := by decide +kernel
theorem dL_target_1 : decode cL_target 1 = .ok (.iload_n 1, 1) := by decide +kernel
theorem dL_target_2 : decode cL_target 2 = .ok (.iload_n 2, 1) := by decide +kernel
theorem dL_target_3 : decode cL_target 3 = .ok (.invokevirtual 31, 3) := by decide +kernel
theorem dL_target_6 : decode cL_target 6 = .ok (.goto 6, 3) := by decide +kernel
theorem dL_target_9 : decode cL_target 9 = .ok (.astore_n 3, 1) := by decide +kernel
theorem dL_target_10 : decode cL_target 10 = .ok (.iconst 1, 1) := by decide +kernel
theorem dL_target_11 : decode cL_target 11 = .ok (.ireturn, 1) := by decide +kernel
theorem dL_target_12 : decode cL_target 12 = .ok (.iconst 0, 1) := by decide +kernel
theorem dL_target_13 : decode cL_target 13 = .ok (.ireturn, 1) := by decide +kernel
theorem dL_places_0 : decode cL_places 0 = .ok (.aload_n 2, 1) := by decide +kernel
theorem dL_places_1 : decode cL_places 1 = .ok (.iconst 0, 1) := by decide +kernel
theorem dL_places_2 : decode cL_places 2 = .ok (.aload_n 0, 1) := by decide +kernel
theorem dL_places_3 : decode cL_places 3 = .ok (.iload_n 1, 1) := by decide +kernel
theorem dL_places_4 : decode cL_places 4 = .ok (.invokevirtual 35, 3) := by decide +kernel
theorem dL_places_7 : decode cL_places 7 = .ok (.i2l, 1) := by decide +kernel
theorem dL_places_8 : decode cL_places 8 = .ok (.lastore, 1) := by decide +kernel
theorem dL_places_9 : decode cL_places 9 = .ok (.goto 6, 3) := by decide +kernel
theorem dL_places_12 : decode cL_places 12 = .ok (.astore_n 3, 1) := by decide +kernel
theorem dL_places_13 : decode cL_places 13 = .ok (.iconst 1, 1) := by decide +kernel
theorem dL_places_14 : decode cL_places 14 = .ok (.ireturn, 1) := by decide +kernel
theorem dL_places_15 : decode cL_places 15 = .ok (.iconst 0, 1) := by decide +kernel
theorem dL_places_16 : decode cL_places 16 = .ok (.ireturn, 1) := by decide +kernel
theorem dL_pack_0 : decode cL_pack 0 = .ok (.aload_n 2, 1) := by decide +kernel
theorem dL_pack_1 : decode cL_pack 1 = .ok (.iconst 0, 1) := by decide +kernel
theorem dL_pack_2 : decode cL_pack 2 = .ok (.aload_n 0, 1) := by decide +kernel
theorem dL_pack_3 : decode cL_pack 3 = .ok (.iload_n 1, 1) := by decide +kernel
theorem dL_pack_4 : decode cL_pack 4 = .ok (.invokevirtual 38, 3) := by decide +kernel
theorem dL_pack_7 : decode cL_pack 7 = .ok (.i2l, 1) := by decide +kernel
theorem dL_pack_8 : decode cL_pack 8 = .ok (.lastore, 1) := by decide +kernel
theorem dL_pack_9 : decode cL_pack 9 = .ok (.goto 6, 3) := by decide +kernel
theorem dL_pack_12 : decode cL_pack 12 = .ok (.astore_n 3, 1) := by decide +kernel
theorem dL_pack_13 : decode cL_pack 13 = .ok (.iconst 1, 1) := by decide +kernel
theorem dL_pack_14 : decode cL_pack 14 = .ok (.ireturn, 1) := by decide +kernel
theorem dL_pack_15 : decode cL_pack 15 = .ok (.iconst 0, 1) := by decide +kernel
theorem dL_pack_16 : decode cL_pack 16 = .ok (.ireturn, 1) := by decide +kernel
theorem dL_assemble_0 : decode cL_assemble 0 = .ok (.aload_n 3, 1) := by decide +kernel
theorem dL_assemble_1 : decode cL_assemble 1 = .ok (.iconst 0, 1) := by decide +kernel
theorem dL_assemble_2 : decode cL_assemble 2 = .ok (.aload_n 0, 1) := by decide +kernel
theorem dL_assemble_3 : decode cL_assemble 3 = .ok (.iload_n 1, 1) := by decide +kernel
theorem dL_assemble_4 : decode cL_assemble 4 = .ok (.iload_n 2, 1) := by decide +kernel
theorem dL_assemble_5 : decode cL_assemble 5 = .ok (.invokevirtual 41, 3) := by decide +kernel
theorem dL_assemble_8 : decode cL_assemble 8 = .ok (.ifCond .eq 7, 3) := by decide +kernel
theorem dL_assemble_11 : decode cL_assemble 11 = .ok (.lconst 1, 1) := by decide +kernel
theorem dL_assemble_12 : decode cL_assemble 12 = .ok (.goto 4, 3) := by decide +kernel
theorem dL_assemble_15 : decode cL_assemble 15 = .ok (.lconst 0, 1) := by decide +kernel
theorem dL_assemble_16 : decode cL_assemble 16 = .ok (.lastore, 1) := by decide +kernel
theorem dL_assemble_17 : decode cL_assemble 17 = .ok (.goto 7, 3) := by decide +kernel
theorem dL_assemble_20 : decode cL_assemble 20 = .ok (.astore 4, 2) := by decide +kernel
theorem dL_assemble_22 : decode cL_assemble 22 = .ok (.iconst 1, 1) := by decide +kernel
theorem dL_assemble_23 : decode cL_assemble 23 = .ok (.ireturn, 1) := by decide +kernel
theorem dL_assemble_24 : decode cL_assemble 24 = .ok (.iconst 0, 1) := by decide +kernel
theorem dL_assemble_25 : decode cL_assemble 25 = .ok (.ireturn, 1) := by decide +kernel
theorem dL_put_0 : decode cL_put 0 = .ok (.aload_n 0, 1) := by decide +kernel
theorem dL_put_1 : decode cL_put 1 = .ok (.iload_n 1, 1) := by decide +kernel
theorem dL_put_2 : decode cL_put 2 = .ok (.lload_n 2, 1) := by decide +kernel
theorem dL_put_3 : decode cL_put 3 = .ok (.invokevirtual 45, 3) := by decide +kernel
theorem dL_put_6 : decode cL_put 6 = .ok (.goto 11, 3) := by decide +kernel
theorem dL_put_9 : decode cL_put 9 = .ok (.astore 4, 2) := by decide +kernel
theorem dL_put_11 : decode cL_put 11 = .ok (.iconst 1, 1) := by decide +kernel
theorem dL_put_12 : decode cL_put 12 = .ok (.ireturn, 1) := by decide +kernel
theorem dL_put_13 : decode cL_put 13 = .ok (.astore 4, 2) := by decide +kernel
theorem dL_put_15 : decode cL_put 15 = .ok (.iconst 2, 1) := by decide +kernel
theorem dL_put_16 : decode cL_put 16 = .ok (.ireturn, 1) := by decide +kernel
theorem dL_put_17 : decode cL_put 17 = .ok (.iconst 0, 1) := by decide +kernel
theorem dL_put_18 : decode cL_put 18 = .ok (.ireturn, 1) := by decide +kernel
theorem dL_take_0 : decode cL_take 0 = .ok (.aload_n 0, 1) := by decide +kernel
theorem dL_take_1 : decode cL_take 1 = .ok (.iload_n 1, 1) := by decide +kernel
theorem dL_take_2 : decode cL_take 2 = .ok (.invokevirtual 49, 3) := by decide +kernel
theorem dL_take_5 : decode cL_take 5 = .ok (.goto 9, 3) := by decide +kernel
theorem dL_take_8 : decode cL_take 8 = .ok (.astore_n 2, 1) := by decide +kernel
theorem dL_take_9 : decode cL_take 9 = .ok (.iconst 1, 1) := by decide +kernel
theorem dL_take_10 : decode cL_take 10 = .ok (.ireturn, 1) := by decide +kernel
theorem dL_take_11 : decode cL_take 11 = .ok (.astore_n 2, 1) := by decide +kernel
theorem dL_take_12 : decode cL_take 12 = .ok (.iconst 2, 1) := by decide +kernel
theorem dL_take_13 : decode cL_take 13 = .ok (.ireturn, 1) := by decide +kernel
theorem dL_take_14 : decode cL_take 14 = .ok (.iconst 0, 1) := by decide +kernel
theorem dL_take_15 : decode cL_take 15 = .ok (.ireturn, 1) := by decide +kernel
theorem dL_cells_0 : decode cL_cells 0 = .ok (.aload_n 2, 1) := by decide +kernel
theorem dL_cells_1 : decode cL_cells 1 = .ok (.iconst 0, 1) := by decide +kernel
theorem dL_cells_2 : decode cL_cells 2 = .ok (.aload_n 0, 1) := by decide +kernel
theorem dL_cells_3 : decode cL_cells 3 = .ok (.iload_n 1, 1) := by decide +kernel
theorem dL_cells_4 : decode cL_cells 4 = .ok (.invokevirtual 53, 3) := by decide +kernel
theorem dL_cells_7 : decode cL_cells 7 = .ok (.lastore, 1) := by decide +kernel
theorem dL_cells_8 : decode cL_cells 8 = .ok (.goto 6, 3) := by decide +kernel
theorem dL_cells_11 : decode cL_cells 11 = .ok (.astore_n 3, 1) := by decide +kernel
theorem dL_cells_12 : decode cL_cells 12 = .ok (.iconst 1, 1) := by decide +kernel
theorem dL_cells_13 : decode cL_cells 13 = .ok (.ireturn, 1) := by decide +kernel
theorem dL_cells_14 : decode cL_cells 14 = .ok (.iconst 0, 1) := by decide +kernel
theorem dL_cells_15 : decode cL_cells 15 = .ok (.ireturn, 1) := by decide +kernel
theorem dL_plan_0 : decode cL_plan 0 = .ok (.aload_n 3, 1) := by decide +kernel
theorem dL_plan_1 : decode cL_plan 1 = .ok (.iconst 0, 1) := by decide +kernel
theorem dL_plan_2 : decode cL_plan 2 = .ok (.aload_n 0, 1) := by decide +kernel
theorem dL_plan_3 : decode cL_plan 3 = .ok (.iload_n 1, 1) := by decide +kernel
theorem dL_plan_4 : decode cL_plan 4 = .ok (.iload_n 2, 1) := by decide +kernel
theorem dL_plan_5 : decode cL_plan 5 = .ok (.invokevirtual 57, 3) := by decide +kernel
theorem dL_plan_8 : decode cL_plan 8 = .ok (.i2l, 1) := by decide +kernel
theorem dL_plan_9 : decode cL_plan 9 = .ok (.lastore, 1) := by decide +kernel
theorem dL_plan_10 : decode cL_plan 10 = .ok (.goto 7, 3) := by decide +kernel
theorem dL_plan_13 : decode cL_plan 13 = .ok (.astore 4, 2) := by decide +kernel
theorem dL_plan_15 : decode cL_plan 15 = .ok (.iconst 1, 1) := by decide +kernel
theorem dL_plan_16 : decode cL_plan 16 = .ok (.ireturn, 1) := by decide +kernel
theorem dL_plan_17 : decode cL_plan 17 = .ok (.iconst 0, 1) := by decide +kernel
theorem dL_plan_18 : decode cL_plan 18 = .ok (.ireturn, 1) := by decide +kernel
theorem dL_move_0 : decode cL_move 0 = .ok (.aload_n 2, 1) := by decide +kernel
theorem dL_move_1 : decode cL_move 1 = .ok (.iconst 0, 1) := by decide +kernel
theorem dL_move_2 : decode cL_move 2 = .ok (.aload_n 0, 1) := by decide +kernel
theorem dL_move_3 : decode cL_move 3 = .ok (.iload_n 1, 1) := by decide +kernel
theorem dL_move_4 : decode cL_move 4 = .ok (.invokevirtual 61, 3) := by decide +kernel
theorem dL_move_7 : decode cL_move 7 = .ok (.i2l, 1) := by decide +kernel
theorem dL_move_8 : decode cL_move 8 = .ok (.lastore, 1) := by decide +kernel
theorem dL_move_9 : decode cL_move 9 = .ok (.goto 6, 3) := by decide +kernel
theorem dL_move_12 : decode cL_move 12 = .ok (.astore_n 3, 1) := by decide +kernel
theorem dL_move_13 : decode cL_move 13 = .ok (.iconst 1, 1) := by decide +kernel
theorem dL_move_14 : decode cL_move 14 = .ok (.ireturn, 1) := by decide +kernel
theorem dL_move_15 : decode cL_move 15 = .ok (.iconst 0, 1) := by decide +kernel
theorem dL_move_16 : decode cL_move 16 = .ok (.ireturn, 1) := by decide +kernel
theorem dL_law_0 : decode cL_law 0 = .ok (.new 8, 3) := by decide +kernel
theorem dL_law_3 : decode cL_law 3 = .ok (.dup, 1) := by decide +kernel
theorem dL_law_4 : decode cL_law 4 = .ok (.invokespecial 64, 3) := by decide +kernel
theorem dL_law_7 : decode cL_law 7 = .ok (.astore_n 1, 1) := by decide +kernel
theorem dL_law_8 : decode cL_law 8 = .ok (.new 65, 3) := by decide +kernel
theorem dL_law_11 : decode cL_law 11 = .ok (.dup, 1) := by decide +kernel
theorem dL_law_12 : decode cL_law 12 = .ok (.invokespecial 67, 3) := by decide +kernel
theorem dL_law_15 : decode cL_law 15 = .ok (.astore_n 2, 1) := by decide +kernel
theorem dL_law_16 : decode cL_law 16 = .ok (.iconst 1, 1) := by decide +kernel
theorem dL_law_17 : decode cL_law 17 = .ok (.newarray .long, 2) := by decide +kernel
theorem dL_law_19 : decode cL_law 19 = .ok (.astore_n 3, 1) := by decide +kernel
theorem dL_law_20 : decode cL_law 20 = .ok (.iconst 0, 1) := by decide +kernel
theorem dL_law_21 : decode cL_law 21 = .ok (.istore 4, 2) := by decide +kernel
theorem dL_law_23 : decode cL_law 23 = .ok (.iload 4, 2) := by decide +kernel
theorem dL_law_25 : decode cL_law 25 = .ok (.aload_n 0, 1) := by decide +kernel
theorem dL_law_26 : decode cL_law 26 = .ok (.arraylength, 1) := by decide +kernel
theorem dL_law_27 : decode cL_law 27 = .ok (.iconst 4, 1) := by decide +kernel
theorem dL_law_28 : decode cL_law 28 = .ok (.isub, 1) := by decide +kernel
theorem dL_law_29 : decode cL_law 29 = .ok (.if_icmp .gt 928, 3) := by decide +kernel
theorem dL_law_32 : decode cL_law 32 = .ok (.aload_n 0, 1) := by decide +kernel
theorem dL_law_33 : decode cL_law 33 = .ok (.iload 4, 2) := by decide +kernel
theorem dL_law_35 : decode cL_law 35 = .ok (.iaload, 1) := by decide +kernel
theorem dL_law_36 : decode cL_law 36 = .ok (.bipush 15, 2) := by decide +kernel
theorem dL_law_38 : decode cL_law 38 = .ok (.iand, 1) := by decide +kernel
theorem dL_law_39 : decode cL_law 39 = .ok (.tableswitch 912 0 14 #[73, 169, 233, 289, 356, 404, 460, 516, 529, 604, 684, 720, 775, 843, 856], 73) := by decide +kernel
theorem dL_law_112 : decode cL_law 112 = .ok (.aload_n 1, 1) := by decide +kernel
theorem dL_law_113 : decode cL_law 113 = .ok (.aload_n 0, 1) := by decide +kernel
theorem dL_law_114 : decode cL_law 114 = .ok (.iload 4, 2) := by decide +kernel
theorem dL_law_116 : decode cL_law 116 = .ok (.iconst 1, 1) := by decide +kernel
theorem dL_law_117 : decode cL_law 117 = .ok (.iadd, 1) := by decide +kernel
theorem dL_law_118 : decode cL_law 118 = .ok (.iaload, 1) := by decide +kernel
theorem dL_law_119 : decode cL_law 119 = .ok (.aload_n 0, 1) := by decide +kernel
theorem dL_law_120 : decode cL_law 120 = .ok (.iload 4, 2) := by decide +kernel
theorem dL_law_122 : decode cL_law 122 = .ok (.iconst 2, 1) := by decide +kernel
theorem dL_law_123 : decode cL_law 123 = .ok (.iadd, 1) := by decide +kernel
theorem dL_law_124 : decode cL_law 124 = .ok (.iaload, 1) := by decide +kernel
theorem dL_law_125 : decode cL_law 125 = .ok (.aload_n 0, 1) := by decide +kernel
theorem dL_law_126 : decode cL_law 126 = .ok (.iload 4, 2) := by decide +kernel
theorem dL_law_128 : decode cL_law 128 = .ok (.iconst 3, 1) := by decide +kernel
theorem dL_law_129 : decode cL_law 129 = .ok (.iadd, 1) := by decide +kernel
theorem dL_law_130 : decode cL_law 130 = .ok (.iaload, 1) := by decide +kernel
theorem dL_law_131 : decode cL_law 131 = .ok (.ifCond .eq 7, 3) := by decide +kernel
theorem dL_law_134 : decode cL_law 134 = .ok (.iconst 1, 1) := by decide +kernel
theorem dL_law_135 : decode cL_law 135 = .ok (.goto 4, 3) := by decide +kernel
theorem dL_law_138 : decode cL_law 138 = .ok (.iconst 0, 1) := by decide +kernel
theorem dL_law_139 : decode cL_law 139 = .ok (.aload_n 3, 1) := by decide +kernel
theorem dL_law_140 : decode cL_law 140 = .ok (.invokestatic 68, 3) := by decide +kernel
theorem dL_law_143 : decode cL_law 143 = .ok (.istore 5, 2) := by decide +kernel
theorem dL_law_145 : decode cL_law 145 = .ok (.aload_n 2, 1) := by decide +kernel
theorem dL_law_146 : decode cL_law 146 = .ok (.aload_n 0, 1) := by decide +kernel
theorem dL_law_147 : decode cL_law 147 = .ok (.iload 4, 2) := by decide +kernel
theorem dL_law_149 : decode cL_law 149 = .ok (.iconst 1, 1) := by decide +kernel
theorem dL_law_150 : decode cL_law 150 = .ok (.iadd, 1) := by decide +kernel
theorem dL_law_151 : decode cL_law 151 = .ok (.iaload, 1) := by decide +kernel
theorem dL_law_152 : decode cL_law 152 = .ok (.aload_n 0, 1) := by decide +kernel
theorem dL_law_153 : decode cL_law 153 = .ok (.iload 4, 2) := by decide +kernel
theorem dL_law_155 : decode cL_law 155 = .ok (.iconst 2, 1) := by decide +kernel
theorem dL_law_156 : decode cL_law 156 = .ok (.iadd, 1) := by decide +kernel
theorem dL_law_157 : decode cL_law 157 = .ok (.iaload, 1) := by decide +kernel
theorem dL_law_158 : decode cL_law 158 = .ok (.aload_n 0, 1) := by decide +kernel
theorem dL_law_159 : decode cL_law 159 = .ok (.iload 4, 2) := by decide +kernel
theorem dL_law_161 : decode cL_law 161 = .ok (.iconst 3, 1) := by decide +kernel
theorem dL_law_162 : decode cL_law 162 = .ok (.iadd, 1) := by decide +kernel
theorem dL_law_163 : decode cL_law 163 = .ok (.iaload, 1) := by decide +kernel
theorem dL_law_164 : decode cL_law 164 = .ok (.ifCond .eq 7, 3) := by decide +kernel
theorem dL_law_167 : decode cL_law 167 = .ok (.iconst 1, 1) := by decide +kernel
theorem dL_law_168 : decode cL_law 168 = .ok (.goto 4, 3) := by decide +kernel
theorem dL_law_171 : decode cL_law 171 = .ok (.iconst 0, 1) := by decide +kernel
theorem dL_law_172 : decode cL_law 172 = .ok (.invokevirtual 73, 3) := by decide +kernel
theorem dL_law_175 : decode cL_law 175 = .ok (.istore 6, 2) := by decide +kernel
theorem dL_law_177 : decode cL_law 177 = .ok (.aload_n 2, 1) := by decide +kernel
theorem dL_law_178 : decode cL_law 178 = .ok (.invokevirtual 74, 3) := by decide +kernel
theorem dL_law_181 : decode cL_law 181 = .ok (.iload 5, 2) := by decide +kernel
theorem dL_law_183 : decode cL_law 183 = .ok (.if_icmp .eq 5, 3) := by decide +kernel
theorem dL_law_186 : decode cL_law 186 = .ok (.iconst 0, 1) := by decide +kernel
theorem dL_law_187 : decode cL_law 187 = .ok (.ireturn, 1) := by decide +kernel
theorem dL_law_188 : decode cL_law 188 = .ok (.iload 5, 2) := by decide +kernel
theorem dL_law_190 : decode cL_law 190 = .ok (.ifCond .ne 15, 3) := by decide +kernel
theorem dL_law_193 : decode cL_law 193 = .ok (.aload_n 3, 1) := by decide +kernel
theorem dL_law_194 : decode cL_law 194 = .ok (.iconst 0, 1) := by decide +kernel
theorem dL_law_195 : decode cL_law 195 = .ok (.laload, 1) := by decide +kernel
theorem dL_law_196 : decode cL_law 196 = .ok (.iload 6, 2) := by decide +kernel
theorem dL_law_198 : decode cL_law 198 = .ok (.i2l, 1) := by decide +kernel
theorem dL_law_199 : decode cL_law 199 = .ok (.lcmp, 1) := by decide +kernel
theorem dL_law_200 : decode cL_law 200 = .ok (.ifCond .eq 5, 3) := by decide +kernel
theorem dL_law_203 : decode cL_law 203 = .ok (.iconst 0, 1) := by decide +kernel
theorem dL_law_204 : decode cL_law 204 = .ok (.ireturn, 1) := by decide +kernel
theorem dL_law_205 : decode cL_law 205 = .ok (.goto 746, 3) := by decide +kernel
theorem dL_law_208 : decode cL_law 208 = .ok (.aload_n 1, 1) := by decide +kernel
theorem dL_law_209 : decode cL_law 209 = .ok (.aload_n 0, 1) := by decide +kernel
theorem dL_law_210 : decode cL_law 210 = .ok (.iload 4, 2) := by decide +kernel
theorem dL_law_212 : decode cL_law 212 = .ok (.iconst 1, 1) := by decide +kernel
theorem dL_law_213 : decode cL_law 213 = .ok (.iadd, 1) := by decide +kernel
theorem dL_law_214 : decode cL_law 214 = .ok (.iaload, 1) := by decide +kernel
theorem dL_law_215 : decode cL_law 215 = .ok (.aload_n 0, 1) := by decide +kernel
theorem dL_law_216 : decode cL_law 216 = .ok (.iload 4, 2) := by decide +kernel
theorem dL_law_218 : decode cL_law 218 = .ok (.iconst 2, 1) := by decide +kernel
theorem dL_law_219 : decode cL_law 219 = .ok (.iadd, 1) := by decide +kernel
theorem dL_law_220 : decode cL_law 220 = .ok (.iaload, 1) := by decide +kernel
theorem dL_law_221 : decode cL_law 221 = .ok (.ifCond .eq 7, 3) := by decide +kernel
theorem dL_law_224 : decode cL_law 224 = .ok (.iconst 1, 1) := by decide +kernel
theorem dL_law_225 : decode cL_law 225 = .ok (.goto 4, 3) := by decide +kernel
theorem dL_law_228 : decode cL_law 228 = .ok (.iconst 0, 1) := by decide +kernel
theorem dL_law_229 : decode cL_law 229 = .ok (.invokestatic 78, 3) := by decide +kernel
theorem dL_law_232 : decode cL_law 232 = .ok (.istore 5, 2) := by decide +kernel
theorem dL_law_234 : decode cL_law 234 = .ok (.aload_n 2, 1) := by decide +kernel
theorem dL_law_235 : decode cL_law 235 = .ok (.aload_n 0, 1) := by decide +kernel
theorem dL_law_236 : decode cL_law 236 = .ok (.iload 4, 2) := by decide +kernel
theorem dL_law_238 : decode cL_law 238 = .ok (.iconst 1, 1) := by decide +kernel
theorem dL_law_239 : decode cL_law 239 = .ok (.iadd, 1) := by decide +kernel
theorem dL_law_240 : decode cL_law 240 = .ok (.iaload, 1) := by decide +kernel
theorem dL_law_241 : decode cL_law 241 = .ok (.aload_n 0, 1) := by decide +kernel
theorem dL_law_242 : decode cL_law 242 = .ok (.iload 4, 2) := by decide +kernel
theorem dL_law_244 : decode cL_law 244 = .ok (.iconst 2, 1) := by decide +kernel
theorem dL_law_245 : decode cL_law 245 = .ok (.iadd, 1) := by decide +kernel
theorem dL_law_246 : decode cL_law 246 = .ok (.iaload, 1) := by decide +kernel
theorem dL_law_247 : decode cL_law 247 = .ok (.ifCond .eq 7, 3) := by decide +kernel
theorem dL_law_250 : decode cL_law 250 = .ok (.iconst 1, 1) := by decide +kernel
theorem dL_law_251 : decode cL_law 251 = .ok (.goto 4, 3) := by decide +kernel
theorem dL_law_254 : decode cL_law 254 = .ok (.iconst 0, 1) := by decide +kernel
theorem dL_law_255 : decode cL_law 255 = .ok (.invokevirtual 81, 3) := by decide +kernel
theorem dL_law_258 : decode cL_law 258 = .ok (.aload_n 2, 1) := by decide +kernel
theorem dL_law_259 : decode cL_law 259 = .ok (.invokevirtual 74, 3) := by decide +kernel
theorem dL_law_262 : decode cL_law 262 = .ok (.iload 5, 2) := by decide +kernel
theorem dL_law_264 : decode cL_law 264 = .ok (.if_icmp .eq 5, 3) := by decide +kernel
theorem dL_law_267 : decode cL_law 267 = .ok (.iconst 0, 1) := by decide +kernel
theorem dL_law_268 : decode cL_law 268 = .ok (.ireturn, 1) := by decide +kernel
theorem dL_law_269 : decode cL_law 269 = .ok (.goto 682, 3) := by decide +kernel
theorem dL_law_272 : decode cL_law 272 = .ok (.aload_n 1, 1) := by decide +kernel
theorem dL_law_273 : decode cL_law 273 = .ok (.aload_n 0, 1) := by decide +kernel
theorem dL_law_274 : decode cL_law 274 = .ok (.iload 4, 2) := by decide +kernel
theorem dL_law_276 : decode cL_law 276 = .ok (.iconst 1, 1) := by decide +kernel
theorem dL_law_277 : decode cL_law 277 = .ok (.iadd, 1) := by decide +kernel
theorem dL_law_278 : decode cL_law 278 = .ok (.iaload, 1) := by decide +kernel
theorem dL_law_279 : decode cL_law 279 = .ok (.aload_n 3, 1) := by decide +kernel
theorem dL_law_280 : decode cL_law 280 = .ok (.invokestatic 82, 3) := by decide +kernel
theorem dL_law_283 : decode cL_law 283 = .ok (.istore 5, 2) := by decide +kernel
theorem dL_law_285 : decode cL_law 285 = .ok (.aload_n 2, 1) := by decide +kernel
theorem dL_law_286 : decode cL_law 286 = .ok (.aload_n 0, 1) := by decide +kernel
theorem dL_law_287 : decode cL_law 287 = .ok (.iload 4, 2) := by decide +kernel
theorem dL_law_289 : decode cL_law 289 = .ok (.iconst 1, 1) := by decide +kernel
theorem dL_law_290 : decode cL_law 290 = .ok (.iadd, 1) := by decide +kernel
theorem dL_law_291 : decode cL_law 291 = .ok (.iaload, 1) := by decide +kernel
theorem dL_law_292 : decode cL_law 292 = .ok (.invokevirtual 85, 3) := by decide +kernel
theorem dL_law_295 : decode cL_law 295 = .ok (.istore 6, 2) := by decide +kernel
theorem dL_law_297 : decode cL_law 297 = .ok (.aload_n 2, 1) := by decide +kernel
theorem dL_law_298 : decode cL_law 298 = .ok (.invokevirtual 74, 3) := by decide +kernel
theorem dL_law_301 : decode cL_law 301 = .ok (.iload 5, 2) := by decide +kernel
theorem dL_law_303 : decode cL_law 303 = .ok (.if_icmp .eq 5, 3) := by decide +kernel
theorem dL_law_306 : decode cL_law 306 = .ok (.iconst 0, 1) := by decide +kernel
theorem dL_law_307 : decode cL_law 307 = .ok (.ireturn, 1) := by decide +kernel
theorem dL_law_308 : decode cL_law 308 = .ok (.iload 5, 2) := by decide +kernel
theorem dL_law_310 : decode cL_law 310 = .ok (.ifCond .ne 15, 3) := by decide +kernel
theorem dL_law_313 : decode cL_law 313 = .ok (.aload_n 3, 1) := by decide +kernel
theorem dL_law_314 : decode cL_law 314 = .ok (.iconst 0, 1) := by decide +kernel
theorem dL_law_315 : decode cL_law 315 = .ok (.laload, 1) := by decide +kernel
theorem dL_law_316 : decode cL_law 316 = .ok (.iload 6, 2) := by decide +kernel
theorem dL_law_318 : decode cL_law 318 = .ok (.i2l, 1) := by decide +kernel
theorem dL_law_319 : decode cL_law 319 = .ok (.lcmp, 1) := by decide +kernel
theorem dL_law_320 : decode cL_law 320 = .ok (.ifCond .eq 5, 3) := by decide +kernel
theorem dL_law_323 : decode cL_law 323 = .ok (.iconst 0, 1) := by decide +kernel
theorem dL_law_324 : decode cL_law 324 = .ok (.ireturn, 1) := by decide +kernel
theorem dL_law_325 : decode cL_law 325 = .ok (.goto 626, 3) := by decide +kernel
theorem dL_law_328 : decode cL_law 328 = .ok (.aload_n 1, 1) := by decide +kernel
theorem dL_law_329 : decode cL_law 329 = .ok (.aload_n 0, 1) := by decide +kernel
theorem dL_law_330 : decode cL_law 330 = .ok (.iload 4, 2) := by decide +kernel
theorem dL_law_332 : decode cL_law 332 = .ok (.iconst 1, 1) := by decide +kernel
theorem dL_law_333 : decode cL_law 333 = .ok (.iadd, 1) := by decide +kernel
theorem dL_law_334 : decode cL_law 334 = .ok (.iaload, 1) := by decide +kernel
theorem dL_law_335 : decode cL_law 335 = .ok (.aload_n 0, 1) := by decide +kernel
theorem dL_law_336 : decode cL_law 336 = .ok (.iload 4, 2) := by decide +kernel
theorem dL_law_338 : decode cL_law 338 = .ok (.iconst 2, 1) := by decide +kernel
theorem dL_law_339 : decode cL_law 339 = .ok (.iadd, 1) := by decide +kernel
theorem dL_law_340 : decode cL_law 340 = .ok (.iaload, 1) := by decide +kernel
theorem dL_law_341 : decode cL_law 341 = .ok (.aload_n 3, 1) := by decide +kernel
theorem dL_law_342 : decode cL_law 342 = .ok (.invokestatic 86, 3) := by decide +kernel
theorem dL_law_345 : decode cL_law 345 = .ok (.istore 5, 2) := by decide +kernel
theorem dL_law_347 : decode cL_law 347 = .ok (.aload_n 2, 1) := by decide +kernel
theorem dL_law_348 : decode cL_law 348 = .ok (.aload_n 0, 1) := by decide +kernel
theorem dL_law_349 : decode cL_law 349 = .ok (.iload 4, 2) := by decide +kernel
theorem dL_law_351 : decode cL_law 351 = .ok (.iconst 1, 1) := by decide +kernel
theorem dL_law_352 : decode cL_law 352 = .ok (.iadd, 1) := by decide +kernel
theorem dL_law_353 : decode cL_law 353 = .ok (.iaload, 1) := by decide +kernel
theorem dL_law_354 : decode cL_law 354 = .ok (.aload_n 0, 1) := by decide +kernel
theorem dL_law_355 : decode cL_law 355 = .ok (.iload 4, 2) := by decide +kernel
theorem dL_law_357 : decode cL_law 357 = .ok (.iconst 2, 1) := by decide +kernel
theorem dL_law_358 : decode cL_law 358 = .ok (.iadd, 1) := by decide +kernel
theorem dL_law_359 : decode cL_law 359 = .ok (.iaload, 1) := by decide +kernel
theorem dL_law_360 : decode cL_law 360 = .ok (.invokevirtual 89, 3) := by decide +kernel
theorem dL_law_363 : decode cL_law 363 = .ok (.lstore 6, 2) := by decide +kernel
theorem dL_law_365 : decode cL_law 365 = .ok (.aload_n 2, 1) := by decide +kernel
theorem dL_law_366 : decode cL_law 366 = .ok (.invokevirtual 74, 3) := by decide +kernel
theorem dL_law_369 : decode cL_law 369 = .ok (.iload 5, 2) := by decide +kernel
theorem dL_law_371 : decode cL_law 371 = .ok (.if_icmp .eq 5, 3) := by decide +kernel
theorem dL_law_374 : decode cL_law 374 = .ok (.iconst 0, 1) := by decide +kernel
theorem dL_law_375 : decode cL_law 375 = .ok (.ireturn, 1) := by decide +kernel
theorem dL_law_376 : decode cL_law 376 = .ok (.iload 5, 2) := by decide +kernel
theorem dL_law_378 : decode cL_law 378 = .ok (.ifCond .ne 14, 3) := by decide +kernel
theorem dL_law_381 : decode cL_law 381 = .ok (.aload_n 3, 1) := by decide +kernel
theorem dL_law_382 : decode cL_law 382 = .ok (.iconst 0, 1) := by decide +kernel
theorem dL_law_383 : decode cL_law 383 = .ok (.laload, 1) := by decide +kernel
theorem dL_law_384 : decode cL_law 384 = .ok (.lload 6, 2) := by decide +kernel
theorem dL_law_386 : decode cL_law 386 = .ok (.lcmp, 1) := by decide +kernel
theorem dL_law_387 : decode cL_law 387 = .ok (.ifCond .eq 5, 3) := by decide +kernel
theorem dL_law_390 : decode cL_law 390 = .ok (.iconst 0, 1) := by decide +kernel
theorem dL_law_391 : decode cL_law 391 = .ok (.ireturn, 1) := by decide +kernel
theorem dL_law_392 : decode cL_law 392 = .ok (.goto 559, 3) := by decide +kernel
theorem dL_law_395 : decode cL_law 395 = .ok (.aload_n 1, 1) := by decide +kernel
theorem dL_law_396 : decode cL_law 396 = .ok (.aload_n 0, 1) := by decide +kernel
theorem dL_law_397 : decode cL_law 397 = .ok (.iload 4, 2) := by decide +kernel
theorem dL_law_399 : decode cL_law 399 = .ok (.iconst 1, 1) := by decide +kernel
theorem dL_law_400 : decode cL_law 400 = .ok (.iadd, 1) := by decide +kernel
theorem dL_law_401 : decode cL_law 401 = .ok (.iaload, 1) := by decide +kernel
theorem dL_law_402 : decode cL_law 402 = .ok (.aload_n 0, 1) := by decide +kernel
theorem dL_law_403 : decode cL_law 403 = .ok (.iload 4, 2) := by decide +kernel
theorem dL_law_405 : decode cL_law 405 = .ok (.iconst 2, 1) := by decide +kernel
theorem dL_law_406 : decode cL_law 406 = .ok (.iadd, 1) := by decide +kernel
theorem dL_law_407 : decode cL_law 407 = .ok (.iaload, 1) := by decide +kernel
theorem dL_law_408 : decode cL_law 408 = .ok (.invokestatic 90, 3) := by decide +kernel
theorem dL_law_411 : decode cL_law 411 = .ok (.istore 5, 2) := by decide +kernel
theorem dL_law_413 : decode cL_law 413 = .ok (.aload_n 2, 1) := by decide +kernel
theorem dL_law_414 : decode cL_law 414 = .ok (.aload_n 0, 1) := by decide +kernel
theorem dL_law_415 : decode cL_law 415 = .ok (.iload 4, 2) := by decide +kernel
theorem dL_law_417 : decode cL_law 417 = .ok (.iconst 1, 1) := by decide +kernel
theorem dL_law_418 : decode cL_law 418 = .ok (.iadd, 1) := by decide +kernel
theorem dL_law_419 : decode cL_law 419 = .ok (.iaload, 1) := by decide +kernel
theorem dL_law_420 : decode cL_law 420 = .ok (.aload_n 0, 1) := by decide +kernel
theorem dL_law_421 : decode cL_law 421 = .ok (.iload 4, 2) := by decide +kernel
theorem dL_law_423 : decode cL_law 423 = .ok (.iconst 2, 1) := by decide +kernel
theorem dL_law_424 : decode cL_law 424 = .ok (.iadd, 1) := by decide +kernel
theorem dL_law_425 : decode cL_law 425 = .ok (.iaload, 1) := by decide +kernel
theorem dL_law_426 : decode cL_law 426 = .ok (.invokevirtual 93, 3) := by decide +kernel
theorem dL_law_429 : decode cL_law 429 = .ok (.aload_n 2, 1) := by decide +kernel
theorem dL_law_430 : decode cL_law 430 = .ok (.invokevirtual 74, 3) := by decide +kernel
theorem dL_law_433 : decode cL_law 433 = .ok (.iload 5, 2) := by decide +kernel
theorem dL_law_435 : decode cL_law 435 = .ok (.if_icmp .eq 5, 3) := by decide +kernel
theorem dL_law_438 : decode cL_law 438 = .ok (.iconst 0, 1) := by decide +kernel
theorem dL_law_439 : decode cL_law 439 = .ok (.ireturn, 1) := by decide +kernel
theorem dL_law_440 : decode cL_law 440 = .ok (.goto 511, 3) := by decide +kernel
theorem dL_law_443 : decode cL_law 443 = .ok (.aload_n 1, 1) := by decide +kernel
theorem dL_law_444 : decode cL_law 444 = .ok (.aload_n 0, 1) := by decide +kernel
theorem dL_law_445 : decode cL_law 445 = .ok (.iload 4, 2) := by decide +kernel
theorem dL_law_447 : decode cL_law 447 = .ok (.iconst 1, 1) := by decide +kernel
theorem dL_law_448 : decode cL_law 448 = .ok (.iadd, 1) := by decide +kernel
theorem dL_law_449 : decode cL_law 449 = .ok (.iaload, 1) := by decide +kernel
theorem dL_law_450 : decode cL_law 450 = .ok (.aload_n 3, 1) := by decide +kernel
theorem dL_law_451 : decode cL_law 451 = .ok (.invokestatic 94, 3) := by decide +kernel
theorem dL_law_454 : decode cL_law 454 = .ok (.istore 5, 2) := by decide +kernel
theorem dL_law_456 : decode cL_law 456 = .ok (.aload_n 2, 1) := by decide +kernel
theorem dL_law_457 : decode cL_law 457 = .ok (.aload_n 0, 1) := by decide +kernel
theorem dL_law_458 : decode cL_law 458 = .ok (.iload 4, 2) := by decide +kernel
theorem dL_law_460 : decode cL_law 460 = .ok (.iconst 1, 1) := by decide +kernel
theorem dL_law_461 : decode cL_law 461 = .ok (.iadd, 1) := by decide +kernel
theorem dL_law_462 : decode cL_law 462 = .ok (.iaload, 1) := by decide +kernel
theorem dL_law_463 : decode cL_law 463 = .ok (.invokevirtual 96, 3) := by decide +kernel
theorem dL_law_466 : decode cL_law 466 = .ok (.istore 6, 2) := by decide +kernel
theorem dL_law_468 : decode cL_law 468 = .ok (.aload_n 2, 1) := by decide +kernel
theorem dL_law_469 : decode cL_law 469 = .ok (.invokevirtual 74, 3) := by decide +kernel
theorem dL_law_472 : decode cL_law 472 = .ok (.iload 5, 2) := by decide +kernel
theorem dL_law_474 : decode cL_law 474 = .ok (.if_icmp .eq 5, 3) := by decide +kernel
theorem dL_law_477 : decode cL_law 477 = .ok (.iconst 0, 1) := by decide +kernel
theorem dL_law_478 : decode cL_law 478 = .ok (.ireturn, 1) := by decide +kernel
theorem dL_law_479 : decode cL_law 479 = .ok (.iload 5, 2) := by decide +kernel
theorem dL_law_481 : decode cL_law 481 = .ok (.ifCond .ne 15, 3) := by decide +kernel
theorem dL_law_484 : decode cL_law 484 = .ok (.aload_n 3, 1) := by decide +kernel
theorem dL_law_485 : decode cL_law 485 = .ok (.iconst 0, 1) := by decide +kernel
theorem dL_law_486 : decode cL_law 486 = .ok (.laload, 1) := by decide +kernel
theorem dL_law_487 : decode cL_law 487 = .ok (.iload 6, 2) := by decide +kernel
theorem dL_law_489 : decode cL_law 489 = .ok (.i2l, 1) := by decide +kernel
theorem dL_law_490 : decode cL_law 490 = .ok (.lcmp, 1) := by decide +kernel
theorem dL_law_491 : decode cL_law 491 = .ok (.ifCond .eq 5, 3) := by decide +kernel
theorem dL_law_494 : decode cL_law 494 = .ok (.iconst 0, 1) := by decide +kernel
theorem dL_law_495 : decode cL_law 495 = .ok (.ireturn, 1) := by decide +kernel
theorem dL_law_496 : decode cL_law 496 = .ok (.goto 455, 3) := by decide +kernel
theorem dL_law_499 : decode cL_law 499 = .ok (.aload_n 1, 1) := by decide +kernel
theorem dL_law_500 : decode cL_law 500 = .ok (.aload_n 0, 1) := by decide +kernel
theorem dL_law_501 : decode cL_law 501 = .ok (.iload 4, 2) := by decide +kernel
theorem dL_law_503 : decode cL_law 503 = .ok (.iconst 1, 1) := by decide +kernel
theorem dL_law_504 : decode cL_law 504 = .ok (.iadd, 1) := by decide +kernel
theorem dL_law_505 : decode cL_law 505 = .ok (.iaload, 1) := by decide +kernel
theorem dL_law_506 : decode cL_law 506 = .ok (.aload_n 3, 1) := by decide +kernel
theorem dL_law_507 : decode cL_law 507 = .ok (.invokestatic 97, 3) := by decide +kernel
theorem dL_law_510 : decode cL_law 510 = .ok (.istore 5, 2) := by decide +kernel
theorem dL_law_512 : decode cL_law 512 = .ok (.aload_n 2, 1) := by decide +kernel
theorem dL_law_513 : decode cL_law 513 = .ok (.aload_n 0, 1) := by decide +kernel
theorem dL_law_514 : decode cL_law 514 = .ok (.iload 4, 2) := by decide +kernel
theorem dL_law_516 : decode cL_law 516 = .ok (.iconst 1, 1) := by decide +kernel
theorem dL_law_517 : decode cL_law 517 = .ok (.iadd, 1) := by decide +kernel
theorem dL_law_518 : decode cL_law 518 = .ok (.iaload, 1) := by decide +kernel
theorem dL_law_519 : decode cL_law 519 = .ok (.invokevirtual 99, 3) := by decide +kernel
theorem dL_law_522 : decode cL_law 522 = .ok (.istore 6, 2) := by decide +kernel
theorem dL_law_524 : decode cL_law 524 = .ok (.aload_n 2, 1) := by decide +kernel
theorem dL_law_525 : decode cL_law 525 = .ok (.invokevirtual 74, 3) := by decide +kernel
theorem dL_law_528 : decode cL_law 528 = .ok (.iload 5, 2) := by decide +kernel
theorem dL_law_530 : decode cL_law 530 = .ok (.if_icmp .eq 5, 3) := by decide +kernel
theorem dL_law_533 : decode cL_law 533 = .ok (.iconst 0, 1) := by decide +kernel
theorem dL_law_534 : decode cL_law 534 = .ok (.ireturn, 1) := by decide +kernel
theorem dL_law_535 : decode cL_law 535 = .ok (.iload 5, 2) := by decide +kernel
theorem dL_law_537 : decode cL_law 537 = .ok (.ifCond .ne 15, 3) := by decide +kernel
theorem dL_law_540 : decode cL_law 540 = .ok (.aload_n 3, 1) := by decide +kernel
theorem dL_law_541 : decode cL_law 541 = .ok (.iconst 0, 1) := by decide +kernel
theorem dL_law_542 : decode cL_law 542 = .ok (.laload, 1) := by decide +kernel
theorem dL_law_543 : decode cL_law 543 = .ok (.iload 6, 2) := by decide +kernel
theorem dL_law_545 : decode cL_law 545 = .ok (.i2l, 1) := by decide +kernel
theorem dL_law_546 : decode cL_law 546 = .ok (.lcmp, 1) := by decide +kernel
theorem dL_law_547 : decode cL_law 547 = .ok (.ifCond .eq 5, 3) := by decide +kernel
theorem dL_law_550 : decode cL_law 550 = .ok (.iconst 0, 1) := by decide +kernel
theorem dL_law_551 : decode cL_law 551 = .ok (.ireturn, 1) := by decide +kernel
theorem dL_law_552 : decode cL_law 552 = .ok (.goto 399, 3) := by decide +kernel
theorem dL_law_555 : decode cL_law 555 = .ok (.aload_n 1, 1) := by decide +kernel
theorem dL_law_556 : decode cL_law 556 = .ok (.invokevirtual 100, 3) := by decide +kernel
theorem dL_law_559 : decode cL_law 559 = .ok (.aload_n 2, 1) := by decide +kernel
theorem dL_law_560 : decode cL_law 560 = .ok (.invokevirtual 103, 3) := by decide +kernel
theorem dL_law_563 : decode cL_law 563 = .ok (.if_icmp .eq 388, 3) := by decide +kernel
theorem dL_law_566 : decode cL_law 566 = .ok (.iconst 0, 1) := by decide +kernel
theorem dL_law_567 : decode cL_law 567 = .ok (.ireturn, 1) := by decide +kernel
theorem dL_law_568 : decode cL_law 568 = .ok (.aload_n 1, 1) := by decide +kernel
theorem dL_law_569 : decode cL_law 569 = .ok (.aload_n 0, 1) := by decide +kernel
theorem dL_law_570 : decode cL_law 570 = .ok (.iload 4, 2) := by decide +kernel
theorem dL_law_572 : decode cL_law 572 = .ok (.iconst 1, 1) := by decide +kernel
theorem dL_law_573 : decode cL_law 573 = .ok (.iadd, 1) := by decide +kernel
theorem dL_law_574 : decode cL_law 574 = .ok (.iaload, 1) := by decide +kernel
theorem dL_law_575 : decode cL_law 575 = .ok (.aload_n 0, 1) := by decide +kernel
theorem dL_law_576 : decode cL_law 576 = .ok (.iload 4, 2) := by decide +kernel
theorem dL_law_578 : decode cL_law 578 = .ok (.iconst 2, 1) := by decide +kernel
theorem dL_law_579 : decode cL_law 579 = .ok (.iadd, 1) := by decide +kernel
theorem dL_law_580 : decode cL_law 580 = .ok (.iaload, 1) := by decide +kernel
theorem dL_law_581 : decode cL_law 581 = .ok (.aload_n 3, 1) := by decide +kernel
theorem dL_law_582 : decode cL_law 582 = .ok (.invokestatic 104, 3) := by decide +kernel
theorem dL_law_585 : decode cL_law 585 = .ok (.istore 5, 2) := by decide +kernel
theorem dL_law_587 : decode cL_law 587 = .ok (.aload_n 2, 1) := by decide +kernel
theorem dL_law_588 : decode cL_law 588 = .ok (.aload_n 0, 1) := by decide +kernel
theorem dL_law_589 : decode cL_law 589 = .ok (.iload 4, 2) := by decide +kernel
theorem dL_law_591 : decode cL_law 591 = .ok (.iconst 1, 1) := by decide +kernel
theorem dL_law_592 : decode cL_law 592 = .ok (.iadd, 1) := by decide +kernel
theorem dL_law_593 : decode cL_law 593 = .ok (.iaload, 1) := by decide +kernel
theorem dL_law_594 : decode cL_law 594 = .ok (.aload_n 0, 1) := by decide +kernel
theorem dL_law_595 : decode cL_law 595 = .ok (.iload 4, 2) := by decide +kernel
theorem dL_law_597 : decode cL_law 597 = .ok (.iconst 2, 1) := by decide +kernel
theorem dL_law_598 : decode cL_law 598 = .ok (.iadd, 1) := by decide +kernel
theorem dL_law_599 : decode cL_law 599 = .ok (.iaload, 1) := by decide +kernel
theorem dL_law_600 : decode cL_law 600 = .ok (.invokevirtual 106, 3) := by decide +kernel
theorem dL_law_603 : decode cL_law 603 = .ok (.istore 6, 2) := by decide +kernel
theorem dL_law_605 : decode cL_law 605 = .ok (.aload_n 2, 1) := by decide +kernel
theorem dL_law_606 : decode cL_law 606 = .ok (.invokevirtual 74, 3) := by decide +kernel
theorem dL_law_609 : decode cL_law 609 = .ok (.iload 5, 2) := by decide +kernel
theorem dL_law_611 : decode cL_law 611 = .ok (.if_icmp .eq 5, 3) := by decide +kernel
theorem dL_law_614 : decode cL_law 614 = .ok (.iconst 0, 1) := by decide +kernel
theorem dL_law_615 : decode cL_law 615 = .ok (.ireturn, 1) := by decide +kernel
theorem dL_law_616 : decode cL_law 616 = .ok (.iload 5, 2) := by decide +kernel
theorem dL_law_618 : decode cL_law 618 = .ok (.ifCond .ne 22, 3) := by decide +kernel
theorem dL_law_621 : decode cL_law 621 = .ok (.aload_n 3, 1) := by decide +kernel
theorem dL_law_622 : decode cL_law 622 = .ok (.iconst 0, 1) := by decide +kernel
theorem dL_law_623 : decode cL_law 623 = .ok (.laload, 1) := by decide +kernel
theorem dL_law_624 : decode cL_law 624 = .ok (.iload 6, 2) := by decide +kernel
theorem dL_law_626 : decode cL_law 626 = .ok (.ifCond .eq 7, 3) := by decide +kernel
theorem dL_law_629 : decode cL_law 629 = .ok (.lconst 1, 1) := by decide +kernel
theorem dL_law_630 : decode cL_law 630 = .ok (.goto 4, 3) := by decide +kernel
theorem dL_law_633 : decode cL_law 633 = .ok (.lconst 0, 1) := by decide +kernel
theorem dL_law_634 : decode cL_law 634 = .ok (.lcmp, 1) := by decide +kernel
theorem dL_law_635 : decode cL_law 635 = .ok (.ifCond .eq 5, 3) := by decide +kernel
theorem dL_law_638 : decode cL_law 638 = .ok (.iconst 0, 1) := by decide +kernel
theorem dL_law_639 : decode cL_law 639 = .ok (.ireturn, 1) := by decide +kernel
theorem dL_law_640 : decode cL_law 640 = .ok (.goto 311, 3) := by decide +kernel
theorem dL_law_643 : decode cL_law 643 = .ok (.aload_n 1, 1) := by decide +kernel
theorem dL_law_644 : decode cL_law 644 = .ok (.aload_n 0, 1) := by decide +kernel
theorem dL_law_645 : decode cL_law 645 = .ok (.iload 4, 2) := by decide +kernel
theorem dL_law_647 : decode cL_law 647 = .ok (.iconst 1, 1) := by decide +kernel
theorem dL_law_648 : decode cL_law 648 = .ok (.iadd, 1) := by decide +kernel
theorem dL_law_649 : decode cL_law 649 = .ok (.iaload, 1) := by decide +kernel
theorem dL_law_650 : decode cL_law 650 = .ok (.aload_n 0, 1) := by decide +kernel
theorem dL_law_651 : decode cL_law 651 = .ok (.iload 4, 2) := by decide +kernel
theorem dL_law_653 : decode cL_law 653 = .ok (.iconst 2, 1) := by decide +kernel
theorem dL_law_654 : decode cL_law 654 = .ok (.iadd, 1) := by decide +kernel
theorem dL_law_655 : decode cL_law 655 = .ok (.iaload, 1) := by decide +kernel
theorem dL_law_656 : decode cL_law 656 = .ok (.i2l, 1) := by decide +kernel
theorem dL_law_657 : decode cL_law 657 = .ok (.bipush 32, 2) := by decide +kernel
theorem dL_law_659 : decode cL_law 659 = .ok (.lshl, 1) := by decide +kernel
theorem dL_law_660 : decode cL_law 660 = .ok (.aload_n 0, 1) := by decide +kernel
theorem dL_law_661 : decode cL_law 661 = .ok (.iload 4, 2) := by decide +kernel
theorem dL_law_663 : decode cL_law 663 = .ok (.iconst 3, 1) := by decide +kernel
theorem dL_law_664 : decode cL_law 664 = .ok (.iadd, 1) := by decide +kernel
theorem dL_law_665 : decode cL_law 665 = .ok (.iaload, 1) := by decide +kernel
theorem dL_law_666 : decode cL_law 666 = .ok (.i2l, 1) := by decide +kernel
theorem dL_law_667 : decode cL_law 667 = .ok (.ldc2_w 107, 3) := by decide +kernel
theorem dL_law_670 : decode cL_law 670 = .ok (.land, 1) := by decide +kernel
theorem dL_law_671 : decode cL_law 671 = .ok (.lor, 1) := by decide +kernel
theorem dL_law_672 : decode cL_law 672 = .ok (.invokestatic 109, 3) := by decide +kernel
theorem dL_law_675 : decode cL_law 675 = .ok (.istore 5, 2) := by decide +kernel
theorem dL_law_677 : decode cL_law 677 = .ok (.aload_n 2, 1) := by decide +kernel
theorem dL_law_678 : decode cL_law 678 = .ok (.aload_n 0, 1) := by decide +kernel
theorem dL_law_679 : decode cL_law 679 = .ok (.iload 4, 2) := by decide +kernel
theorem dL_law_681 : decode cL_law 681 = .ok (.iconst 1, 1) := by decide +kernel
theorem dL_law_682 : decode cL_law 682 = .ok (.iadd, 1) := by decide +kernel
theorem dL_law_683 : decode cL_law 683 = .ok (.iaload, 1) := by decide +kernel
theorem dL_law_684 : decode cL_law 684 = .ok (.aload_n 0, 1) := by decide +kernel
theorem dL_law_685 : decode cL_law 685 = .ok (.iload 4, 2) := by decide +kernel
theorem dL_law_687 : decode cL_law 687 = .ok (.iconst 2, 1) := by decide +kernel
theorem dL_law_688 : decode cL_law 688 = .ok (.iadd, 1) := by decide +kernel
theorem dL_law_689 : decode cL_law 689 = .ok (.iaload, 1) := by decide +kernel
theorem dL_law_690 : decode cL_law 690 = .ok (.i2l, 1) := by decide +kernel
theorem dL_law_691 : decode cL_law 691 = .ok (.bipush 32, 2) := by decide +kernel
theorem dL_law_693 : decode cL_law 693 = .ok (.lshl, 1) := by decide +kernel
theorem dL_law_694 : decode cL_law 694 = .ok (.aload_n 0, 1) := by decide +kernel
theorem dL_law_695 : decode cL_law 695 = .ok (.iload 4, 2) := by decide +kernel
theorem dL_law_697 : decode cL_law 697 = .ok (.iconst 3, 1) := by decide +kernel
theorem dL_law_698 : decode cL_law 698 = .ok (.iadd, 1) := by decide +kernel
theorem dL_law_699 : decode cL_law 699 = .ok (.iaload, 1) := by decide +kernel
theorem dL_law_700 : decode cL_law 700 = .ok (.i2l, 1) := by decide +kernel
theorem dL_law_701 : decode cL_law 701 = .ok (.ldc2_w 107, 3) := by decide +kernel
theorem dL_law_704 : decode cL_law 704 = .ok (.land, 1) := by decide +kernel
theorem dL_law_705 : decode cL_law 705 = .ok (.lor, 1) := by decide +kernel
theorem dL_law_706 : decode cL_law 706 = .ok (.invokevirtual 112, 3) := by decide +kernel
theorem dL_law_709 : decode cL_law 709 = .ok (.aload_n 2, 1) := by decide +kernel
theorem dL_law_710 : decode cL_law 710 = .ok (.invokevirtual 74, 3) := by decide +kernel
theorem dL_law_713 : decode cL_law 713 = .ok (.iload 5, 2) := by decide +kernel
theorem dL_law_715 : decode cL_law 715 = .ok (.if_icmp .eq 5, 3) := by decide +kernel
theorem dL_law_718 : decode cL_law 718 = .ok (.iconst 0, 1) := by decide +kernel
theorem dL_law_719 : decode cL_law 719 = .ok (.ireturn, 1) := by decide +kernel
theorem dL_law_720 : decode cL_law 720 = .ok (.goto 231, 3) := by decide +kernel
theorem dL_law_723 : decode cL_law 723 = .ok (.aload_n 1, 1) := by decide +kernel
theorem dL_law_724 : decode cL_law 724 = .ok (.aload_n 0, 1) := by decide +kernel
theorem dL_law_725 : decode cL_law 725 = .ok (.iload 4, 2) := by decide +kernel
theorem dL_law_727 : decode cL_law 727 = .ok (.iconst 1, 1) := by decide +kernel
theorem dL_law_728 : decode cL_law 728 = .ok (.iadd, 1) := by decide +kernel
theorem dL_law_729 : decode cL_law 729 = .ok (.iaload, 1) := by decide +kernel
theorem dL_law_730 : decode cL_law 730 = .ok (.invokestatic 113, 3) := by decide +kernel
theorem dL_law_733 : decode cL_law 733 = .ok (.istore 5, 2) := by decide +kernel
theorem dL_law_735 : decode cL_law 735 = .ok (.aload_n 2, 1) := by decide +kernel
theorem dL_law_736 : decode cL_law 736 = .ok (.aload_n 0, 1) := by decide +kernel
theorem dL_law_737 : decode cL_law 737 = .ok (.iload 4, 2) := by decide +kernel
theorem dL_law_739 : decode cL_law 739 = .ok (.iconst 1, 1) := by decide +kernel
theorem dL_law_740 : decode cL_law 740 = .ok (.iadd, 1) := by decide +kernel
theorem dL_law_741 : decode cL_law 741 = .ok (.iaload, 1) := by decide +kernel
theorem dL_law_742 : decode cL_law 742 = .ok (.invokevirtual 116, 3) := by decide +kernel
theorem dL_law_745 : decode cL_law 745 = .ok (.aload_n 2, 1) := by decide +kernel
theorem dL_law_746 : decode cL_law 746 = .ok (.invokevirtual 74, 3) := by decide +kernel
theorem dL_law_749 : decode cL_law 749 = .ok (.iload 5, 2) := by decide +kernel
theorem dL_law_751 : decode cL_law 751 = .ok (.if_icmp .eq 5, 3) := by decide +kernel
end
section
theorem dL_law_754 : decode cL_law 754 = .ok (.iconst 0, 1) := by decide +kernel
theorem dL_law_755 : decode cL_law 755 = .ok (.ireturn, 1) := by decide +kernel
theorem dL_law_756 : decode cL_law 756 = .ok (.goto 195, 3) := by decide +kernel
theorem dL_law_759 : decode cL_law 759 = .ok (.aload_n 1, 1) := by decide +kernel
theorem dL_law_760 : decode cL_law 760 = .ok (.aload_n 0, 1) := by decide +kernel
theorem dL_law_761 : decode cL_law 761 = .ok (.iload 4, 2) := by decide +kernel
theorem dL_law_763 : decode cL_law 763 = .ok (.iconst 1, 1) := by decide +kernel
theorem dL_law_764 : decode cL_law 764 = .ok (.iadd, 1) := by decide +kernel
theorem dL_law_765 : decode cL_law 765 = .ok (.iaload, 1) := by decide +kernel
theorem dL_law_766 : decode cL_law 766 = .ok (.aload_n 3, 1) := by decide +kernel
theorem dL_law_767 : decode cL_law 767 = .ok (.invokestatic 117, 3) := by decide +kernel
theorem dL_law_770 : decode cL_law 770 = .ok (.istore 5, 2) := by decide +kernel
theorem dL_law_772 : decode cL_law 772 = .ok (.aload_n 2, 1) := by decide +kernel
theorem dL_law_773 : decode cL_law 773 = .ok (.aload_n 0, 1) := by decide +kernel
theorem dL_law_774 : decode cL_law 774 = .ok (.iload 4, 2) := by decide +kernel
theorem dL_law_776 : decode cL_law 776 = .ok (.iconst 1, 1) := by decide +kernel
theorem dL_law_777 : decode cL_law 777 = .ok (.iadd, 1) := by decide +kernel
theorem dL_law_778 : decode cL_law 778 = .ok (.iaload, 1) := by decide +kernel
theorem dL_law_779 : decode cL_law 779 = .ok (.invokevirtual 119, 3) := by decide +kernel
theorem dL_law_782 : decode cL_law 782 = .ok (.lstore 6, 2) := by decide +kernel
theorem dL_law_784 : decode cL_law 784 = .ok (.aload_n 2, 1) := by decide +kernel
theorem dL_law_785 : decode cL_law 785 = .ok (.invokevirtual 74, 3) := by decide +kernel
theorem dL_law_788 : decode cL_law 788 = .ok (.iload 5, 2) := by decide +kernel
theorem dL_law_790 : decode cL_law 790 = .ok (.if_icmp .eq 5, 3) := by decide +kernel
theorem dL_law_793 : decode cL_law 793 = .ok (.iconst 0, 1) := by decide +kernel
theorem dL_law_794 : decode cL_law 794 = .ok (.ireturn, 1) := by decide +kernel
theorem dL_law_795 : decode cL_law 795 = .ok (.iload 5, 2) := by decide +kernel
theorem dL_law_797 : decode cL_law 797 = .ok (.ifCond .ne 14, 3) := by decide +kernel
theorem dL_law_800 : decode cL_law 800 = .ok (.aload_n 3, 1) := by decide +kernel
theorem dL_law_801 : decode cL_law 801 = .ok (.iconst 0, 1) := by decide +kernel
theorem dL_law_802 : decode cL_law 802 = .ok (.laload, 1) := by decide +kernel
theorem dL_law_803 : decode cL_law 803 = .ok (.lload 6, 2) := by decide +kernel
theorem dL_law_805 : decode cL_law 805 = .ok (.lcmp, 1) := by decide +kernel
theorem dL_law_806 : decode cL_law 806 = .ok (.ifCond .eq 5, 3) := by decide +kernel
theorem dL_law_809 : decode cL_law 809 = .ok (.iconst 0, 1) := by decide +kernel
theorem dL_law_810 : decode cL_law 810 = .ok (.ireturn, 1) := by decide +kernel
theorem dL_law_811 : decode cL_law 811 = .ok (.goto 140, 3) := by decide +kernel
theorem dL_law_814 : decode cL_law 814 = .ok (.aload_n 1, 1) := by decide +kernel
theorem dL_law_815 : decode cL_law 815 = .ok (.aload_n 0, 1) := by decide +kernel
theorem dL_law_816 : decode cL_law 816 = .ok (.iload 4, 2) := by decide +kernel
theorem dL_law_818 : decode cL_law 818 = .ok (.iconst 1, 1) := by decide +kernel
theorem dL_law_819 : decode cL_law 819 = .ok (.iadd, 1) := by decide +kernel
theorem dL_law_820 : decode cL_law 820 = .ok (.iaload, 1) := by decide +kernel
theorem dL_law_821 : decode cL_law 821 = .ok (.aload_n 0, 1) := by decide +kernel
theorem dL_law_822 : decode cL_law 822 = .ok (.iload 4, 2) := by decide +kernel
theorem dL_law_824 : decode cL_law 824 = .ok (.iconst 2, 1) := by decide +kernel
theorem dL_law_825 : decode cL_law 825 = .ok (.iadd, 1) := by decide +kernel
theorem dL_law_826 : decode cL_law 826 = .ok (.iaload, 1) := by decide +kernel
theorem dL_law_827 : decode cL_law 827 = .ok (.aload_n 3, 1) := by decide +kernel
theorem dL_law_828 : decode cL_law 828 = .ok (.invokestatic 120, 3) := by decide +kernel
theorem dL_law_831 : decode cL_law 831 = .ok (.istore 5, 2) := by decide +kernel
theorem dL_law_833 : decode cL_law 833 = .ok (.aload_n 2, 1) := by decide +kernel
theorem dL_law_834 : decode cL_law 834 = .ok (.aload_n 0, 1) := by decide +kernel
theorem dL_law_835 : decode cL_law 835 = .ok (.iload 4, 2) := by decide +kernel
theorem dL_law_837 : decode cL_law 837 = .ok (.iconst 1, 1) := by decide +kernel
theorem dL_law_838 : decode cL_law 838 = .ok (.iadd, 1) := by decide +kernel
theorem dL_law_839 : decode cL_law 839 = .ok (.iaload, 1) := by decide +kernel
theorem dL_law_840 : decode cL_law 840 = .ok (.aload_n 0, 1) := by decide +kernel
theorem dL_law_841 : decode cL_law 841 = .ok (.iload 4, 2) := by decide +kernel
theorem dL_law_843 : decode cL_law 843 = .ok (.iconst 2, 1) := by decide +kernel
theorem dL_law_844 : decode cL_law 844 = .ok (.iadd, 1) := by decide +kernel
theorem dL_law_845 : decode cL_law 845 = .ok (.iaload, 1) := by decide +kernel
theorem dL_law_846 : decode cL_law 846 = .ok (.invokevirtual 122, 3) := by decide +kernel
theorem dL_law_849 : decode cL_law 849 = .ok (.istore 6, 2) := by decide +kernel
theorem dL_law_851 : decode cL_law 851 = .ok (.aload_n 2, 1) := by decide +kernel
theorem dL_law_852 : decode cL_law 852 = .ok (.invokevirtual 74, 3) := by decide +kernel
theorem dL_law_855 : decode cL_law 855 = .ok (.iload 5, 2) := by decide +kernel
theorem dL_law_857 : decode cL_law 857 = .ok (.if_icmp .eq 5, 3) := by decide +kernel
theorem dL_law_860 : decode cL_law 860 = .ok (.iconst 0, 1) := by decide +kernel
theorem dL_law_861 : decode cL_law 861 = .ok (.ireturn, 1) := by decide +kernel
theorem dL_law_862 : decode cL_law 862 = .ok (.iload 5, 2) := by decide +kernel
theorem dL_law_864 : decode cL_law 864 = .ok (.ifCond .ne 15, 3) := by decide +kernel
theorem dL_law_867 : decode cL_law 867 = .ok (.aload_n 3, 1) := by decide +kernel
theorem dL_law_868 : decode cL_law 868 = .ok (.iconst 0, 1) := by decide +kernel
theorem dL_law_869 : decode cL_law 869 = .ok (.laload, 1) := by decide +kernel
theorem dL_law_870 : decode cL_law 870 = .ok (.iload 6, 2) := by decide +kernel
theorem dL_law_872 : decode cL_law 872 = .ok (.i2l, 1) := by decide +kernel
theorem dL_law_873 : decode cL_law 873 = .ok (.lcmp, 1) := by decide +kernel
theorem dL_law_874 : decode cL_law 874 = .ok (.ifCond .eq 5, 3) := by decide +kernel
theorem dL_law_877 : decode cL_law 877 = .ok (.iconst 0, 1) := by decide +kernel
theorem dL_law_878 : decode cL_law 878 = .ok (.ireturn, 1) := by decide +kernel
theorem dL_law_879 : decode cL_law 879 = .ok (.goto 72, 3) := by decide +kernel
theorem dL_law_882 : decode cL_law 882 = .ok (.aload_n 1, 1) := by decide +kernel
theorem dL_law_883 : decode cL_law 883 = .ok (.invokevirtual 123, 3) := by decide +kernel
theorem dL_law_886 : decode cL_law 886 = .ok (.aload_n 2, 1) := by decide +kernel
theorem dL_law_887 : decode cL_law 887 = .ok (.invokevirtual 126, 3) := by decide +kernel
theorem dL_law_890 : decode cL_law 890 = .ok (.if_icmp .eq 61, 3) := by decide +kernel
theorem dL_law_893 : decode cL_law 893 = .ok (.iconst 0, 1) := by decide +kernel
theorem dL_law_894 : decode cL_law 894 = .ok (.ireturn, 1) := by decide +kernel
theorem dL_law_895 : decode cL_law 895 = .ok (.aload_n 1, 1) := by decide +kernel
theorem dL_law_896 : decode cL_law 896 = .ok (.aload_n 0, 1) := by decide +kernel
theorem dL_law_897 : decode cL_law 897 = .ok (.iload 4, 2) := by decide +kernel
theorem dL_law_899 : decode cL_law 899 = .ok (.iconst 1, 1) := by decide +kernel
theorem dL_law_900 : decode cL_law 900 = .ok (.iadd, 1) := by decide +kernel
theorem dL_law_901 : decode cL_law 901 = .ok (.iaload, 1) := by decide +kernel
theorem dL_law_902 : decode cL_law 902 = .ok (.aload_n 3, 1) := by decide +kernel
theorem dL_law_903 : decode cL_law 903 = .ok (.invokestatic 127, 3) := by decide +kernel
theorem dL_law_906 : decode cL_law 906 = .ok (.istore 5, 2) := by decide +kernel
theorem dL_law_908 : decode cL_law 908 = .ok (.aload_n 2, 1) := by decide +kernel
theorem dL_law_909 : decode cL_law 909 = .ok (.aload_n 0, 1) := by decide +kernel
theorem dL_law_910 : decode cL_law 910 = .ok (.iload 4, 2) := by decide +kernel
theorem dL_law_912 : decode cL_law 912 = .ok (.iconst 1, 1) := by decide +kernel
theorem dL_law_913 : decode cL_law 913 = .ok (.iadd, 1) := by decide +kernel
theorem dL_law_914 : decode cL_law 914 = .ok (.iaload, 1) := by decide +kernel
theorem dL_law_915 : decode cL_law 915 = .ok (.invokevirtual 129, 3) := by decide +kernel
theorem dL_law_918 : decode cL_law 918 = .ok (.istore 6, 2) := by decide +kernel
theorem dL_law_920 : decode cL_law 920 = .ok (.aload_n 2, 1) := by decide +kernel
theorem dL_law_921 : decode cL_law 921 = .ok (.invokevirtual 74, 3) := by decide +kernel
theorem dL_law_924 : decode cL_law 924 = .ok (.iload 5, 2) := by decide +kernel
theorem dL_law_926 : decode cL_law 926 = .ok (.if_icmp .eq 5, 3) := by decide +kernel
theorem dL_law_929 : decode cL_law 929 = .ok (.iconst 0, 1) := by decide +kernel
theorem dL_law_930 : decode cL_law 930 = .ok (.ireturn, 1) := by decide +kernel
theorem dL_law_931 : decode cL_law 931 = .ok (.iload 5, 2) := by decide +kernel
theorem dL_law_933 : decode cL_law 933 = .ok (.ifCond .ne 15, 3) := by decide +kernel
theorem dL_law_936 : decode cL_law 936 = .ok (.aload_n 3, 1) := by decide +kernel
theorem dL_law_937 : decode cL_law 937 = .ok (.iconst 0, 1) := by decide +kernel
theorem dL_law_938 : decode cL_law 938 = .ok (.laload, 1) := by decide +kernel
theorem dL_law_939 : decode cL_law 939 = .ok (.iload 6, 2) := by decide +kernel
theorem dL_law_941 : decode cL_law 941 = .ok (.i2l, 1) := by decide +kernel
theorem dL_law_942 : decode cL_law 942 = .ok (.lcmp, 1) := by decide +kernel
theorem dL_law_943 : decode cL_law 943 = .ok (.ifCond .eq 5, 3) := by decide +kernel
theorem dL_law_946 : decode cL_law 946 = .ok (.iconst 0, 1) := by decide +kernel
theorem dL_law_947 : decode cL_law 947 = .ok (.ireturn, 1) := by decide +kernel
theorem dL_law_948 : decode cL_law 948 = .ok (.goto 3, 3) := by decide +kernel
theorem dL_law_951 : decode cL_law 951 = .ok (.iinc 4 4, 3) := by decide +kernel
theorem dL_law_954 : decode cL_law 954 = .ok (.goto (-931), 3) := by decide +kernel
theorem dL_law_957 : decode cL_law 957 = .ok (.iconst 1, 1) := by decide +kernel
theorem dL_law_958 : decode cL_law 958 = .ok (.ireturn, 1) := by decide +kernel
end
section
/-! THE CORE: a heap of the system's own cells by a function, and one judgement of the walk over it (G); each instruction turns G at one place into G at the next -/
def TT : List Cond := lw_tbl.filter goodWord
theorem tt_mem {w : Cond} (i : Nat) (h : lw_tbl[i]? = some w) (g : goodWord w = true) : w ∈ TT := List.mem_filter.mpr ⟨List.mem_of_getElem? h, g⟩
theorem tt_good {w : Cond} (h : w ∈ TT) : goodWord w = true := (List.mem_filter.mp h).2
theorem tt_in {c d : Cond} (h : d ∈ TT) : GoodIn (c :: TT) (d :: TT) := fun w hw => by
  rcases List.mem_cons.mp hw with e | e
  · subst e; exact ⟨List.mem_cons_of_mem _ h, good_of_word (tt_good h)⟩
  · exact ⟨List.mem_cons_of_mem _ e, good_of_word (tt_good e)⟩
theorem tt_in0 {d : Cond} (h : d ∈ TT) : GoodIn TT (d :: TT) := fun w hw => by
  rcases List.mem_cons.mp hw with e | e
  · subst e; exact ⟨h, good_of_word (tt_good h)⟩
  · exact ⟨e, good_of_word (tt_good e)⟩
/-- a cell: an array of a kind (0 int, 1 long, 2 boolean, 3 of pieces, 4 of spans), its length, its contents; or an object of a class, its fields -/
abbrev CE : Type := (Nat × vp_A) ⊕ (Nat × List Value)
abbrev AH : Type := Nat → Option CE
/-- what the machine says of the classes; the classes of the arrays; where the static arrays lie; from where on the system's cells lie -/
abbrev Ex : Type := va_G × (Nat → ClassId) × (Nat → Nat) × Nat
abbrev xA (E : Ex) : Nat → Prop := fun q => E.2.2.2 ≤ q
def ceE (E : Ex) (e : CE) : va_E := match e with
  | .inl x => .inl (E.2.1 x.1, x.2)
  | .inr o => .inr o
def hR (E : Ex) (h : AH) (H : Heap) : Prop := ∀ (a : Nat) (e : CE), h a = some e → va_at E.1 vwCl (a, ceE E e) H ∧ E.2.2.2 ≤ a
def hU (h : AH) (a : Nat) (e : CE) : AH := fun b => if b = a then some e else h b
abbrev tyL (E : Ex) : List (ClassId × FieldType) := [(E.2.1 0, .int), (E.2.1 1, .long), (E.2.1 2, .boolean), (E.2.1 3, .object RX1), (E.2.1 4, .object RX3)]
def z_STRIDE (j : Nat) : Int32 := ([1, 4, 16] : List Int32).getD j 0
def z_FLOOR (j : Nat) : Int64 := ([1229782938247303441, 4222189076152335, 65535] : List Int64).getD j 0
def z_STAYS (j : Nat) : Int64 := ([-1, 8608480567731124087, 3689348814741910323, 1229782938247303441, -1, 1152657617789587455, 71777214294589695, 4222189076152335, -1, 281474976710655, 4294967295, 65535] : List Int64).getD j 0
def z_ORDERS (j : Nat) : Int32 := ([0, 1, 2, 1, 2, 0, 2, 0, 1, 0, 2, 1, 2, 1, 0, 1, 0, 2] : List Int32).getD j 0
def zOk (E : Ex) (U : State) (H : Heap) : Prop :=
  (va_Z RX0 "STRIDE" "[I" (.ref (E.2.2.1 0)) (xA E) U H ∧ va_T .int (E.2.2.1 0) 3 (fun j => .int (z_STRIDE j)) (xA E) U H) ∧
  (va_Z RX0 "FLOOR" "[J" (.ref (E.2.2.1 1)) (xA E) U H ∧ va_T .long (E.2.2.1 1) 3 (fun j => .long (z_FLOOR j)) (xA E) U H) ∧
  (va_Z RX0 "STAYS" "[J" (.ref (E.2.2.1 2)) (xA E) U H ∧ va_T .long (E.2.2.1 2) 12 (fun j => .long (z_STAYS j)) (xA E) U H) ∧
  (va_Z RX0 "ORDERS" "[I" (.ref (E.2.2.1 3)) (xA E) U H ∧ va_T .int (E.2.2.1 3) 18 (fun j => .int (z_ORDERS j)) (xA E) U H)
def xStr (U : State) (q : String × Nat × String) : Prop := ∃ a, vk_R q.1 q.2.1 q.2.2 a U
def xNest (U : State) : Prop := va_Nw (.methodLinkNest RX2 62 yX6_lowestPiece RX6) U ∧ va_Nw (.methodLinkNest RX5 146 yX6_lowestPiece RX6) U
def xStrs (U : State) : Prop := ∀ q ∈ ([(RX6, 117, "no such packing"), (RX6, 135, "the set is none of its shapes moved"), (RX6, 137, "another piece has one of the cells"), (RX6, 139, "the piece is not in the assembly"), (RX6, 150, "no such part"), (RX6, 152, "no such limit"), (RX6, 164, "no such move"), (RX6, 169, "no such piece"), (RX6, 171, "no such cell"), (RX6, 174, "no such budget"), (RX6, 49, "the cube is so already"), (RX6, 58, "a piece has 10 cubes at the most"), (RX6, 72, "no such shape"), (RX6, 81, "no such kind")] : List (String × Nat × String)), xStr U q
/-- what every method's start has beside its own cells -/
def En (E : Ex) (U : State) (H : Heap) : Prop :=
  va_K E.1 vwCl (tyL E) U ∧ zOk E U H ∧ (vx_Zq Bundle.tN "UNASSIGNED_STACK" Bundle.steD (xA E) U H ∧ vx_Zq Bundle.tN "SUPPRESSED_SENTINEL" Bundle.listD (xA E) U H) ∧ xNest U ∧ xStrs U ∧ va_AO RX1 U ∧ va_AO RX3 U ∧ E.2.2.2 ≤ H.size
theorem En.at {E : Ex} {s U : State} {H : Heap} {locs : List Loc} (h : En E s s.heap) (hS : va_S (xA E) s.heap H locs) (hW : s.WarmedH U.vm) (hU : U.heap = H) : En E U U.heap := by
  have hk : ∀ a : Nat, a < s.heap.size → ¬ xA E a → U.heap[a]? = s.heap[a]? := fun a h1 h2 => by rw [hU]; exact hS.2.1 a h1 h2
  obtain ⟨h1, ⟨⟨a1, a2⟩, ⟨a3, a4⟩, ⟨a5, a6⟩, ⟨a7, a8⟩⟩, ⟨b1, b2⟩, ⟨n1, n2⟩, h5, o1, o2, h6⟩ := h
  have hv := hW.alike
  refine ⟨va_K.moved hv h1, ⟨⟨(a1.moved hv).kept hk, (a2.moved hv).kept hk⟩, ⟨(a3.moved hv).kept hk, (a4.moved hv).kept hk⟩, ⟨(a5.moved hv).kept hk, (a6.moved hv).kept hk⟩, ⟨(a7.moved hv).kept hk, (a8.moved hv).kept hk⟩⟩, ⟨(b1.moved hv).kept hk, (b2.moved hv).kept hk⟩, ⟨va_Nw.warmM hW n1, va_Nw.warmM hW n2⟩, fun q hq => ?_, ?_, ?_, ?_⟩
  · obtain ⟨a, ha⟩ := h5 q hq
    exact ⟨a, vk_R.warm hW ha⟩
  · exact va_AO.moved hv o1
  · exact va_AO.moved hv o2
  · rw [hU]; exact Nat.le_trans h6 hS.1
theorem En.blind {E : Ex} {U : State} {g : JFrame} {mk : MethodId} {a : Array Value} (h : En E U U.heap) : En E (U.calling g mk a) (U.calling g mk a).heap := by
  exact En.at (s := U) (U := U.calling g mk a) (H := U.heap) (locs := []) h va_S.rf (State.WarmedH.refl U) rfl
theorem hR.kept {E : Ex} {h : AH} {H H1 : Heap} (hh : hR E h H) (hq : ∀ q : Nat, q < H.size → H1[q]? = H[q]?) : hR E h H1 := fun a e ha => ⟨(hh a e ha).1.kept (hq a (hh a e ha).1.lt), (hh a e ha).2⟩
theorem hR.set {E : Ex} {h : AH} {H H1 : Heap} {a : Nat} {e : CE} (hh : hR E h H) (h0 : E.2.2.2 ≤ a) (he : va_at E.1 vwCl (a, ceE E e) H1) (hq : ∀ q : Nat, q ≠ a → H1[q]? = H[q]?) : hR E (hU h a e) H1 := fun b x hb => by
  unfold hU at hb
  by_cases e1 : b = a
  · subst e1
    rw [if_pos rfl] at hb
    cases hb
    exact ⟨he, h0⟩
  · rw [if_neg e1] at hb
    exact ⟨(hh b x hb).1.kept (hq b e1), (hh b x hb).2⟩
theorem hR.new {E : Ex} {h : AH} {H H1 : Heap} {e : CE} (hh : hR E h H) (h0 : E.2.2.2 ≤ H.size) (he : va_at E.1 vwCl (H.size, ceE E e) H1) (hq : ∀ q : Nat, q < H.size → H1[q]? = H[q]?) : hR E (hU h H.size e) H1 := fun b x hb => by
  unfold hU at hb
  by_cases e1 : b = H.size
  · subst e1
    rw [if_pos rfl] at hb
    cases hb
    exact ⟨he, h0⟩
  · rw [if_neg e1] at hb
    exact ⟨(hh b x hb).1.kept (hq b (hh b x hb).1.lt), (hh b x hb).2⟩
theorem va_S.push {A : Nat → Prop} {H0 H H1 : Heap} {locs : List Loc} (h : va_S A H0 H locs) (z : H1.size = H.size + 1) (o : ∀ q : Nat, q < H.size → H1[q]? = H[q]?) : va_S A H0 H1 locs := ⟨Nat.le_trans h.1 (by omega), fun x h1 h2 => (o x (Nat.lt_of_lt_of_le h1 h.1)).trans (h.2.1 x h1 h2), h.2.2⟩
/-- everything that stays the same over a walk: the machine, the method, what it must end in -/
abbrev KX : Type := Program × Launch × Env × Room × State × MethodId × Array Value × List Frame × Method × Code × Nat × Ex × (State → Prop)
def G (K : KX) (cells slots pc : Nat) (lv : List (Nat × Value)) (st : List Value) (h : AH) (n : Nat) : Prop := match K with
  | (p, l, e, R, s, m, args, below, meth, c, nL, E, Q) => ∀ (ls : Array Slot) (H : Heap) (locs : List Loc), lv_has ls nL lv → hR E h H → H.size = n → va_S (xA E) s.heap H locs → W p l e R s m args below meth c H locs cells slots Q (F0 m pc ls st)
def Cx (K : KX) (own : String) (nm : String) (cc : ByteArray) (ret : Option FieldType) : Prop := match K with
  | (p, _, _, _, s, m, args, _, meth, c, nL, E, _) => p.tables.exec = Jvm.exec ∧ c.code = cc ∧ c.maxLocals = nL ∧ s.vm.findClass own = some m.cls ∧ (∀ w ∈ TT, w.before args s = true) ∧ En E s s.heap ∧ meth.sig.returnType = ret ∧ meth.locks = false ∧ meth.name = nm
abbrev kL (K : KX) : Launch := K.2.1
abbrev kR (K : KX) : Room := K.2.2.2.1
abbrev kE (K : KX) : Ex := K.2.2.2.2.2.2.2.2.2.2.2.1
abbrev kN (K : KX) : Nat := K.2.2.2.2.2.2.2.2.2.2.1
section Rows
variable {K : KX} {own nm : String} {cc : ByteArray} {ret : Option FieldType} {cells slots pc pc' : Nat} {lv : List (Nat × Value)} {st : List Value} {h : AH} {n : Nat}
theorem g_iconst (C : Cx K own nm cc ret) {i : Int} {v : Int32} (hv : Int32.ofInt i = v) (d : decode cc pc = .ok (.iconst i, 1)) (hp : pc + 1 = pc') (k : G K cells slots pc' lv (.int v :: st) h n) : G K cells slots pc lv (st) h n := by
  obtain ⟨p, l, e, R, s, m, args, below, meth, c, nL, E, Q⟩ := K
  intro ls H locs hl hR hn hS
  subst hp
  exact lv_iconst C.1 C.2.1 d hv (k ls H locs hl hR hn hS)
theorem g_bipush (C : Cx K own nm cc ret) {i : Int} {v : Int32} (hv : (Int8.ofInt i).toInt32 = v) (d : decode cc pc = .ok (.bipush i, 2)) (hp : pc + 2 = pc') (k : G K cells slots pc' lv (.int v :: st) h n) : G K cells slots pc lv (st) h n := by
  obtain ⟨p, l, e, R, s, m, args, below, meth, c, nL, E, Q⟩ := K
  intro ls H locs hl hR hn hS
  subst hp
  exact lv_bipush C.1 C.2.1 d hv (k ls H locs hl hR hn hS)
theorem g_sipush (C : Cx K own nm cc ret) {i : Int} {v : Int32} (hv : (Int16.ofInt i).toInt32 = v) (d : decode cc pc = .ok (.sipush i, 3)) (hp : pc + 3 = pc') (k : G K cells slots pc' lv (.int v :: st) h n) : G K cells slots pc lv (st) h n := by
  obtain ⟨p, l, e, R, s, m, args, below, meth, c, nL, E, Q⟩ := K
  intro ls H locs hl hR hn hS
  subst hp
  exact lv_sipush C.1 C.2.1 d hv (k ls H locs hl hR hn hS)
theorem g_lconst (C : Cx K own nm cc ret) {i : Fin 2} {v : Int64} (hv : Int64.ofNat (i : Nat) = v) (d : decode cc pc = .ok (.lconst i, 1)) (hp : pc + 1 = pc') (k : G K cells slots pc' lv (.long v :: st) h n) : G K cells slots pc lv (st) h n := by
  obtain ⟨p, l, e, R, s, m, args, below, meth, c, nL, E, Q⟩ := K
  intro ls H locs hl hR hn hS
  subst hp
  exact lv_lconst C.1 C.2.1 d hv (k ls H locs hl hR hn hS)
theorem g_iload_n (C : Cx K own nm cc ret) {k4 : Fin 4} {i q : Nat} {x : Int32} (hi : (k4 : Nat) = i) (hq : lv[q]? = some (i, .int x)) (d : decode cc pc = .ok (.iload_n k4, 1)) (hp : pc + 1 = pc') (k : G K cells slots pc' lv (.int x :: st) h n) : G K cells slots pc lv (st) h n := by
  obtain ⟨p, l, e, R, s, m, args, below, meth, c, nL, E, Q⟩ := K
  intro ls H locs hl hR hn hS
  subst hp
  exact lv_iload_n C.1 C.2.1 d hi (lv_at hl q hq) (k ls H locs hl hR hn hS)
theorem g_iload (C : Cx K own nm cc ret) {i q : Nat} {x : Int32} (hq : lv[q]? = some (i, .int x)) (d : decode cc pc = .ok (.iload i, 2)) (hp : pc + 2 = pc') (k : G K cells slots pc' lv (.int x :: st) h n) : G K cells slots pc lv (st) h n := by
  obtain ⟨p, l, e, R, s, m, args, below, meth, c, nL, E, Q⟩ := K
  intro ls H locs hl hR hn hS
  subst hp
  exact lv_iload C.1 C.2.1 d (lv_at hl q hq) (k ls H locs hl hR hn hS)
theorem g_lload_n (C : Cx K own nm cc ret) {k4 : Fin 4} {i q : Nat} {x : Int64} (hi : (k4 : Nat) = i) (hq : lv[q]? = some (i, .long x)) (d : decode cc pc = .ok (.lload_n k4, 1)) (hp : pc + 1 = pc') (k : G K cells slots pc' lv (.long x :: st) h n) : G K cells slots pc lv (st) h n := by
  obtain ⟨p, l, e, R, s, m, args, below, meth, c, nL, E, Q⟩ := K
  intro ls H locs hl hR hn hS
  subst hp
  exact lv_lload_n C.1 C.2.1 d hi (lv_at hl q hq) (k ls H locs hl hR hn hS)
theorem g_lload (C : Cx K own nm cc ret) {i q : Nat} {x : Int64} (hq : lv[q]? = some (i, .long x)) (d : decode cc pc = .ok (.lload i, 2)) (hp : pc + 2 = pc') (k : G K cells slots pc' lv (.long x :: st) h n) : G K cells slots pc lv (st) h n := by
  obtain ⟨p, l, e, R, s, m, args, below, meth, c, nL, E, Q⟩ := K
  intro ls H locs hl hR hn hS
  subst hp
  exact lv_lload C.1 C.2.1 d (lv_at hl q hq) (k ls H locs hl hR hn hS)
theorem g_aload_n (C : Cx K own nm cc ret) {k4 : Fin 4} {i q : Nat} {x : Nat} (hi : (k4 : Nat) = i) (hq : lv[q]? = some (i, .ref x)) (d : decode cc pc = .ok (.aload_n k4, 1)) (hp : pc + 1 = pc') (k : G K cells slots pc' lv (.ref x :: st) h n) : G K cells slots pc lv (st) h n := by
  obtain ⟨p, l, e, R, s, m, args, below, meth, c, nL, E, Q⟩ := K
  intro ls H locs hl hR hn hS
  subst hp
  exact lv_aload_n C.1 C.2.1 d hi (lv_at hl q hq) (k ls H locs hl hR hn hS)
theorem g_aload (C : Cx K own nm cc ret) {i q : Nat} {x : Nat} (hq : lv[q]? = some (i, .ref x)) (d : decode cc pc = .ok (.aload i, 2)) (hp : pc + 2 = pc') (k : G K cells slots pc' lv (.ref x :: st) h n) : G K cells slots pc lv (st) h n := by
  obtain ⟨p, l, e, R, s, m, args, below, meth, c, nL, E, Q⟩ := K
  intro ls H locs hl hR hn hS
  subst hp
  exact lv_aload C.1 C.2.1 d (lv_at hl q hq) (k ls H locs hl hR hn hS)
theorem g_iadd (C : Cx K own nm cc ret) {x y : Int32} (d : decode cc pc = .ok (.iadd, 1)) (hp : pc + 1 = pc') (k : G K cells slots pc' lv (.int (x + y) :: st) h n) : G K cells slots pc lv (.int y :: .int x :: st) h n := by
  obtain ⟨p, l, e, R, s, m, args, below, meth, c, nL, E, Q⟩ := K
  intro ls H locs hl hR hn hS
  subst hp
  exact lv_iadd C.1 C.2.1 d (k ls H locs hl hR hn hS)
theorem g_isub (C : Cx K own nm cc ret) {x y : Int32} (d : decode cc pc = .ok (.isub, 1)) (hp : pc + 1 = pc') (k : G K cells slots pc' lv (.int (x - y) :: st) h n) : G K cells slots pc lv (.int y :: .int x :: st) h n := by
  obtain ⟨p, l, e, R, s, m, args, below, meth, c, nL, E, Q⟩ := K
  intro ls H locs hl hR hn hS
  subst hp
  exact lv_isub C.1 C.2.1 d (k ls H locs hl hR hn hS)
theorem g_imul (C : Cx K own nm cc ret) {x y : Int32} (d : decode cc pc = .ok (.imul, 1)) (hp : pc + 1 = pc') (k : G K cells slots pc' lv (.int (x * y) :: st) h n) : G K cells slots pc lv (.int y :: .int x :: st) h n := by
  obtain ⟨p, l, e, R, s, m, args, below, meth, c, nL, E, Q⟩ := K
  intro ls H locs hl hR hn hS
  subst hp
  exact lv_imul C.1 C.2.1 d (k ls H locs hl hR hn hS)
theorem g_iand (C : Cx K own nm cc ret) {x y : Int32} (d : decode cc pc = .ok (.iand, 1)) (hp : pc + 1 = pc') (k : G K cells slots pc' lv (.int (x &&& y) :: st) h n) : G K cells slots pc lv (.int y :: .int x :: st) h n := by
  obtain ⟨p, l, e, R, s, m, args, below, meth, c, nL, E, Q⟩ := K
  intro ls H locs hl hR hn hS
  subst hp
  exact lv_iand C.1 C.2.1 d (k ls H locs hl hR hn hS)
theorem g_ior (C : Cx K own nm cc ret) {x y : Int32} (d : decode cc pc = .ok (.ior, 1)) (hp : pc + 1 = pc') (k : G K cells slots pc' lv (.int (x ||| y) :: st) h n) : G K cells slots pc lv (.int y :: .int x :: st) h n := by
  obtain ⟨p, l, e, R, s, m, args, below, meth, c, nL, E, Q⟩ := K
  intro ls H locs hl hR hn hS
  subst hp
  exact lv_ior C.1 C.2.1 d (k ls H locs hl hR hn hS)
theorem g_ixor (C : Cx K own nm cc ret) {x y : Int32} (d : decode cc pc = .ok (.ixor, 1)) (hp : pc + 1 = pc') (k : G K cells slots pc' lv (.int (x ^^^ y) :: st) h n) : G K cells slots pc lv (.int y :: .int x :: st) h n := by
  obtain ⟨p, l, e, R, s, m, args, below, meth, c, nL, E, Q⟩ := K
  intro ls H locs hl hR hn hS
  subst hp
  exact lv_ixor C.1 C.2.1 d (k ls H locs hl hR hn hS)
theorem g_ladd (C : Cx K own nm cc ret) {x y : Int64} (d : decode cc pc = .ok (.ladd, 1)) (hp : pc + 1 = pc') (k : G K cells slots pc' lv (.long (x + y) :: st) h n) : G K cells slots pc lv (.long y :: .long x :: st) h n := by
  obtain ⟨p, l, e, R, s, m, args, below, meth, c, nL, E, Q⟩ := K
  intro ls H locs hl hR hn hS
  subst hp
  exact lv_ladd C.1 C.2.1 d (k ls H locs hl hR hn hS)
theorem g_lsub (C : Cx K own nm cc ret) {x y : Int64} (d : decode cc pc = .ok (.lsub, 1)) (hp : pc + 1 = pc') (k : G K cells slots pc' lv (.long (x - y) :: st) h n) : G K cells slots pc lv (.long y :: .long x :: st) h n := by
  obtain ⟨p, l, e, R, s, m, args, below, meth, c, nL, E, Q⟩ := K
  intro ls H locs hl hR hn hS
  subst hp
  exact lv_lsub C.1 C.2.1 d (k ls H locs hl hR hn hS)
theorem g_land (C : Cx K own nm cc ret) {x y : Int64} (d : decode cc pc = .ok (.land, 1)) (hp : pc + 1 = pc') (k : G K cells slots pc' lv (.long (x &&& y) :: st) h n) : G K cells slots pc lv (.long y :: .long x :: st) h n := by
  obtain ⟨p, l, e, R, s, m, args, below, meth, c, nL, E, Q⟩ := K
  intro ls H locs hl hR hn hS
  subst hp
  exact lv_land C.1 C.2.1 d (k ls H locs hl hR hn hS)
theorem g_lor (C : Cx K own nm cc ret) {x y : Int64} (d : decode cc pc = .ok (.lor, 1)) (hp : pc + 1 = pc') (k : G K cells slots pc' lv (.long (x ||| y) :: st) h n) : G K cells slots pc lv (.long y :: .long x :: st) h n := by
  obtain ⟨p, l, e, R, s, m, args, below, meth, c, nL, E, Q⟩ := K
  intro ls H locs hl hR hn hS
  subst hp
  exact lv_lor C.1 C.2.1 d (k ls H locs hl hR hn hS)
theorem g_lxor (C : Cx K own nm cc ret) {x y : Int64} (d : decode cc pc = .ok (.lxor, 1)) (hp : pc + 1 = pc') (k : G K cells slots pc' lv (.long (x ^^^ y) :: st) h n) : G K cells slots pc lv (.long y :: .long x :: st) h n := by
  obtain ⟨p, l, e, R, s, m, args, below, meth, c, nL, E, Q⟩ := K
  intro ls H locs hl hR hn hS
  subst hp
  exact lv_lxor C.1 C.2.1 d (k ls H locs hl hR hn hS)
theorem g_idiv (C : Cx K own nm cc ret) {x y : Int32} (hne : ¬ y = 0) (d : decode cc pc = .ok (.idiv, 1)) (hp : pc + 1 = pc') (k : G K cells slots pc' lv (.int (x / y) :: st) h n) : G K cells slots pc lv (.int y :: .int x :: st) h n := by
  obtain ⟨p, l, e, R, s, m, args, below, meth, c, nL, E, Q⟩ := K
  intro ls H locs hl hR hn hS
  subst hp
  exact lv_idiv C.1 C.2.1 d hne (k ls H locs hl hR hn hS)
theorem g_irem (C : Cx K own nm cc ret) {x y : Int32} (hne : ¬ y = 0) (d : decode cc pc = .ok (.irem, 1)) (hp : pc + 1 = pc') (k : G K cells slots pc' lv (.int (x - x / y * y) :: st) h n) : G K cells slots pc lv (.int y :: .int x :: st) h n := by
  obtain ⟨p, l, e, R, s, m, args, below, meth, c, nL, E, Q⟩ := K
  intro ls H locs hl hR hn hS
  subst hp
  exact lv_irem C.1 C.2.1 d hne (k ls H locs hl hR hn hS)
theorem g_ineg (C : Cx K own nm cc ret) {x : Int32} (d : decode cc pc = .ok (.ineg, 1)) (hp : pc + 1 = pc') (k : G K cells slots pc' lv (.int (-x) :: st) h n) : G K cells slots pc lv (.int x :: st) h n := by
  obtain ⟨p, l, e, R, s, m, args, below, meth, c, nL, E, Q⟩ := K
  intro ls H locs hl hR hn hS
  subst hp
  exact lv_ineg C.1 C.2.1 d (k ls H locs hl hR hn hS)
theorem g_lneg (C : Cx K own nm cc ret) {x : Int64} (d : decode cc pc = .ok (.lneg, 1)) (hp : pc + 1 = pc') (k : G K cells slots pc' lv (.long (-x) :: st) h n) : G K cells slots pc lv (.long x :: st) h n := by
  obtain ⟨p, l, e, R, s, m, args, below, meth, c, nL, E, Q⟩ := K
  intro ls H locs hl hR hn hS
  subst hp
  exact lv_lneg C.1 C.2.1 d (k ls H locs hl hR hn hS)
theorem g_ishl (C : Cx K own nm cc ret) {x y : Int32} (d : decode cc pc = .ok (.ishl, 1)) (hp : pc + 1 = pc') (k : G K cells slots pc' lv (.int (x <<< (y &&& 31)) :: st) h n) : G K cells slots pc lv (.int y :: .int x :: st) h n := by
  obtain ⟨p, l, e, R, s, m, args, below, meth, c, nL, E, Q⟩ := K
  intro ls H locs hl hR hn hS
  subst hp
  exact lv_ishl C.1 C.2.1 d (k ls H locs hl hR hn hS)
theorem g_ishr (C : Cx K own nm cc ret) {x y : Int32} (d : decode cc pc = .ok (.ishr, 1)) (hp : pc + 1 = pc') (k : G K cells slots pc' lv (.int (x >>> (y &&& 31)) :: st) h n) : G K cells slots pc lv (.int y :: .int x :: st) h n := by
  obtain ⟨p, l, e, R, s, m, args, below, meth, c, nL, E, Q⟩ := K
  intro ls H locs hl hR hn hS
  subst hp
  exact lv_ishr C.1 C.2.1 d (k ls H locs hl hR hn hS)
theorem g_iushr (C : Cx K own nm cc ret) {x y : Int32} (d : decode cc pc = .ok (.iushr, 1)) (hp : pc + 1 = pc') (k : G K cells slots pc' lv (.int ((x.toUInt32 >>> (y.toUInt32 &&& Int32.toUInt32 31)).toInt32) :: st) h n) : G K cells slots pc lv (.int y :: .int x :: st) h n := by
  obtain ⟨p, l, e, R, s, m, args, below, meth, c, nL, E, Q⟩ := K
  intro ls H locs hl hR hn hS
  subst hp
  exact lv_iushr C.1 C.2.1 d rfl (k ls H locs hl hR hn hS)
theorem g_lushr (C : Cx K own nm cc ret) {x : Int64} {y : Int32} (d : decode cc pc = .ok (.lushr, 1)) (hp : pc + 1 = pc') (k : G K cells slots pc' lv (.long ((x.toUInt64 >>> (y.toInt64.toUInt64 &&& Int64.toUInt64 63)).toInt64) :: st) h n) : G K cells slots pc lv (.int y :: .long x :: st) h n := by
  obtain ⟨p, l, e, R, s, m, args, below, meth, c, nL, E, Q⟩ := K
  intro ls H locs hl hR hn hS
  subst hp
  exact lv_lushr C.1 C.2.1 d rfl (k ls H locs hl hR hn hS)
theorem g_lshl (C : Cx K own nm cc ret) {x : Int64} {y : Int32} (d : decode cc pc = .ok (.lshl, 1)) (hp : pc + 1 = pc') (k : G K cells slots pc' lv (.long (x <<< (y.toInt64 &&& 63)) :: st) h n) : G K cells slots pc lv (.int y :: .long x :: st) h n := by
  obtain ⟨p, l, e, R, s, m, args, below, meth, c, nL, E, Q⟩ := K
  intro ls H locs hl hR hn hS
  subst hp
  exact lv_lshl C.1 C.2.1 d rfl (k ls H locs hl hR hn hS)
theorem g_i2l (C : Cx K own nm cc ret) {x : Int32} (d : decode cc pc = .ok (.i2l, 1)) (hp : pc + 1 = pc') (k : G K cells slots pc' lv (.long (x.toInt64) :: st) h n) : G K cells slots pc lv (.int x :: st) h n := by
  obtain ⟨p, l, e, R, s, m, args, below, meth, c, nL, E, Q⟩ := K
  intro ls H locs hl hR hn hS
  subst hp
  exact lv_i2l C.1 C.2.1 d rfl (k ls H locs hl hR hn hS)
theorem g_l2i (C : Cx K own nm cc ret) {x : Int64} (d : decode cc pc = .ok (.l2i, 1)) (hp : pc + 1 = pc') (k : G K cells slots pc' lv (.int (x.toInt32) :: st) h n) : G K cells slots pc lv (.long x :: st) h n := by
  obtain ⟨p, l, e, R, s, m, args, below, meth, c, nL, E, Q⟩ := K
  intro ls H locs hl hR hn hS
  subst hp
  exact lv_l2i C.1 C.2.1 d rfl (k ls H locs hl hR hn hS)
theorem g_dup (C : Cx K own nm cc ret) {v : Value} (hv : v.category = 1) (d : decode cc pc = .ok (.dup, 1)) (hp : pc + 1 = pc') (k : G K cells slots pc' lv (v :: v :: st) h n) : G K cells slots pc lv (v :: st) h n := by
  obtain ⟨p, l, e, R, s, m, args, below, meth, c, nL, E, Q⟩ := K
  intro ls H locs hl hR hn hS
  subst hp
  exact lv_dup C.1 C.2.1 d hv (k ls H locs hl hR hn hS)
theorem g_dup2 (C : Cx K own nm cc ret) {v w : Value} (hv : v.category = 1) (hw : w.category = 1) (d : decode cc pc = .ok (.dup2, 1)) (hp : pc + 1 = pc') (k : G K cells slots pc' lv (v :: w :: v :: w :: st) h n) : G K cells slots pc lv (v :: w :: st) h n := by
  obtain ⟨p, l, e, R, s, m, args, below, meth, c, nL, E, Q⟩ := K
  intro ls H locs hl hR hn hS
  subst hp
  exact lv_dup2_11 C.1 C.2.1 d hv hw (k ls H locs hl hR hn hS)
theorem g_lcmp (C : Cx K own nm cc ret) {x y : Int64} (d : decode cc pc = .ok (.lcmp, 1)) (hp : pc + 1 = pc') (k : G K cells slots pc' lv (.int (lg_cmp x y) :: st) h n) : G K cells slots pc lv (.long y :: .long x :: st) h n := by
  obtain ⟨p, l, e, R, s, m, args, below, meth, c, nL, E, Q⟩ := K
  intro ls H locs hl hR hn hS
  subst hp
  exact W.lcmp C.1 C.2.1 d (k ls H locs hl hR hn hS)
theorem g_istore_n (C : Cx K own nm cc ret) {k4 : Fin 4} {i : Nat} {x : Int32} {lv' : List (Nat × Value)} (d : decode cc pc = .ok (.istore_n k4, 1)) (hp : pc + 1 = pc') (hi : (k4 : Nat) = i) (hn0 : i < kN K) (hl0 : (i, Value.int x) :: lv.filter (fun q => !(q.1 == i) && !(q.1 + 1 == i && q.2.category == 2)) = lv') (k : G K cells slots pc' lv' st h n) : G K cells slots pc lv (.int x :: st) h n := by
  obtain ⟨p, l, e, R, s, m, args, below, meth, c, nL, E, Q⟩ := K
  intro ls H locs hl hR hn hS
  subst hp
  exact lv_istore_n (lv' := lv') C.1 C.2.1 d hi hl hn0 hl0 (fun ls1 hl1 => k ls1 H locs hl1 hR hn hS)
theorem g_istore (C : Cx K own nm cc ret)  {i : Nat} {x : Int32} {lv' : List (Nat × Value)} (d : decode cc pc = .ok (.istore i, 2)) (hp : pc + 2 = pc')  (hn0 : i < kN K) (hl0 : (i, Value.int x) :: lv.filter (fun q => !(q.1 == i) && !(q.1 + 1 == i && q.2.category == 2)) = lv') (k : G K cells slots pc' lv' st h n) : G K cells slots pc lv (.int x :: st) h n := by
  obtain ⟨p, l, e, R, s, m, args, below, meth, c, nL, E, Q⟩ := K
  intro ls H locs hl hR hn hS
  subst hp
  exact lv_istore (lv' := lv') C.1 C.2.1 d hl hn0 hl0 (fun ls1 hl1 => k ls1 H locs hl1 hR hn hS)
theorem g_astore_n (C : Cx K own nm cc ret) {k4 : Fin 4} {i : Nat} {x : Nat} {lv' : List (Nat × Value)} (d : decode cc pc = .ok (.astore_n k4, 1)) (hp : pc + 1 = pc') (hi : (k4 : Nat) = i) (hn0 : i < kN K) (hl0 : (i, Value.ref x) :: lv.filter (fun q => !(q.1 == i) && !(q.1 + 1 == i && q.2.category == 2)) = lv') (k : G K cells slots pc' lv' st h n) : G K cells slots pc lv (.ref x :: st) h n := by
  obtain ⟨p, l, e, R, s, m, args, below, meth, c, nL, E, Q⟩ := K
  intro ls H locs hl hR hn hS
  subst hp
  exact lv_astore_n (lv' := lv') C.1 C.2.1 d hi hl hn0 hl0 (fun ls1 hl1 => k ls1 H locs hl1 hR hn hS)
theorem g_astore (C : Cx K own nm cc ret)  {i : Nat} {x : Nat} {lv' : List (Nat × Value)} (d : decode cc pc = .ok (.astore i, 2)) (hp : pc + 2 = pc')  (hn0 : i < kN K) (hl0 : (i, Value.ref x) :: lv.filter (fun q => !(q.1 == i) && !(q.1 + 1 == i && q.2.category == 2)) = lv') (k : G K cells slots pc' lv' st h n) : G K cells slots pc lv (.ref x :: st) h n := by
  obtain ⟨p, l, e, R, s, m, args, below, meth, c, nL, E, Q⟩ := K
  intro ls H locs hl hR hn hS
  subst hp
  exact lv_astore (lv' := lv') C.1 C.2.1 d hl hn0 hl0 (fun ls1 hl1 => k ls1 H locs hl1 hR hn hS)
theorem g_lstore_n (C : Cx K own nm cc ret) {k4 : Fin 4} {i : Nat} {x : Int64} {lv' : List (Nat × Value)} (d : decode cc pc = .ok (.lstore_n k4, 1)) (hp : pc + 1 = pc') (hi : (k4 : Nat) = i) (hn0 : i + 1 < kN K) (hl0 : (i, Value.long x) :: lv.filter (fun q => !(q.1 == i) && (!(q.1 == i + 1) && !(q.1 + 1 == i && q.2.category == 2))) = lv') (k : G K cells slots pc' lv' st h n) : G K cells slots pc lv (.long x :: st) h n := by
  obtain ⟨p, l, e, R, s, m, args, below, meth, c, nL, E, Q⟩ := K
  intro ls H locs hl hR hn hS
  subst hp
  exact lv_lstore_n (lv' := lv') C.1 C.2.1 d hi hl hn0 hl0 (fun ls1 hl1 => k ls1 H locs hl1 hR hn hS)
theorem g_lstore (C : Cx K own nm cc ret)  {i : Nat} {x : Int64} {lv' : List (Nat × Value)} (d : decode cc pc = .ok (.lstore i, 2)) (hp : pc + 2 = pc')  (hn0 : i + 1 < kN K) (hl0 : (i, Value.long x) :: lv.filter (fun q => !(q.1 == i) && (!(q.1 == i + 1) && !(q.1 + 1 == i && q.2.category == 2))) = lv') (k : G K cells slots pc' lv' st h n) : G K cells slots pc lv (.long x :: st) h n := by
  obtain ⟨p, l, e, R, s, m, args, below, meth, c, nL, E, Q⟩ := K
  intro ls H locs hl hR hn hS
  subst hp
  exact lv_lstore (lv' := lv') C.1 C.2.1 d hl hn0 hl0 (fun ls1 hl1 => k ls1 H locs hl1 hR hn hS)
theorem g_iinc (C : Cx K own nm cc ret) {i q : Nat} {z : Int} {x v : Int32} {lv' : List (Nat × Value)} (d : decode cc pc = .ok (.iinc i z, 3)) (hp : pc + 3 = pc') (hq : lv[q]? = some (i, .int x)) (hv : x + Int32.ofInt z = v) (hn0 : i < kN K) (hl0 : (i, Value.int v) :: lv.filter (fun q => !(q.1 == i) && !(q.1 + 1 == i && q.2.category == 2)) = lv') (k : G K cells slots pc' lv' st h n) : G K cells slots pc lv st h n := by
  obtain ⟨p, l, e, R, s, m, args, below, meth, c, nL, E, Q⟩ := K
  intro ls H locs hl hR hn hS
  subst hp
  exact lv_iinc (v := v) (lv' := lv') C.1 C.2.1 d hl hq hv hn0 hl0 (fun ls1 hl1 => k ls1 H locs hl1 hR hn hS)
theorem g_goto (C : Cx K own nm cc ret) {off : Int} (d : decode cc pc = .ok (.goto off, 3)) (hp : (pc : Int) + off = (pc' : Int)) (k : G K cells slots pc' lv st h n) : G K cells slots pc lv st h n := by
  obtain ⟨p, l, e, R, s, m, args, below, meth, c, nL, E, Q⟩ := K
  intro ls H locs hl hR hn hS
  exact lv_goto C.1 C.2.1 d hp (k ls H locs hl hR hn hS)
theorem g_if_eq (C : Cx K own nm cc ret) {x : Int32} {off : Int} {tgt : Nat} (d : decode cc pc = .ok (.ifCond .eq off, 3)) (ht : (pc : Int) + off = (tgt : Int)) (hp : pc + 3 = pc') (k1 : x = 0 → G K cells slots tgt lv st h n) (k2 : ¬ (x = 0) → G K cells slots pc' lv st h n) : G K cells slots pc lv (.int x :: st) h n := by
  obtain ⟨p, l, e, R, s, m, args, below, meth, c, nL, E, Q⟩ := K
  intro ls H locs hl hR hn hS
  subst hp
  exact lv_if_eq C.1 C.2.1 d ht (fun z => k1 z ls H locs hl hR hn hS) (fun z => k2 z ls H locs hl hR hn hS)
theorem g_icmp_eq (C : Cx K own nm cc ret) {x y : Int32} {off : Int} {tgt : Nat} (d : decode cc pc = .ok (.if_icmp .eq off, 3)) (ht : (pc : Int) + off = (tgt : Int)) (hp : pc + 3 = pc') (k1 : x = y → G K cells slots tgt lv st h n) (k2 : ¬ (x = y) → G K cells slots pc' lv st h n) : G K cells slots pc lv (.int y :: .int x :: st) h n := by
  obtain ⟨p, l, e, R, s, m, args, below, meth, c, nL, E, Q⟩ := K
  intro ls H locs hl hR hn hS
  subst hp
  exact lv_icmp_eq C.1 C.2.1 d ht (fun z => k1 z ls H locs hl hR hn hS) (fun z => k2 z ls H locs hl hR hn hS)
theorem g_if_ne (C : Cx K own nm cc ret) {x : Int32} {off : Int} {tgt : Nat} (d : decode cc pc = .ok (.ifCond .ne off, 3)) (ht : (pc : Int) + off = (tgt : Int)) (hp : pc + 3 = pc') (k1 : ¬ x = 0 → G K cells slots tgt lv st h n) (k2 : x = 0 → G K cells slots pc' lv st h n) : G K cells slots pc lv (.int x :: st) h n := by
  obtain ⟨p, l, e, R, s, m, args, below, meth, c, nL, E, Q⟩ := K
  intro ls H locs hl hR hn hS
  subst hp
  exact lv_if_ne C.1 C.2.1 d ht (fun z => k1 z ls H locs hl hR hn hS) (fun z => k2 z ls H locs hl hR hn hS)
theorem g_icmp_ne (C : Cx K own nm cc ret) {x y : Int32} {off : Int} {tgt : Nat} (d : decode cc pc = .ok (.if_icmp .ne off, 3)) (ht : (pc : Int) + off = (tgt : Int)) (hp : pc + 3 = pc') (k1 : ¬ x = y → G K cells slots tgt lv st h n) (k2 : x = y → G K cells slots pc' lv st h n) : G K cells slots pc lv (.int y :: .int x :: st) h n := by
  obtain ⟨p, l, e, R, s, m, args, below, meth, c, nL, E, Q⟩ := K
  intro ls H locs hl hR hn hS
  subst hp
  exact lv_icmp_ne C.1 C.2.1 d ht (fun z => k1 z ls H locs hl hR hn hS) (fun z => k2 z ls H locs hl hR hn hS)
theorem g_if_lt (C : Cx K own nm cc ret) {x : Int32} {off : Int} {tgt : Nat} (d : decode cc pc = .ok (.ifCond .lt off, 3)) (ht : (pc : Int) + off = (tgt : Int)) (hp : pc + 3 = pc') (k1 : x < 0 → G K cells slots tgt lv st h n) (k2 : ¬ (x < 0) → G K cells slots pc' lv st h n) : G K cells slots pc lv (.int x :: st) h n := by
  obtain ⟨p, l, e, R, s, m, args, below, meth, c, nL, E, Q⟩ := K
  intro ls H locs hl hR hn hS
  subst hp
  exact lv_if_lt C.1 C.2.1 d ht (fun z => k1 z ls H locs hl hR hn hS) (fun z => k2 z ls H locs hl hR hn hS)
theorem g_icmp_lt (C : Cx K own nm cc ret) {x y : Int32} {off : Int} {tgt : Nat} (d : decode cc pc = .ok (.if_icmp .lt off, 3)) (ht : (pc : Int) + off = (tgt : Int)) (hp : pc + 3 = pc') (k1 : x < y → G K cells slots tgt lv st h n) (k2 : ¬ (x < y) → G K cells slots pc' lv st h n) : G K cells slots pc lv (.int y :: .int x :: st) h n := by
  obtain ⟨p, l, e, R, s, m, args, below, meth, c, nL, E, Q⟩ := K
  intro ls H locs hl hR hn hS
  subst hp
  exact lv_icmp_lt C.1 C.2.1 d ht (fun z => k1 z ls H locs hl hR hn hS) (fun z => k2 z ls H locs hl hR hn hS)
theorem g_if_ge (C : Cx K own nm cc ret) {x : Int32} {off : Int} {tgt : Nat} (d : decode cc pc = .ok (.ifCond .ge off, 3)) (ht : (pc : Int) + off = (tgt : Int)) (hp : pc + 3 = pc') (k1 : 0 ≤ x → G K cells slots tgt lv st h n) (k2 : ¬ (0 ≤ x) → G K cells slots pc' lv st h n) : G K cells slots pc lv (.int x :: st) h n := by
  obtain ⟨p, l, e, R, s, m, args, below, meth, c, nL, E, Q⟩ := K
  intro ls H locs hl hR hn hS
  subst hp
  exact lv_if_ge C.1 C.2.1 d ht (fun z => k1 z ls H locs hl hR hn hS) (fun z => k2 z ls H locs hl hR hn hS)
theorem g_icmp_ge (C : Cx K own nm cc ret) {x y : Int32} {off : Int} {tgt : Nat} (d : decode cc pc = .ok (.if_icmp .ge off, 3)) (ht : (pc : Int) + off = (tgt : Int)) (hp : pc + 3 = pc') (k1 : y ≤ x → G K cells slots tgt lv st h n) (k2 : ¬ (y ≤ x) → G K cells slots pc' lv st h n) : G K cells slots pc lv (.int y :: .int x :: st) h n := by
  obtain ⟨p, l, e, R, s, m, args, below, meth, c, nL, E, Q⟩ := K
  intro ls H locs hl hR hn hS
  subst hp
  exact lv_icmp_ge C.1 C.2.1 d ht (fun z => k1 z ls H locs hl hR hn hS) (fun z => k2 z ls H locs hl hR hn hS)
theorem g_if_gt (C : Cx K own nm cc ret) {x : Int32} {off : Int} {tgt : Nat} (d : decode cc pc = .ok (.ifCond .gt off, 3)) (ht : (pc : Int) + off = (tgt : Int)) (hp : pc + 3 = pc') (k1 : 0 < x → G K cells slots tgt lv st h n) (k2 : ¬ (0 < x) → G K cells slots pc' lv st h n) : G K cells slots pc lv (.int x :: st) h n := by
  obtain ⟨p, l, e, R, s, m, args, below, meth, c, nL, E, Q⟩ := K
  intro ls H locs hl hR hn hS
  subst hp
  exact lv_if_gt C.1 C.2.1 d ht (fun z => k1 z ls H locs hl hR hn hS) (fun z => k2 z ls H locs hl hR hn hS)
theorem g_icmp_gt (C : Cx K own nm cc ret) {x y : Int32} {off : Int} {tgt : Nat} (d : decode cc pc = .ok (.if_icmp .gt off, 3)) (ht : (pc : Int) + off = (tgt : Int)) (hp : pc + 3 = pc') (k1 : y < x → G K cells slots tgt lv st h n) (k2 : ¬ (y < x) → G K cells slots pc' lv st h n) : G K cells slots pc lv (.int y :: .int x :: st) h n := by
  obtain ⟨p, l, e, R, s, m, args, below, meth, c, nL, E, Q⟩ := K
  intro ls H locs hl hR hn hS
  subst hp
  exact lv_icmp_gt C.1 C.2.1 d ht (fun z => k1 z ls H locs hl hR hn hS) (fun z => k2 z ls H locs hl hR hn hS)
theorem g_if_le (C : Cx K own nm cc ret) {x : Int32} {off : Int} {tgt : Nat} (d : decode cc pc = .ok (.ifCond .le off, 3)) (ht : (pc : Int) + off = (tgt : Int)) (hp : pc + 3 = pc') (k1 : x ≤ 0 → G K cells slots tgt lv st h n) (k2 : ¬ (x ≤ 0) → G K cells slots pc' lv st h n) : G K cells slots pc lv (.int x :: st) h n := by
  obtain ⟨p, l, e, R, s, m, args, below, meth, c, nL, E, Q⟩ := K
  intro ls H locs hl hR hn hS
  subst hp
  exact lv_if_le C.1 C.2.1 d ht (fun z => k1 z ls H locs hl hR hn hS) (fun z => k2 z ls H locs hl hR hn hS)
theorem g_icmp_le (C : Cx K own nm cc ret) {x y : Int32} {off : Int} {tgt : Nat} (d : decode cc pc = .ok (.if_icmp .le off, 3)) (ht : (pc : Int) + off = (tgt : Int)) (hp : pc + 3 = pc') (k1 : x ≤ y → G K cells slots tgt lv st h n) (k2 : ¬ (x ≤ y) → G K cells slots pc' lv st h n) : G K cells slots pc lv (.int y :: .int x :: st) h n := by
  obtain ⟨p, l, e, R, s, m, args, below, meth, c, nL, E, Q⟩ := K
  intro ls H locs hl hR hn hS
  subst hp
  exact lv_icmp_le C.1 C.2.1 d ht (fun z => k1 z ls H locs hl hR hn hS) (fun z => k2 z ls H locs hl hR hn hS)
theorem g_ldc (C : Cx K own nm cc ret) {ix : Nat} {v : Int32} (hw : Cond.constant own ix v ∈ TT) (d : decode cc pc = .ok (.ldc ix, 2)) (hp : pc + 2 = pc') (k : G K cells slots pc' lv (.int v :: st) h n) : G K cells slots pc lv st h n := by
  obtain ⟨p, l, e, R, s, m, args, below, meth, c, nL, E, Q⟩ := K
  intro ls H locs hl hR hn hS
  subst hp
  exact lv_ldc C.1 C.2.1 C.2.2.2.1 (C.2.2.2.2.1 _ hw) d (k ls H locs hl hR hn hS)
theorem g_ldcw (C : Cx K own nm cc ret) {ix : Nat} {v : Int32} (hw : Cond.constant own ix v ∈ TT) (d : decode cc pc = .ok (.ldc_w ix, 3)) (hp : pc + 3 = pc') (k : G K cells slots pc' lv (.int v :: st) h n) : G K cells slots pc lv st h n := by
  obtain ⟨p, l, e, R, s, m, args, below, meth, c, nL, E, Q⟩ := K
  intro ls H locs hl hR hn hS
  subst hp
  exact lv_ldcw C.1 C.2.1 C.2.2.2.1 (C.2.2.2.2.1 _ hw) d (k ls H locs hl hR hn hS)
theorem g_ldc2 (C : Cx K own nm cc ret) {ix : Nat} {v : Int64} (hw : Cond.constantLong own ix v ∈ TT) (d : decode cc pc = .ok (.ldc2_w ix, 3)) (hp : pc + 3 = pc') (k : G K cells slots pc' lv (.long v :: st) h n) : G K cells slots pc lv st h n := by
  obtain ⟨p, l, e, R, s, m, args, below, meth, c, nL, E, Q⟩ := K
  intro ls H locs hl hR hn hS
  subst hp
  exact lv_ldc2 C.1 C.2.1 C.2.2.2.1 (C.2.2.2.2.1 _ hw) d (k ls H locs hl hR hn hS)
/-- other names for the locals -/
theorem g_sub {lv' : List (Nat × Value)} (ks : List Nat) (hl0 : lv_pick lv ks = lv') (k : G K cells slots pc lv' st h n) : G K cells slots pc lv st h n := by
  obtain ⟨p, l, e, R, s, m, args, below, meth, c, nL, E, Q⟩ := K
  intro ls H locs hl hR hn hS
  exact k ls H locs (lv_sub hl ks hl0) hR hn hS
theorem g_heap {h' : AH} (e : h = h') (k : G K cells slots pc lv st h' n) : G K cells slots pc lv st h n := e ▸ k
end Rows
end
section
/-! THE CORE, its heap rows: fields, arrays, statics, making -/
def FC (ci : Nat) (Cn : String) (T : u_T) (N : Nat) (ty : Nat → FieldType) : Prop := vwCl[ci]? = some (Cn, T, N) ∧ (∀ w ∈ u_ws Cn T N, w ∈ TT) ∧ (∀ k, k < N → parseFieldDescriptor (T k).2.2.1 = some (ty k)) ∧ ∀ a, a < N → ∀ b, b < N → a ≠ b → (T a).2.1 ≠ (T b).2.1
section Heap
variable {K : KX} {own nm : String} {cc : ByteArray} {ret : Option FieldType} {cells slots pc pc' : Nat} {lv : List (Nat × Value)} {st : List Value} {h h' : AH} {n : Nat} {ci : Nat} {Cn : String} {T : u_T} {N : Nat} {ty : Nat → FieldType} {a : Nat} {fs : List Value} {v : Value} {ix : Nat}
theorem hR.one {E : Ex} {H : Heap} {e : CE} (hh : hR E h H) (ha : h a = some e) : va_P E.1 vwCl [(a, ceE E e)] H := fun k q hq => by
  match k, hq with
  | 0, hq => cases hq; exact (hh a e ha).1
  | k + 1, hq => simp at hq
theorem g_get (C : Cx K own nm cc ret) (F : FC ci Cn T N ty) (k : Nat) (hk : k < N) (hw : Cond.fieldLink own ix (T k).1 (T k).2.1 (T k).2.2.1 ∈ TT) (ha : h a = some (.inr (ci, fs))) (hv : fs[k]? = some v) (d : decode cc pc = .ok (.getfield ix, 3)) (hp : pc + 3 = pc') (kk : G K cells slots pc' lv (v :: st) h n) : G K cells slots pc lv (.ref a :: st) h n := by
  obtain ⟨p, l, e, R, s, m, args, below, meth, c, nL, E, Q⟩ := K
  intro ls H locs hl hR hn hS
  subst hp
  exact va_get (D := E.1) (q0 := 0) C.1 C.2.1 C.2.2.2.2.1 F.2.1 C.2.2.2.1 C.2.2.2.2.2.1.1 (hR.one ha) rfl F.1 k hk (C.2.2.2.2.1 _ hw) (fun _ z => z) hv d (kk ls H locs hl hR hn hS)
theorem g_put (C : Cx K own nm cc ret) (F : FC ci Cn T N ty) (k : Nat) (hk : k < N) (hw : Cond.fieldLink own ix (T k).1 (T k).2.1 (T k).2.2.1 ∈ TT) (hfin : (T k).2.2.2 = false) (hn1 : narrow (ty k) v = v) (hf1 : fits (ty k) v = true) (hl1 : k < fs.length) (ha : h a = some (.inr (ci, fs))) (he : hU h a (.inr (ci, fs.set k v)) = h') (d : decode cc pc = .ok (.putfield ix, 3)) (hp : pc + 3 = pc') (kk : G K cells slots pc' lv st h' n) : G K cells slots pc lv (v :: .ref a :: st) h n := by
  obtain ⟨p, l, e, R, s, m, args, below, meth, c, nL, E, Q⟩ := K
  intro ls H locs hl hR hn hS
  subst hp
  subst he
  obtain ⟨hat, h0⟩ := hR a _ ha
  have hts : ∀ w ∈ TT, w.before args s = true := C.2.2.2.2.1
  have hK := C.2.2.2.2.2.1.1
  have hap := va_apart (own := own) hts F.2.1 ty F.2.2.1 F.2.2.2 hK F.1
  obtain ⟨r, h1, cell, q1, q2, q3, q4⟩ := hat
  have hr : r = (Cn, T, N) := Option.some.inj (h1.symm.trans F.1)
  subst hr
  obtain ⟨hS0, hfc, kC, hkC, hkind⟩ := hK.1 ci _ F.1
  obtain ⟨cf, kf, fi, f, hi, hsl⟩ := hS0 k hk
  have hlay := hts _ (F.2.1 _ (u_in_lay hk))
  unfold u_lay at hlay
  rw [if_neg (by rw [hfin]; decide)] at hlay
  have hst := (u_facts hfc hkC (u_lays hts F.2.1 hk) hi).1
  have h6 := u_store hfc hkC hkind hlay hi (F.2.2.1 k hk) hn1 hf1
  refine W.putK C.1 C.2.1 (f := f) ⟨C.2.2.2.1, hts _ hw, ⟨_, _, _, hi⟩, hst⟩ (by rw [q2]; exact h6) q1 q3 (by rw [hsl]; exact k2_hasslot (q4 k hk)) rfl rfl d fun H' e1 e2 e3 => ?_
  rw [hsl] at e1 ⊢
  exact kk ls H' _ hl (hR.set h0 ⟨_, F.1, t_OB.to (V := updV (vp_V fs) k v) ⟨_, e1, q2, q3, t_set q4 hap hk v⟩ (fun j _ => vp_updV_set hl1 v j)⟩ e3) (e2.trans hn) (hS.put e2 e3 h0)
theorem g_putF (C : Cx K own "<init>" cc ret) (F : FC ci Cn T N ty) (k : Nat) (hk : k < N) (hw : Cond.fieldLink own ix (T k).1 (T k).2.1 (T k).2.2.1 ∈ TT) (hfin : (T k).2.2.2 = true) (hdecl : (T k).1 = own) (hn1 : narrow (ty k) v = v) (hf1 : fits (ty k) v = true) (hl1 : k < fs.length) (ha : h a = some (.inr (ci, fs))) (he : hU h a (.inr (ci, fs.set k v)) = h') (d : decode cc pc = .ok (.putfield ix, 3)) (hp : pc + 3 = pc') (kk : G K cells slots pc' lv st h' n) : G K cells slots pc lv (v :: .ref a :: st) h n := by
  obtain ⟨p, l, e, R, s, m, args, below, meth, c, nL, E, Q⟩ := K
  intro ls H locs hl hR hn hS
  subst hp
  subst he
  obtain ⟨hat, h0⟩ := hR a _ ha
  have hts : ∀ w ∈ TT, w.before args s = true := C.2.2.2.2.1
  have hK := C.2.2.2.2.2.1.1
  have hap := va_apart (own := own) hts F.2.1 ty F.2.2.1 F.2.2.2 hK F.1
  obtain ⟨r, h1, cell, q1, q2, q3, q4⟩ := hat
  have hr : r = (Cn, T, N) := Option.some.inj (h1.symm.trans F.1)
  subst hr
  obtain ⟨hS0, hfc, kC, hkC, hkind⟩ := hK.1 ci _ F.1
  obtain ⟨cf, kf, fi, f, hi, hsl⟩ := hS0 k hk
  have hlay := hts _ (F.2.1 _ (u_in_lay hk))
  unfold u_lay at hlay
  rw [if_pos hfin] at hlay
  have hst := (u_facts hfc hkC (u_lays hts F.2.1 hk) hi).1
  have hcf : m.cls = cf := by
    obtain ⟨_, _, c', _, _, _, -, -, hf', -, -, -, hown2, -⟩ := Cond.laysFinal_spec hlay
    have e1 : c' = cf := by have := hi.symm.trans hf'; simp at this; exact this.1.symm
    rw [hdecl] at hown2
    rw [← e1]; exact Option.some.inj (C.2.2.2.1.symm.trans hown2)
  have h6 := u_fits hfc hkC hkind (Or.inr hlay) hi (F.2.2.1 k hk) hn1 hf1
  refine W.putFinK C.1 C.2.1 C.2.2.2.1 (hts _ hw) hi hst hcf C.2.2.2.2.2.2.2.2 (by rw [q2]; exact h6) q1 q3 (by rw [hsl]; exact k2_hasslot (q4 k hk)) rfl rfl d fun H' e1 e2 e3 => ?_
  rw [hsl] at e1 ⊢
  exact kk ls H' _ hl (hR.set h0 ⟨_, F.1, t_OB.to (V := updV (vp_V fs) k v) ⟨_, e1, q2, q3, t_set q4 hap hk v⟩ (fun j _ => vp_updV_set hl1 v j)⟩ e3) (e2.trans hn) (hS.put e2 e3 h0)
theorem g_iald (C : Cx K own nm cc ret) {z : Nat} {f : Nat → Int32} {i : Int32} (ha : h a = some (.inl (0, z, .inl f))) (hi : vp_in i z) (d : decode cc pc = .ok (.iaload, 1)) (hp : pc + 1 = pc') (kk : G K cells slots pc' lv (.int (f i.toNatClampNeg) :: st) h n) : G K cells slots pc lv (.int i :: .ref a :: st) h n := by
  obtain ⟨p, l, e, R, s, m, args, below, meth, c, nL, E, Q⟩ := K
  intro ls H locs hl hR hn hS
  subst hp
  exact va_iald (D := E.1) C.1 C.2.1 C.2.2.2.2.2.1.1 (hR.one ha) 0 0 rfl rfl hi d (kk ls H locs hl hR hn hS)
theorem g_lald (C : Cx K own nm cc ret) {z : Nat} {f : Nat → Int64} {i : Int32} (ha : h a = some (.inl (1, z, .inr (.inl f)))) (hi : vp_in i z) (d : decode cc pc = .ok (.laload, 1)) (hp : pc + 1 = pc') (kk : G K cells slots pc' lv (.long (f i.toNatClampNeg) :: st) h n) : G K cells slots pc lv (.int i :: .ref a :: st) h n := by
  obtain ⟨p, l, e, R, s, m, args, below, meth, c, nL, E, Q⟩ := K
  intro ls H locs hl hR hn hS
  subst hp
  exact va_lald (D := E.1) C.1 C.2.1 C.2.2.2.2.2.1.1 (hR.one ha) 0 1 rfl rfl hi d (kk ls H locs hl hR hn hS)
theorem g_zald (C : Cx K own nm cc ret) {z : Nat} {f : Nat → Int32} {i : Int32} (ha : h a = some (.inl (2, z, .inl f))) (hi : vp_in i z) (d : decode cc pc = .ok (.baload, 1)) (hp : pc + 1 = pc') (kk : G K cells slots pc' lv (.int (f i.toNatClampNeg) :: st) h n) : G K cells slots pc lv (.int i :: .ref a :: st) h n := by
  obtain ⟨p, l, e, R, s, m, args, below, meth, c, nL, E, Q⟩ := K
  intro ls H locs hl hR hn hS
  subst hp
  exact va_zald (D := E.1) C.1 C.2.1 C.2.2.2.2.2.1.1 (hR.one ha) 0 2 rfl rfl hi d (kk ls H locs hl hR hn hS)
theorem g_aald (C : Cx K own nm cc ret) {z kd b : Nat} {f : Nat → Option Nat} {i : Int32} (hkd : kd = 3 ∨ kd = 4) (ha : h a = some (.inl (kd, z, .inr (.inr (.inr (.inr f)))))) (hi : vp_in i z) (hb : f i.toNatClampNeg = some b) (d : decode cc pc = .ok (.aaload, 1)) (hp : pc + 1 = pc') (kk : G K cells slots pc' lv (.ref b :: st) h n) : G K cells slots pc lv (.int i :: .ref a :: st) h n := by
  obtain ⟨p, l, e, R, s, m, args, below, meth, c, nL, E, Q⟩ := K
  intro ls H locs hl hR hn hS
  subst hp
  have e1 : va_rf (f i.toNatClampNeg) = .ref b := by rw [hb]; rfl
  rcases hkd with rfl | rfl
  · exact va_aldq (D := E.1) C.1 C.2.1 C.2.2.2.2.2.1.1 (hR.one ha) 0 3 rfl rfl hi d (by rw [e1]; exact kk ls H locs hl hR hn hS)
  · exact va_aldq (D := E.1) C.1 C.2.1 C.2.2.2.2.2.1.1 (hR.one ha) 0 4 rfl rfl hi d (by rw [e1]; exact kk ls H locs hl hR hn hS)
theorem g_iast (C : Cx K own nm cc ret) {z : Nat} {f : Nat → Int32} {i x : Int32} (ha : h a = some (.inl (0, z, .inl f))) (hi : vp_in i z) (he : hU h a (.inl (0, z, .inl (va_up f i.toNatClampNeg x))) = h') (d : decode cc pc = .ok (.iastore, 1)) (hp : pc + 1 = pc') (kk : G K cells slots pc' lv st h' n) : G K cells slots pc lv (.int x :: .int i :: .ref a :: st) h n := by
  obtain ⟨p, l, e, R, s, m, args, below, meth, c, nL, E, Q⟩ := K
  intro ls H locs hl hR hn hS
  subst hp
  subst he
  obtain ⟨hat, h0⟩ := hR a _ ha
  have hK := C.2.2.2.2.2.1.1
  refine W.iast C.1 C.2.1 hat ((hK.2 0 _ rfl).1 z (fun j => .int (f j))) (fun q => by cases q) (by show ¬ (i < 0 ∨ (arrV _ _ _).slots.size ≤ _); rw [arrV_size]; exact hi) rfl rfl d fun H1 e z1 oq => ?_
  refine kk ls H1 _ hl (hR.set h0 ?_ oq) (z1.trans hn) (hS.put z1 oq h0)
  show H1[a]? = some (vp_cell _ _)
  rw [e]
  show some ((arrV (E.2.1 0) z (fun j => .int (f j))).setSlot _ _) = some (arrV (E.2.1 0) z (fun j => .int (va_up f i.toNatClampNeg x j)))
  rw [arrV_store]
  congr 2
  funext q
  by_cases hq : q = i.toNatClampNeg
  · simp [updV, va_up, hq]
  · simp [updV, va_up, hq]
theorem g_last (C : Cx K own nm cc ret) {z : Nat} {f : Nat → Int64} {i : Int32} {x : Int64} (ha : h a = some (.inl (1, z, .inr (.inl f)))) (hi : vp_in i z) (he : hU h a (.inl (1, z, .inr (.inl (va_up f i.toNatClampNeg x)))) = h') (d : decode cc pc = .ok (.lastore, 1)) (hp : pc + 1 = pc') (kk : G K cells slots pc' lv st h' n) : G K cells slots pc lv (.long x :: .int i :: .ref a :: st) h n := by
  obtain ⟨p, l, e, R, s, m, args, below, meth, c, nL, E, Q⟩ := K
  intro ls H locs hl hR hn hS
  subst hp
  subst he
  obtain ⟨hat, h0⟩ := hR a _ ha
  have hK := C.2.2.2.2.2.1.1
  refine W.last C.1 C.2.1 hat ((hK.2 1 _ rfl).1 z (fun j => .long (f j))) (fun q => by cases q) (by show ¬ (i < 0 ∨ (arrV _ _ _).slots.size ≤ _); rw [arrV_size]; exact hi) rfl rfl d fun H1 e z1 oq => ?_
  refine kk ls H1 _ hl (hR.set h0 ?_ oq) (z1.trans hn) (hS.put z1 oq h0)
  show H1[a]? = some (vp_cell _ _)
  rw [e]
  show some ((arrV (E.2.1 1) z (fun j => .long (f j))).setSlot _ _) = some (arrV (E.2.1 1) z (fun j => .long (va_up f i.toNatClampNeg x j)))
  rw [arrV_store]
  congr 2
  funext q
  by_cases hq : q = i.toNatClampNeg
  · simp [updV, va_up, hq]
  · simp [updV, va_up, hq]
theorem g_zast (C : Cx K own nm cc ret) {z : Nat} {f : Nat → Int32} {i x : Int32} (hx : narrow .boolean (.int x) = .int x) (ha : h a = some (.inl (2, z, .inl f))) (hi : vp_in i z) (he : hU h a (.inl (2, z, .inl (va_up f i.toNatClampNeg x))) = h') (d : decode cc pc = .ok (.bastore, 1)) (hp : pc + 1 = pc') (kk : G K cells slots pc' lv st h' n) : G K cells slots pc lv (.int x :: .int i :: .ref a :: st) h n := by
  obtain ⟨p, l, e, R, s, m, args, below, meth, c, nL, E, Q⟩ := K
  intro ls H locs hl hR hn hS
  subst hp
  subst he
  obtain ⟨hat, h0⟩ := hR a _ ha
  have hK := C.2.2.2.2.2.1.1
  refine W.zast C.1 C.2.1 hat ((hK.2 2 _ rfl).1 z (fun j => .int (f j))) (fun q => by cases q) (by show ¬ (i < 0 ∨ (arrV _ _ _).slots.size ≤ _); rw [arrV_size]; exact hi) rfl rfl d fun H1 e z1 oq => ?_
  refine kk ls H1 _ hl (hR.set h0 ?_ oq) (z1.trans hn) (hS.put z1 oq h0)
  show H1[a]? = some (vp_cell _ _)
  rw [e, hx]
  show some ((arrV (E.2.1 2) z (fun j => .int (f j))).setSlot _ _) = some (arrV (E.2.1 2) z (fun j => .int (va_up f i.toNatClampNeg x j)))
  rw [arrV_store]
  congr 2
  funext q
  by_cases hq : q = i.toNatClampNeg
  · simp [updV, va_up, hq]
  · simp [updV, va_up, hq]
theorem g_gets (C : Cx K own nm cc ret) {Cs nf df : String} (hZ : va_Z Cs nf df v (xA (kE K)) K.2.2.2.2.1 K.2.2.2.2.1.heap) (hw : Cond.fieldLink own ix Cs nf df ∈ TT) (d : decode cc pc = .ok (.getstatic ix, 3)) (hp : pc + 3 = pc') (kk : G K cells slots pc' lv (v :: st) h n) : G K cells slots pc lv st h n := by
  obtain ⟨p, l, e, R, s, m, args, below, meth, c, nL, E, Q⟩ := K
  intro ls H locs hl hR hn hS
  subst hp
  exact va_gets C.1 C.2.1 hZ hS C.2.2.2.1 (C.2.2.2.2.1 _ hw) (fun _ z => z) d (kk ls H locs hl hR hn hS)
theorem g_sild (C : Cx K own nm cc ret) {t z : Nat} {f : Nat → Int32} {i : Int32} (hT : va_T .int t z (fun j => .int (f j)) (xA (kE K)) K.2.2.2.2.1 K.2.2.2.2.1.heap) (hi : vp_in i z) (d : decode cc pc = .ok (.iaload, 1)) (hp : pc + 1 = pc') (kk : G K cells slots pc' lv (.int (f i.toNatClampNeg) :: st) h n) : G K cells slots pc lv (.int i :: .ref t :: st) h n := by
  obtain ⟨p, l, e, R, s, m, args, below, meth, c, nL, E, Q⟩ := K
  intro ls H locs hl hR hn hS
  subst hp
  obtain ⟨cell, h1, h2, h3, h4, h5, h6, h7⟩ := hT
  have hlt : i.toNatClampNeg < z := Nat.not_le.mp fun q => hi (Or.inr q)
  exact W.iald C.1 C.2.1 (by rw [hS.2.1 t (Array.getElem?_eq_some_iff.mp h1).1 h7]; exact h1) h2 h3 (fun q => hi (q.imp id (fun x => Nat.le_trans h4 x))) (h6 _ hlt) rfl rfl d (kk ls H locs hl hR hn hS)
theorem g_slld (C : Cx K own nm cc ret) {t z : Nat} {f : Nat → Int64} {i : Int32} (hT : va_T .long t z (fun j => .long (f j)) (xA (kE K)) K.2.2.2.2.1 K.2.2.2.2.1.heap) (hi : vp_in i z) (d : decode cc pc = .ok (.laload, 1)) (hp : pc + 1 = pc') (kk : G K cells slots pc' lv (.long (f i.toNatClampNeg) :: st) h n) : G K cells slots pc lv (.int i :: .ref t :: st) h n := by
  obtain ⟨p, l, e, R, s, m, args, below, meth, c, nL, E, Q⟩ := K
  intro ls H locs hl hR hn hS
  subst hp
  obtain ⟨cell, h1, h2, h3, h4, h5, h6, h7⟩ := hT
  have hlt : i.toNatClampNeg < z := Nat.not_le.mp fun q => hi (Or.inr q)
  exact W.lald C.1 C.2.1 (by rw [hS.2.1 t (Array.getElem?_eq_some_iff.mp h1).1 h7]; exact h1) h2 h3 (fun q => hi (q.imp id (fun x => Nat.le_trans h4 x))) (h6 _ hlt) rfl rfl d (kk ls H locs hl hR hn hS)
end Heap
section Ends
variable {K : KX} {own nm : String} {cc : ByteArray} {ret : Option FieldType} {cells slots pc pc' : Nat} {lv : List (Nat × Value)} {st : List Value} {h h' : AH} {n n' : Nat}
/-- a contract's end: what it answers, and the cells behind it -/
def cQ (E : Ex) (r : Option Value) (h : AH) (n : Nat) : Array Value → State → Outcome → State → Prop := fun _ st o t => o = .returned r ∧ hR E h t.heap ∧ t.heap.size = n ∧ va_F (xA E) st t
/-- what a walk must end in, where the method's own end is cQ -/
def KQ (K : KX) (mc ms : Nat) (r : Option Value) (h : AH) (n : Nat) : Prop := match K with
  | (_, _, _, _, s, _, args, below, _, _, _, E, Q) => Q = MQ below (cQ E r h n) args s mc ms (xA E)
theorem g_iret (C : Cx K own nm cc (some .int)) {v : Int32} (hK : KQ K cells slots (some (.int v)) h n) (d : decode cc pc = .ok (.ireturn, 1)) : G K cells slots pc lv [.int v] h n := by
  obtain ⟨p, l, e, R, s, m, args, below, meth, c, nL, E, Q⟩ := K
  intro ls H locs hl hR hn hS
  cases hK
  have hlocks : meth.locks = false := C.2.2.2.2.2.2.2.1
  exact W.iret C.1 C.2.1 C.2.2.2.2.2.2.1 (fun t ht hW => ⟨rfl, by rw [ht]; exact hR, by rw [ht]; exact hn, hS.F ht⟩) hS.2.2 d hlocks
theorem g_zret (C : Cx K own nm cc (some .boolean)) {v : Int32} (hv : narrow .boolean (.int v) = .int v) (hK : KQ K cells slots (some (.int v)) h n) (d : decode cc pc = .ok (.ireturn, 1)) : G K cells slots pc lv [.int v] h n := by
  obtain ⟨p, l, e, R, s, m, args, below, meth, c, nL, E, Q⟩ := K
  intro ls H locs hl hR hn hS
  cases hK
  have hlocks : meth.locks = false := C.2.2.2.2.2.2.2.1
  exact W.zret C.1 C.2.1 C.2.2.2.2.2.2.1 hv (fun t ht hW => ⟨rfl, by rw [ht]; exact hR, by rw [ht]; exact hn, hS.F ht⟩) hS.2.2 d hlocks
theorem g_lret (C : Cx K own nm cc (some .long)) {v : Int64} (hK : KQ K cells slots (some (.long v)) h n) (d : decode cc pc = .ok (.lreturn, 1)) : G K cells slots pc lv [.long v] h n := by
  obtain ⟨p, l, e, R, s, m, args, below, meth, c, nL, E, Q⟩ := K
  intro ls H locs hl hR hn hS
  cases hK
  have hlocks : meth.locks = false := C.2.2.2.2.2.2.2.1
  exact W.lret C.1 C.2.1 C.2.2.2.2.2.2.1 (fun t ht hW => ⟨rfl, by rw [ht]; exact hR, by rw [ht]; exact hn, hS.F ht⟩) hS.2.2 d hlocks
theorem g_vret (C : Cx K own nm cc none) (hK : KQ K cells slots none h n) (d : decode cc pc = .ok (.return_, 1)) : G K cells slots pc lv [] h n := by
  obtain ⟨p, l, e, R, s, m, args, below, meth, c, nL, E, Q⟩ := K
  intro ls H locs hl hR hn hS
  cases hK
  have hlocks : meth.locks = false := C.2.2.2.2.2.2.2.1
  exact W.vret C.1 C.2.1 C.2.2.2.2.2.2.1 (fun t ht hW => ⟨rfl, by rw [ht]; exact hR, by rw [ht]; exact hn, hS.F ht⟩) hS.2.2 d hlocks
end Ends
/-- **a method's contract**: from every start that holds the cells h, it returns r and leaves the cells h' -/
def Con (l : Launch) (E : Ex) (y : MethodName) (ws : List Cond) (rm : Room) (mc ms : Nat) (as : List Value) (h : AH) (n : Nat) (r : Option Value) (h' : AH) (n' : Nat) : Prop :=
  Met l y ws rm (va_Pc as (fun U => En E U U.heap ∧ hR E h U.heap ∧ U.heap.size = n)) (cQ E r h' n') mc ms (xA E)
theorem con_intro {l : Launch} {E : Ex} {y : MethodName} {cc : ByteArray} {maxL : Nat} {ret : Option FieldType} {rm : Room} {mc ms : Nat} {as : List Value} {h : AH} {n : Nat} {r : Option Value} {h' : AH} {n' : Nat}
    (hy : plainName y.cls = true) (hsz : (lg_sl as).length ≤ maxL)
    (body : ∀ K : KX, Cx K y.cls y.name cc ret → kR K = rm → kL K = l → kE K = E → kN K = maxL → KQ K mc ms r h' n' → G K 0 0 0 (lv_args 0 as) [] h n) :
    Con l E y (.code y cc maxL ret :: TT) rm mc ms as h n r h' n' := by
  refine Met.ofW (cc := cc) (maxL := maxL) (ret := ret) hy rfl ?_
  intro p e s m args below meth c s₁ B hml hv
  obtain ⟨rfl, hEn, hR0, hn⟩ := hv
  have hts := atoms_spec (ws := Cond.code y cc maxL ret :: TT) B.pre
  have hown : s.vm.findClass y.cls = some m.cls := findClass_of_methodNamed B.named
  have hl := lv_entry as (n := maxL) hsz
  rw [lg_entry_eq]
  refine body (p, l, e, _, s, m, as.toArray, below, meth, c, maxL, E, _) ⟨B.exec, B.bytes, hml, hown, fun w hw => hts w (List.mem_cons_of_mem _ hw), hEn, B.returns, B.notSynchronized, (name_of_methodNamed B.named B.method).1⟩ rfl rfl rfl rfl rfl _ _ _ hl hR0 hn va_S.rf
end
section
/-! THE CORE, its calls: by contract; making objects and arrays -/
def WSt (own : String) (ix : Nat) (y : MethodName) (b : ByteArray) (maxL : Nat) (ret : Option FieldType) (k : Nat) : Prop :=
  Cond.methodLink own ix y ∈ TT ∧ Cond.static y ∈ TT ∧ Cond.initialized y.cls ∈ TT ∧ Cond.code y b maxL ret ∈ TT ∧ (y.cls ≠ "java/lang/invoke/MethodHandle" ∧ y.cls ≠ "java/lang/invoke/VarHandle" ∧ (parseMethodDescriptor y.desc).map (fun d => d.parameters.length) = some k)
def WVi (own : String) (ix : Nat) (y : MethodName) (b : ByteArray) (maxL : Nat) (ret : Option FieldType) (k : Nat) : Prop :=
  Cond.methodLink own ix y ∈ TT ∧ Cond.instanceMethod y ∈ TT ∧ Cond.selects y.cls y y ∈ TT ∧ Cond.initialized y.cls ∈ TT ∧ Cond.code y b maxL ret ∈ TT ∧ (y.cls ≠ "java/lang/invoke/MethodHandle" ∧ y.cls ≠ "java/lang/invoke/VarHandle" ∧ (parseMethodDescriptor y.desc).map (fun d => d.parameters.length) = some k)
def WSp (own : String) (ix : Nat) (y : MethodName) (b : ByteArray) (maxL : Nat) (k : Nat) : Prop :=
  Cond.methodLink own ix y ∈ TT ∧ Cond.instanceMethod y ∈ TT ∧ Cond.initialized y.cls ∈ TT ∧ Cond.code y b maxL none ∈ TT ∧ y.name = "<init>" ∧ (y.cls ≠ "java/lang/invoke/MethodHandle" ∧ y.cls ≠ "java/lang/invoke/VarHandle" ∧ (parseMethodDescriptor y.desc).map (fun d => d.parameters.length) = some k)
def Rm (R rm : Room) (maxL cells slots mc ms : Nat) : Prop := rm.cells = mc ∧ rm.slots = ms ∧ (rm.frames + 1 ≤ R.frames ∧ 8 + (maxL + 11) + rm.locals ≤ R.locals) ∧ (cells + mc ≤ R.cells ∧ slots + ms ≤ R.slots)
section Calls
variable {K : KX} {own nm : String} {cc : ByteArray} {ret : Option FieldType} {cells slots pc pc' : Nat} {lv : List (Nat × Value)} {st st' st2 : List Value} {h h' : AH} {n n' : Nat}
variable {y : MethodName} {b : ByteArray} {maxL mc ms ix : Nat} {ry : Option FieldType} {rm : Room} {as : List Value} {r : Option Value} {k : Nat}
theorem va_S.after {A : Nat → Prop} {H0 H H1 : Heap} {locs L : List Loc} (hS : va_S A H0 H locs) (hz : H.size ≤ H1.size) (hk : ∀ q : Nat, q < H.size → ¬ A q → H1[q]? = H[q]?) (hL : ∀ q ∈ L, A q.base) : va_S A H0 H1 (locs ++ L) :=
  ⟨Nat.le_trans hS.1 hz, fun q h1 h2 => (hk q (Nat.lt_of_lt_of_le h1 hS.1) h2).trans (hS.2.1 q h1 h2), fun q hq => by
    rcases List.mem_append.mp hq with z | z
    · exact hS.2.2 q z
    · exact hL q z⟩
theorem g_back {p : Program} {l : Launch} {e : Env} {R : Room} {s : State} {m : MethodId} {args : Array Value} {below : List Frame} {meth : Method} {c : Code} {nL : Nat} {E : Ex} {Q : State → Prop} {H : Heap} {locs : List Loc} {ls : Array Slot} {aa : Array Value}
    (hr : va_Run p l e R s m args below meth c H locs cells slots mc ms (F0 m pc ls st) st' (cQ E r h' n' aa) (xA E)) (hl : lv_has ls nL lv) (hS : va_S (xA E) s.heap H locs) (hst : r.toList ++ st' = st2)
    (kk : G (p, l, e, R, s, m, args, below, meth, c, nL, E, Q) (cells + mc) (slots + ms) (pc + 3) lv st2 h' n') : W p l e R s m args below meth c H locs cells slots Q (F0 m pc ls st) := by
  intro T hT X
  obtain ⟨v, st₀, t, T', L, h0, X', hL, e1, e2, ⟨hv, hR', hn', hF⟩, stp⟩ := hr T hT X
  cases hv
  subst hst
  obtain ⟨hz, hk⟩ := hF
  rw [h0] at hz hk
  obtain ⟨t2, a1, b1⟩ := kk ls t.heap (locs ++ L) hl hR' hn' (hS.after hz hk hL) T' e1 X'
  exact ⟨t2, stp t2 a1, b1⟩
theorem con_pre {E : Ex} {s : State} {H : Heap} {locs : List Loc} (hE : En E s s.heap) (hR0 : hR E h H) (hn : H.size = n) (hS : va_S (xA E) s.heap H locs) : PreS s H (va_Pc as (fun U => En E U U.heap ∧ hR E h U.heap ∧ U.heap.size = n)) as :=
  ⟨fun a U g mk q => by obtain ⟨q0, q1, q2, q3⟩ := q; exact ⟨q0, q1.blind, q2, q3⟩, fun U hU hW => ⟨rfl, hE.at hS hW hU, by rw [hU]; exact hR0, by rw [hU]; exact hn⟩⟩
theorem con_good {c0 d0 : Cond} {y0 : MethodName} (h : d0 ∈ TT) : GoodIn TT (d0 :: TT) := tt_in0 h
theorem g_callS (C : Cx K own nm cc ret) (w : WSt own ix y b maxL ry k) (cn : Con (kL K) (kE K) y (.code y b maxL ry :: TT) rm mc ms as h n r h' n') (hrm : Rm (kR K) rm maxL cells slots mc ms) (hk : as.length = k) (hst : as.reverse ++ st' = st) (hcat : (st'.map fun v => v.category).sum ≤ 8) (hr2 : r.toList ++ st' = st2) (d : decode cc pc = .ok (.invokestatic ix, 3)) (hp : pc + 3 = pc') (kk : G K (cells + mc) (slots + ms) pc' lv st2 h' n') : G K cells slots pc lv st h n := by
  obtain ⟨p, l, e, R, s, m, args, below, meth, c, nL, E, Q⟩ := K
  intro ls H locs hl hR0 hn hS
  subst hp
  have hts : ∀ x ∈ TT, x.before args s = true := C.2.2.2.2.1
  obtain ⟨w1, w2, w3, w4, w5⟩ := w
  obtain ⟨r1, r2, r3, r4⟩ := hrm
  have cb := callB_of (n := k) (R := R) (own := own) (index := ix) (rm := rm) (mc := mc) (ms := ms) hts (tt_in0 w4) rfl r1 r2 (hts _ w3) (hts _ w1) w5 r3
  exact g_back (va_runS (n := k) (ret := ry) ⟨C.1, C.2.1, C.2.2.1, C.2.2.2.1, hts⟩ cn ⟨cb, hts _ w2⟩ (con_pre C.2.2.2.2.2.1 hR0 hn hS) rfl hk hl.1 hst.symm (lv_room hcat) d r4) hl hS hr2 kk
theorem g_callV (C : Cx K own nm cc ret) (w : WVi own ix y b maxL ry k) {a ci N : Nat} {fs : List Value} {T : u_T} (hcl : vwCl[ci]? = some (y.cls, T, N)) (ha : h a = some (.inr (ci, fs))) (cn : Con (kL K) (kE K) y (.code y b maxL ry :: TT) rm mc ms (.ref a :: as) h n r h' n') (hrm : Rm (kR K) rm maxL cells slots mc ms) (hk : as.length = k) (hst : as.reverse ++ .ref a :: st' = st) (hcat : (st'.map fun v => v.category).sum ≤ 8) (hr2 : r.toList ++ st' = st2) (d : decode cc pc = .ok (.invokevirtual ix, 3)) (hp : pc + 3 = pc') (kk : G K (cells + mc) (slots + ms) pc' lv st2 h' n') : G K cells slots pc lv st h n := by
  obtain ⟨p, l, e, R, s, m, args, below, meth, c, nL, E, Q⟩ := K
  intro ls H locs hl hR0 hn hS
  subst hp
  have hts : ∀ x ∈ TT, x.before args s = true := C.2.2.2.2.1
  obtain ⟨w1, w2, w3, w4, w5, w6⟩ := w
  obtain ⟨r1, r2, r3, r4⟩ := hrm
  have cb := callB_of (n := k) (R := R) (own := own) (index := ix) (rm := rm) (mc := mc) (ms := ms) hts (tt_in0 w5) rfl r1 r2 (hts _ w4) (hts _ w1) w6 r3
  obtain ⟨hb, hu⟩ := con_pre (as := .ref a :: as) C.2.2.2.2.2.1 hR0 hn hS
  exact g_back (va_runV (n := k) (C := y.cls) (ret := ry) ⟨C.1, C.2.1, C.2.2.1, C.2.2.2.1, hts⟩ cn ⟨cb, hts _ w2, hts _ w3⟩ ⟨hb, va_recv C.2.2.2.2.2.1.1 (hR0.one ha) hcl (q0 := 0) rfl, hu⟩ rfl hk hl.1 hst.symm (lv_room hcat) d r4) hl hS hr2 kk
theorem g_callI (C : Cx K own nm cc ret) (w : WSp own ix y b maxL k) {a : Nat} (cn : Con (kL K) (kE K) y (.code y b maxL none :: TT) rm mc ms (.ref a :: as) h n r h' n') (hrm : Rm (kR K) rm maxL cells slots mc ms) (hk : as.length = k) (hst : as.reverse ++ .ref a :: st' = st) (hcat : (st'.map fun v => v.category).sum ≤ 8) (hr2 : r.toList ++ st' = st2) (d : decode cc pc = .ok (.invokespecial ix, 3)) (hp : pc + 3 = pc') (kk : G K (cells + mc) (slots + ms) pc' lv st2 h' n') : G K cells slots pc lv st h n := by
  obtain ⟨p, l, e, R, s, m, args, below, meth, c, nL, E, Q⟩ := K
  intro ls H locs hl hR0 hn hS
  subst hp
  have hts : ∀ x ∈ TT, x.before args s = true := C.2.2.2.2.1
  obtain ⟨w1, w2, w3, w4, w5, w6⟩ := w
  obtain ⟨r1, r2, r3, r4⟩ := hrm
  have cb := callB_of (n := k) (R := R) (own := own) (index := ix) (rm := rm) (mc := mc) (ms := ms) hts (tt_in0 w4) rfl r1 r2 (hts _ w3) (hts _ w1) w6 r3
  exact g_back (va_runI (n := k) ⟨C.1, C.2.1, C.2.2.1, C.2.2.2.1, hts⟩ cn ⟨cb, w5, hts _ w2⟩ (con_pre C.2.2.2.2.2.1 hR0 hn hS) rfl hk hl.1 hst.symm (lv_room hcat) d r4) hl hS hr2 kk
theorem g_callN (C : Cx K own nm cc ret) (hl0 : va_Nw (.methodLinkNest own ix y RX6) K.2.2.2.2.1) (w : Cond.static y ∈ TT ∧ Cond.initialized y.cls ∈ TT ∧ Cond.code y b maxL ry ∈ TT ∧ (y.cls ≠ "java/lang/invoke/MethodHandle" ∧ y.cls ≠ "java/lang/invoke/VarHandle" ∧ (parseMethodDescriptor y.desc).map (fun d => d.parameters.length) = some k)) (cn : Con (kL K) (kE K) y (.code y b maxL ry :: TT) rm mc ms as h n r h' n') (hrm : Rm (kR K) rm maxL cells slots mc ms) (hk : as.length = k) (hst : as.reverse ++ st' = st) (hcat : (st'.map fun v => v.category).sum ≤ 8) (hr2 : r.toList ++ st' = st2) (d : decode cc pc = .ok (.invokestatic ix, 3)) (hp : pc + 3 = pc') (kk : G K (cells + mc) (slots + ms) pc' lv st2 h' n') : G K cells slots pc lv st h n := by
  obtain ⟨p, l, e, R, s, m, args, below, meth, c, nL, E, Q⟩ := K
  intro ls H locs hl hR0 hn hS
  subst hp
  have hts : ∀ x ∈ TT, x.before args s = true := C.2.2.2.2.1
  obtain ⟨w2, w3, w4, w5⟩ := w
  obtain ⟨r1, r2, r3, r4⟩ := hrm
  have cb := va_cnB (n := k) (R := R) (own := own) (index := ix) (rm := rm) (mc := mc) (ms := ms) hts (tt_in0 w4) rfl r1 r2 hl0 (hts _ w3) w5 r3
  exact g_back (va_runSN (n := k) (ret := ry) ⟨C.1, C.2.1, C.2.2.1, C.2.2.2.1, hts⟩ cn ⟨cb, hts _ w2, trivial⟩ (con_pre C.2.2.2.2.2.1 hR0 hn hS) rfl hk hl.1 hst.symm (lv_room hcat) d r4) hl hS hr2 kk
theorem g_obj (C : Cx K own nm cc ret) {a : Nat} (w1 : Cond.methodLink own ix Lib.objectInit ∈ TT) (w2 : Cond.instanceMethod Lib.objectInit ∈ TT) (w3 : Cond.code Lib.objectInit ⟨#[0xb1]⟩ 1 none ∈ TT) (hfr : 1 ≤ (kR K).frames) (hcat : (st.map fun v => v.category).sum + 12 ≤ (kR K).locals) (d : decode cc pc = .ok (.invokespecial ix, 3)) (hp : pc + 3 = pc') (kk : G K cells slots pc' lv st h n) : G K cells slots pc lv (.ref a :: st) h n := by
  obtain ⟨p, l, e, R, s, m, args, below, meth, c, nL, E, Q⟩ := K
  intro ls H locs hl hR0 hn hS
  subst hp
  have hts : ∀ x ∈ TT, x.before args s = true := C.2.2.2.2.1
  have hcat : (st.map fun v => v.category).sum + 12 ≤ R.locals := hcat
  exact W.objInit C.1 C.2.1 C.2.2.2.1 (hts _ w1) (hts _ w2) (hts _ w3) rfl (by rw [C.2.2.1]; exact hl.1) rfl d hfr (by have : (F0 m pc ls (.ref a :: st)).monitorRoom = 0 := rfl; rw [this]; omega) (kk ls H locs hl hR0 hn hS)
theorem g_new (C : Cx K own nm cc ret) {ci N : Nat} {Cn : String} {T : u_T} {ty : Nat → FieldType} {fs : List Value} (F : FC ci Cn T N ty) (w1 : Cond.classLink own ix Cn ∈ TT) (w2 : Cond.instantiable Cn N ∈ TT) (w3 : Cond.initialized Cn ∈ TT) (hfs : ∀ j, j < N → defaultValue (ty j) = vp_V fs j) (hc : cells + 1 ≤ (kR K).cells) (hs : slots + N ≤ (kR K).slots) (hb : (kE K).2.2.2 ≤ n) (he : hU h n (.inr (ci, fs)) = h') (d : decode cc pc = .ok (.new ix, 3)) (hp : pc + 3 = pc') (kk : G K (cells + 1) (slots + N) pc' lv (.ref n :: st) h' (n + 1)) : G K cells slots pc lv st h n := by
  obtain ⟨p, l, e, R, s, m, args, below, meth, c, nL, E, Q⟩ := K
  intro ls H locs hl hR0 hn hS
  subst hp
  subst he
  subst hn
  have hts : ∀ x ∈ TT, x.before args s = true := C.2.2.2.2.1
  have hKn := C.2.2.2.2.2.1.1.1 ci _ F.1
  refine W.newcK C.1 C.2.1 C.2.2.2.1 (hts _ w1) (hts _ w2) (hts _ w3) rfl d hc hs hKn.2.1 rfl fun H1 kC hkC e1 z1 o1 => ?_
  exact kk ls H1 locs hl (hR0.new hb ⟨_, F.1, (u_born ty hts F.2.1 hKn hkC e1 F.2.2.1).to hfs⟩ o1) z1 (hS.push z1 o1)
theorem g_newI (C : Cx K own nm cc ret) {x : Int32} {N : Nat} (w1 : Cond.arrayClass .int ∈ TT) (hx : ¬ x < 0) (hN : x.toNatClampNeg = N) (hby : N * 4 ≤ 536870912) (hc : cells + 1 ≤ (kR K).cells) (hs : slots + N ≤ (kR K).slots) (hb : (kE K).2.2.2 ≤ n) (he : hU h n (.inl (0, N, .inl (fun _ => 0))) = h') (d : decode cc pc = .ok (.newarray .int, 2)) (hp : pc + 2 = pc') (kk : G K (cells + 1) (slots + N) pc' lv (.ref n :: st) h' (n + 1)) : G K cells slots pc lv (.int x :: st) h n := by
  obtain ⟨p, l, e, R, s, m, args, below, meth, c, nL, E, Q⟩ := K
  intro ls H locs hl hR0 hn hS
  subst hp
  subst he
  subst hn
  have hts : ∀ x ∈ TT, x.before args s = true := C.2.2.2.2.1
  refine va_newaK C.1 C.2.1 (atype := .int) (hts _ w1) rfl d rfl hx hN hby hc hs rfl fun H1 cA e1 z1 o1 hAr hNm => ?_
  have hA : cA = E.2.1 0 := Option.some.inj (hNm.symm.trans ((C.2.2.2.2.2.1.1.2 0 _ rfl).2))
  subst hA
  exact kk ls H1 locs hl (hR0.new hb e1 o1) z1 (hS.push z1 o1)
theorem g_newL (C : Cx K own nm cc ret) {x : Int32} {N : Nat} (w1 : Cond.arrayClass .long ∈ TT) (hx : ¬ x < 0) (hN : x.toNatClampNeg = N) (hby : N * 8 ≤ 536870912) (hc : cells + 1 ≤ (kR K).cells) (hs : slots + N ≤ (kR K).slots) (hb : (kE K).2.2.2 ≤ n) (he : hU h n (.inl (1, N, .inr (.inl (fun _ => 0)))) = h') (d : decode cc pc = .ok (.newarray .long, 2)) (hp : pc + 2 = pc') (kk : G K (cells + 1) (slots + N) pc' lv (.ref n :: st) h' (n + 1)) : G K cells slots pc lv (.int x :: st) h n := by
  obtain ⟨p, l, e, R, s, m, args, below, meth, c, nL, E, Q⟩ := K
  intro ls H locs hl hR0 hn hS
  subst hp
  subst he
  subst hn
  have hts : ∀ x ∈ TT, x.before args s = true := C.2.2.2.2.1
  refine va_newaK C.1 C.2.1 (atype := .long) (hts _ w1) rfl d rfl hx hN hby hc hs rfl fun H1 cA e1 z1 o1 hAr hNm => ?_
  have hA : cA = E.2.1 1 := Option.some.inj (hNm.symm.trans ((C.2.2.2.2.2.1.1.2 1 _ rfl).2))
  subst hA
  exact kk ls H1 locs hl (hR0.new hb e1 o1) z1 (hS.push z1 o1)
theorem g_newZ (C : Cx K own nm cc ret) {x : Int32} {N : Nat} (w1 : Cond.arrayClass .boolean ∈ TT) (hx : ¬ x < 0) (hN : x.toNatClampNeg = N) (hby : N * 1 ≤ 536870912) (hc : cells + 1 ≤ (kR K).cells) (hs : slots + N ≤ (kR K).slots) (hb : (kE K).2.2.2 ≤ n) (he : hU h n (.inl (2, N, .inl (fun _ => 0))) = h') (d : decode cc pc = .ok (.newarray .boolean, 2)) (hp : pc + 2 = pc') (kk : G K (cells + 1) (slots + N) pc' lv (.ref n :: st) h' (n + 1)) : G K cells slots pc lv (.int x :: st) h n := by
  obtain ⟨p, l, e, R, s, m, args, below, meth, c, nL, E, Q⟩ := K
  intro ls H locs hl hR0 hn hS
  subst hp
  subst he
  subst hn
  have hts : ∀ x ∈ TT, x.before args s = true := C.2.2.2.2.1
  refine va_newaK C.1 C.2.1 (atype := .boolean) (hts _ w1) rfl d rfl hx hN hby hc hs rfl fun H1 cA e1 z1 o1 hAr hNm => ?_
  have hA : cA = E.2.1 2 := Option.some.inj (hNm.symm.trans ((C.2.2.2.2.2.1.1.2 2 _ rfl).2))
  subst hA
  exact kk ls H1 locs hl (hR0.new hb e1 o1) z1 (hS.push z1 o1)
theorem g_newQ (C : Cx K own nm cc ret) {x : Int32} {N kd : Nat} {Cn : String} (hkd : (kd = 3 ∧ Cn = RX1) ∨ (kd = 4 ∧ Cn = RX3)) (w1 : Cond.classLink own ix Cn ∈ TT) (hx : ¬ x < 0) (hN : x.toNatClampNeg = N) (hby : N * 4 ≤ 536870912) (hc : cells + 1 ≤ (kR K).cells) (hs : slots + N ≤ (kR K).slots) (hb : (kE K).2.2.2 ≤ n) (he : hU h n (.inl (kd, N, .inr (.inr (.inr (.inr (fun _ => none)))))) = h') (d : decode cc pc = .ok (.anewarray ix, 3)) (hp : pc + 3 = pc') (kk : G K (cells + 1) (slots + N) pc' lv (.ref n :: st) h' (n + 1)) : G K cells slots pc lv (.int x :: st) h n := by
  obtain ⟨p, l, e, R, s, m, args, below, meth, c, nL, E, Q⟩ := K
  intro ls H locs hl hR0 hn hS
  subst hp
  subst he
  subst hn
  subst hN
  have hts : ∀ x ∈ TT, x.before args s = true := C.2.2.2.2.1
  have hEn := C.2.2.2.2.2.1
  have ho : va_AO Cn s := by
    rcases hkd with ⟨-, rfl⟩ | ⟨-, rfl⟩
    · exact hEn.2.2.2.2.2.1
    · exact hEn.2.2.2.2.2.2.1
  have hq : ∀ cA : ClassId, s.vm.findClass ("[" ++ (FieldType.object Cn).toString) = some cA → cA = E.2.1 kd := by
    intro cA hc1
    rcases hkd with ⟨rfl, rfl⟩ | ⟨rfl, rfl⟩
    · obtain ⟨kA, comp, -, -, -, h4⟩ := (hEn.1.2 3 _ rfl).2
      exact Option.some.inj (hc1.symm.trans h4)
    · obtain ⟨kA, comp, -, -, -, h4⟩ := (hEn.1.2 4 _ rfl).2
      exact Option.some.inj (hc1.symm.trans h4)
  refine W.anew C.1 C.2.1 C.2.2.2.1 (hts _ w1) (va_AO.use ho) rfl d rfl hx hby hc hs fun cA kA comp f1 f2 f3 f4 => ?_
  have hA := hq cA f1
  subst hA
  refine kk ls _ locs hl (hR0.new hb ?_ (fun q hq => ?_)) (by simp) (hS.push (by simp) (fun q hq => ?_))
  · show (Array.push _ _)[_]? = some (vp_cell _ _)
    rw [arrV_new]
    simp [vp_cell, va_rf]
  · simp [Array.getElem?_push, Nat.ne_of_lt hq]
  · simp [Array.getElem?_push, Nat.ne_of_lt hq]
theorem g_aast (C : Cx K own nm cc ret) {z kd ci N a v : Nat} {T : u_T} {Cn : String} {f : Nat → Option Nat} {vs : List Value} {i : Int32} (hkd : (kd = 3 ∧ Cn = RX1) ∨ (kd = 4 ∧ Cn = RX3)) (hcl : vwCl[ci]? = some (Cn, T, N)) (ha : h a = some (.inl (kd, z, .inr (.inr (.inr (.inr f)))))) (hv : h v = some (.inr (ci, vs))) (hi : vp_in i z) (he : hU h a (.inl (kd, z, .inr (.inr (.inr (.inr (va_up f i.toNatClampNeg (some v))))))) = h') (d : decode cc pc = .ok (.aastore, 1)) (hp : pc + 1 = pc') (kk : G K cells slots pc' lv st h' n) : G K cells slots pc lv (.ref v :: .int i :: .ref a :: st) h n := by
  obtain ⟨p, l, e, R, s, m, args, below, meth, c, nL, E, Q⟩ := K
  intro ls H locs hl hR0 hn hS
  subst hp
  subst he
  obtain ⟨hat, h0⟩ := hR0 a _ ha
  obtain ⟨hav, h0v⟩ := hR0 v _ hv
  have hEn := C.2.2.2.2.2.1
  have hlt : i.toNatClampNeg < z := Nat.not_le.mp fun q => hi (Or.inr q)
  have h9 : ¬ i < 0 := fun q => hi (Or.inl q)
  obtain ⟨kA, comp, f1, f2, f3⟩ : ∃ (kA : Class) (comp : ClassId), s.vm.classes[E.2.1 kd]? = some kA ∧ kA.kind = .array comp (.object Cn) ∧ s.vm.findClass Cn = some comp := by
    rcases hkd with ⟨rfl, rfl⟩ | ⟨rfl, rfl⟩
    · obtain ⟨kA, comp, g1, g2, g3, -⟩ := (hEn.1.2 3 _ rfl).2
      exact ⟨kA, comp, g1, g2, g3⟩
    · obtain ⟨kA, comp, g1, g2, g3, -⟩ := (hEn.1.2 4 _ rfl).2
      exact ⟨kA, comp, g1, g2, g3⟩
  obtain ⟨r, h1, cell, q1, q2, q3, q4⟩ := hav
  have hr : r = (Cn, T, N) := Option.some.inj (h1.symm.trans hcl)
  subst hr
  have hKn := hEn.1.1 ci _ hcl
  obtain ⟨kC, hkC, hkind⟩ := hKn.2.2
  have hcomp : comp = E.1.1 ci := Option.some.inj (f3.symm.trans hKn.2.1)
  refine W.aast (t := .object Cn) (kcomp := kC) (kv := kC) (cv := cell) C.1 C.2.1 hat (fun q w => by cases w) (fun w => by cases w) f1 f2 rfl (by rw [hcomp]; exact hkC) ⟨h9, by show _ < (arrV _ _ _).slots.size; rw [arrV_size]; exact hlt⟩ q1 (fun q w => by rw [q3] at w; cases w) (by rw [q2]; exact hkC) (by rw [q2, hcomp]; exact va_assign hKn.2) rfl rfl d fun H1 e z1 oq => ?_
  refine kk ls H1 _ hl (hR0.set h0 ?_ oq) (z1.trans hn) (hS.put z1 oq h0)
  show H1[a]? = some (vp_cell _ _)
  rw [e]
  show some ((arrV (E.2.1 kd) z (fun j => va_rf (f j))).setSlot _ _) = some (arrV (E.2.1 kd) z (fun j => va_rf (va_up f i.toNatClampNeg (some v) j)))
  rw [arrV_store]
  congr 2
  funext q
  by_cases hq : q = i.toNatClampNeg
  · simp [updV, va_up, hq, va_rf]
  · simp [updV, va_up, hq]
theorem g_alen (C : Cx K own nm cc ret) {kd a : Nat} {x : vp_A} {v : Int32} {ty : FieldType} (hkd : (tyL (kE K))[kd]? = some ((kE K).2.1 kd, ty)) (ha : h a = some (.inl (kd, x))) (hv : Int32.ofNat x.1 = v) (d : decode cc pc = .ok (.arraylength, 1)) (hp : pc + 1 = pc') (kk : G K cells slots pc' lv (.int v :: st) h n) : G K cells slots pc lv (.ref a :: st) h n := by
  obtain ⟨p, l, e, R, s, m, args, below, meth, c, nL, E, Q⟩ := K
  intro ls H locs hl hR0 hn hS
  subst hp
  exact va_alen (D := E.1) C.1 C.2.1 C.2.2.2.2.2.1.1 (hR0.one ha) 0 kd rfl hkd hv d (kk ls H locs hl hR0 hn hS)
theorem g_aret {rt : FieldType} (C : Cx K own nm cc (some rt)) (hrt : (∃ n, rt = .object n) ∨ ∃ t, rt = .array t) {a : Nat} (hK : KQ K cells slots (some (.ref a)) h n) (d : decode cc pc = .ok (.areturn, 1)) : G K cells slots pc lv [.ref a] h n := by
  obtain ⟨p, l, e, R, s, m, args, below, meth, c, nL, E, Q⟩ := K
  intro ls H locs hl hR hn hS
  cases hK
  have hlocks : meth.locks = false := C.2.2.2.2.2.2.2.1
  exact W.aret C.1 C.2.1 C.2.2.2.2.2.2.1 hrt (Or.inr ⟨a, rfl⟩) (fun t ht hW => ⟨rfl, by rw [ht]; exact hR, by rw [ht]; exact hn, hS.F ht⟩) hS.2.2 d hlocks
theorem g_widen {k9 n9 : Nat} (h1 : cells ≤ k9) (h2 : slots ≤ n9) (kk : G K k9 n9 pc lv st h n) : G K cells slots pc lv st h n := by
  obtain ⟨p, l, e, R, s, m, args, below, meth, c, nL, E, Q⟩ := K
  intro ls H locs hl hR hn hS
  exact W.widen h1 h2 (kk ls H locs hl hR hn hS)
end Calls
end
section
/-! small rows for the printed walks: a tree of choices read backwards; blocks of cells; the words by name -/
theorem ift {α : Type} {c : Prop} [Decidable c] {A B r : α} (h : c) (e : (if c then A else B) = r) : A = r := by rw [if_pos h] at e; exact e
theorem iff' {α : Type} {c : Prop} [Decidable c] {A B r : α} (h : ¬ c) (e : (if c then A else B) = r) : B = r := by rw [if_neg h] at e; exact e
theorem gd {α : Type} {c : Prop} [Decidable c] {A : Option α} {r : α} (e : (if c then A else none) = some r) : c ∧ A = some r := by
  by_cases h : c
  · rw [if_pos h] at e; exact ⟨h, e⟩
  · rw [if_neg h] at e; cases e
theorem bd {α β : Type} {x : Option α} {k : α → Option β} {r : β} (e : x.bind k = some r) : ∃ q, x = some q ∧ k q = some r := by
  cases x with
  | none => cases e
  | some q => exact ⟨q, rfl, e⟩
def inB (i : Int32) (z : Nat) : Bool := decide (¬ (i < 0 ∨ z ≤ i.toNatClampNeg))
theorem inB_in {i : Int32} {z : Nat} (h : inB i z = true) : vp_in i z := by
  have h1 : ¬ (i < 0 ∨ z ≤ i.toNatClampNeg) := of_decide_eq_true h
  exact h1
def bOk (x : Int32) : Bool := decide (x = 0 ∨ x = 1)
theorem bOk_n {x : Int32} (h : bOk x = true) : narrow .boolean (.int x) = .int x := by
  rcases of_decide_eq_true h with e | e <;> subst e <;> decide +kernel
theorem bOk_f {x : Int32} (h : bOk x = true) : fits .boolean (.int x) = true := by
  rcases of_decide_eq_true h with e | e <;> subst e <;> decide +kernel
/-- a block of cells over others -/
def wL (σ : AH) (a : Nat) (L : List CE) : AH := fun b => if a ≤ b ∧ b < a + L.length then L[b - a]? else σ b
theorem wL_at {σ : AH} {a : Nat} {L : List CE} (i : Nat) {e : CE} (h : L[i]? = some e) : wL σ a L (a + i) = some e := by
  have hi : i < L.length := (List.getElem?_eq_some_iff.mp h).1
  unfold wL
  rw [if_pos ⟨by omega, by omega⟩, show a + i - a = i by omega]
  exact h
theorem wL_at0 {σ : AH} {a : Nat} {L : List CE} {e : CE} (h : L[0]? = some e) : wL σ a L a = some e := wL_at 0 h
theorem wL_out {σ : AH} {a b : Nat} {L : List CE} (h : b < a ∨ a + L.length ≤ b) : wL σ a L b = σ b := by
  unfold wL
  rw [if_neg (by omega)]
theorem wL_up {σ : AH} {a : Nat} {L L' : List CE} (i : Nat) {e : CE} (hi : i < L.length) (hL : L.set i e = L') : hU (wL σ a L) (a + i) e = wL σ a L' := by
  subst hL
  funext b
  unfold hU wL
  rw [List.length_set]
  by_cases h1 : b = a + i
  · subst h1
    rw [if_pos rfl, if_pos ⟨by omega, by omega⟩, show a + i - a = i by omega, List.getElem?_set_self hi]
  · rw [if_neg h1]
    by_cases h2 : a ≤ b ∧ b < a + L.length
    · rw [if_pos h2, if_pos h2, List.getElem?_set_ne (by omega)]
    · rw [if_neg h2, if_neg h2]
theorem wL_up0 {σ : AH} {a : Nat} {L L' : List CE} {e : CE} (hi : 0 < L.length) (hL : L.set 0 e = L') : hU (wL σ a L) a e = wL σ a L' := wL_up 0 hi hL
theorem wL_self {σ : AH} {a : Nat} {L : List CE} (h : ∀ i e, L[i]? = some e → σ (a + i) = some e) : wL σ a L = σ := by
  funext b
  unfold wL
  by_cases h2 : a ≤ b ∧ b < a + L.length
  · rw [if_pos h2]
    have hb : b - a < L.length := by omega
    have := h (b - a) _ (List.getElem?_eq_getElem hb)
    rw [show a + (b - a) = b by omega] at this
    rw [this, List.getElem?_eq_getElem hb]
  · rw [if_neg h2]
theorem wL_wL {σ : AH} {a : Nat} {L L' : List CE} (h : L.length = L'.length) : wL (wL σ a L) a L' = wL σ a L' := by
  funext b
  unfold wL
  by_cases h2 : a ≤ b ∧ b < a + L'.length
  · rw [if_pos h2, if_pos h2]
  · rw [if_neg h2, if_neg h2, if_neg (by omega)]
section LCmp
variable {K : KX} {own nm : String} {cc : ByteArray} {ret : Option FieldType} {cells slots pc pc1 pc' : Nat} {lv : List (Nat × Value)} {st : List Value} {h : AH} {n : Nat} {x y : Int64} {off : Int} {tgt : Nat}
theorem g_lif_eq (C : Cx K own nm cc ret) (d : decode cc pc = .ok (.lcmp, 1)) (hp1 : pc + 1 = pc1) (d1 : decode cc pc1 = .ok (.ifCond .eq off, 3)) (ht : (pc1 : Int) + off = (tgt : Int)) (hp : pc1 + 3 = pc') (k1 : x = y → G K cells slots tgt lv st h n) (k2 : ¬ (x = y) → G K cells slots pc' lv st h n) : G K cells slots pc lv (.long y :: .long x :: st) h n :=
  g_lcmp C d hp1 (g_if_eq C d1 ht hp (fun z => k1 ((lg_cmp_eq x y).mp z)) (fun z => k2 (fun w => z ((lg_cmp_eq x y).mpr w))))
theorem g_lif_lt (C : Cx K own nm cc ret) (d : decode cc pc = .ok (.lcmp, 1)) (hp1 : pc + 1 = pc1) (d1 : decode cc pc1 = .ok (.ifCond .lt off, 3)) (ht : (pc1 : Int) + off = (tgt : Int)) (hp : pc1 + 3 = pc') (k1 : x < y → G K cells slots tgt lv st h n) (k2 : ¬ (x < y) → G K cells slots pc' lv st h n) : G K cells slots pc lv (.long y :: .long x :: st) h n :=
  g_lcmp C d hp1 (g_if_lt C d1 ht hp (fun z => k1 ((lg_cmp_lt x y).mp z)) (fun z => k2 (fun w => z ((lg_cmp_lt x y).mpr w))))
theorem g_lif_ge (C : Cx K own nm cc ret) (d : decode cc pc = .ok (.lcmp, 1)) (hp1 : pc + 1 = pc1) (d1 : decode cc pc1 = .ok (.ifCond .ge off, 3)) (ht : (pc1 : Int) + off = (tgt : Int)) (hp : pc1 + 3 = pc') (k1 : y ≤ x → G K cells slots tgt lv st h n) (k2 : ¬ (y ≤ x) → G K cells slots pc' lv st h n) : G K cells slots pc lv (.long y :: .long x :: st) h n :=
  g_lcmp C d hp1 (g_if_ge C d1 ht hp (fun z => k1 ((lg_cmp_ge x y).mp z)) (fun z => k2 (fun w => z ((lg_cmp_ge x y).mpr w))))
theorem g_lif_gt (C : Cx K own nm cc ret) (d : decode cc pc = .ok (.lcmp, 1)) (hp1 : pc + 1 = pc1) (d1 : decode cc pc1 = .ok (.ifCond .gt off, 3)) (ht : (pc1 : Int) + off = (tgt : Int)) (hp : pc1 + 3 = pc') (k1 : y < x → G K cells slots tgt lv st h n) (k2 : ¬ (y < x) → G K cells slots pc' lv st h n) : G K cells slots pc lv (.long y :: .long x :: st) h n :=
  g_lcmp C d hp1 (g_if_gt C d1 ht hp (fun z => k1 ((lg_cmp_gt x y).mp z)) (fun z => k2 (fun w => z ((lg_cmp_gt x y).mpr w))))
theorem g_lif_le (C : Cx K own nm cc ret) (d : decode cc pc = .ok (.lcmp, 1)) (hp1 : pc + 1 = pc1) (d1 : decode cc pc1 = .ok (.ifCond .le off, 3)) (ht : (pc1 : Int) + off = (tgt : Int)) (hp : pc1 + 3 = pc') (k1 : x ≤ y → G K cells slots tgt lv st h n) (k2 : ¬ (x ≤ y) → G K cells slots pc' lv st h n) : G K cells slots pc lv (.long y :: .long x :: st) h n :=
  g_lcmp C d hp1 (g_if_le C d1 ht hp (fun z => k1 ((lg_cmp_le x y).mp z)) (fun z => k2 (fun w => z ((lg_cmp_le x y).mpr w))))
theorem g_lif_ne (C : Cx K own nm cc ret) (d : decode cc pc = .ok (.lcmp, 1)) (hp1 : pc + 1 = pc1) (d1 : decode cc pc1 = .ok (.ifCond .ne off, 3)) (ht : (pc1 : Int) + off = (tgt : Int)) (hp : pc1 + 3 = pc') (k1 : ¬ x = y → G K cells slots tgt lv st h n) (k2 : x = y → G K cells slots pc' lv st h n) : G K cells slots pc lv (.long y :: .long x :: st) h n :=
  g_lcmp C d hp1 (g_if_ne C d1 ht hp (fun z => k1 (fun w => z ((lg_cmp_eq x y).mpr w))) (fun z => k2 ((lg_cmp_eq x y).mp z)))
theorem g_topI {v v' : Int32} (e : v = v') (k : G K cells slots pc lv (.int v' :: st) h n) : G K cells slots pc lv (.int v :: st) h n := by rw [e]; exact k
theorem g_topL {v v' : Int64} (e : v = v') (k : G K cells slots pc lv (.long v' :: st) h n) : G K cells slots pc lv (.long v :: st) h n := by rw [e]; exact k
end LCmp
section Zero
variable {K : KX} {own nm : String} {cc : ByteArray} {ret : Option FieldType} {cells slots pc pc' : Nat} {lv : List (Nat × Value)} {st st' st2 : List Value} {h h' : AH} {n n' : Nat}
variable {y : MethodName} {b : ByteArray} {maxL ix : Nat} {ry : Option FieldType} {rm : Room} {as : List Value} {r : Option Value} {k : Nat}
def Rm0 (R rm : Room) (maxL : Nat) : Prop := rm.cells = 0 ∧ rm.slots = 0 ∧ rm.frames + 1 ≤ R.frames ∧ 8 + (maxL + 11) + rm.locals ≤ R.locals
theorem rmz {R rm : Room} (h : Rm0 R rm maxL) (h1 : cells ≤ R.cells) (h2 : slots ≤ R.slots) : Rm R rm maxL cells slots 0 0 := ⟨h.1, h.2.1, ⟨h.2.2.1, h.2.2.2⟩, h1, h2⟩
theorem g_callS0 (C : Cx K own nm cc ret) (w : WSt own ix y b maxL ry k) (cn : Con (kL K) (kE K) y (.code y b maxL ry :: TT) rm 0 0 as h n r h' n') (hrm : Rm (kR K) rm maxL cells slots 0 0) (hk : as.length = k) (hst : as.reverse ++ st' = st) (hcat : (st'.map fun v => v.category).sum ≤ 8) (hr2 : r.toList ++ st' = st2) (d : decode cc pc = .ok (.invokestatic ix, 3)) (hp : pc + 3 = pc') (kk : G K cells slots pc' lv st2 h' n') : G K cells slots pc lv st h n :=
  g_callS C w cn hrm hk hst hcat hr2 d hp kk
theorem g_callV0 (C : Cx K own nm cc ret) (w : WVi own ix y b maxL ry k) {a ci N : Nat} {fs : List Value} {T : u_T} (hcl : vwCl[ci]? = some (y.cls, T, N)) (ha : h a = some (.inr (ci, fs))) (cn : Con (kL K) (kE K) y (.code y b maxL ry :: TT) rm 0 0 (.ref a :: as) h n r h' n') (hrm : Rm (kR K) rm maxL cells slots 0 0) (hk : as.length = k) (hst : as.reverse ++ .ref a :: st' = st) (hcat : (st'.map fun v => v.category).sum ≤ 8) (hr2 : r.toList ++ st' = st2) (d : decode cc pc = .ok (.invokevirtual ix, 3)) (hp : pc + 3 = pc') (kk : G K cells slots pc' lv st2 h' n') : G K cells slots pc lv st h n :=
  g_callV C w hcl ha cn hrm hk hst hcat hr2 d hp kk
theorem g_callN0 (C : Cx K own nm cc ret) (hl0 : va_Nw (.methodLinkNest own ix y RX6) K.2.2.2.2.1) (w : Cond.static y ∈ TT ∧ Cond.initialized y.cls ∈ TT ∧ Cond.code y b maxL ry ∈ TT ∧ (y.cls ≠ "java/lang/invoke/MethodHandle" ∧ y.cls ≠ "java/lang/invoke/VarHandle" ∧ (parseMethodDescriptor y.desc).map (fun d => d.parameters.length) = some k)) (cn : Con (kL K) (kE K) y (.code y b maxL ry :: TT) rm 0 0 as h n r h' n') (hrm : Rm (kR K) rm maxL cells slots 0 0) (hk : as.length = k) (hst : as.reverse ++ st' = st) (hcat : (st'.map fun v => v.category).sum ≤ 8) (hr2 : r.toList ++ st' = st2) (d : decode cc pc = .ok (.invokestatic ix, 3)) (hp : pc + 3 = pc') (kk : G K cells slots pc' lv st2 h' n') : G K cells slots pc lv st h n :=
  g_callN C hl0 w cn hrm hk hst hcat hr2 d hp kk
theorem zS (C : Cx K own nm cc ret) : zOk (kE K) K.2.2.2.2.1 K.2.2.2.2.1.heap := C.2.2.2.2.2.1.2.1
theorem zN (C : Cx K own nm cc ret) : xNest K.2.2.2.2.1 := C.2.2.2.2.2.1.2.2.2.1
end Zero
end
section
/-! the blocks of cells of the system's objects -/
def wA (σ : AH) (a z : Nat) (row : Nat → Int64) : AH := wL σ a [.inl (1, z, .inr (.inl row))]
def wAI (σ : AH) (a z : Nat) (row : Nat → Int32) : AH := wL σ a [.inl (0, z, .inl row)]
theorem wL_one {h : AH} {a : Nat} {e : CE} : wL h a [e] = hU h a e := by
  funext b
  unfold wL hU
  by_cases h1 : b = a
  · subst h1
    rw [if_pos ⟨by omega, by simp⟩, if_pos rfl]
    simp
  · rw [if_neg (by simp; omega), if_neg h1]
theorem hU_self {h : AH} {a : Nat} {e : CE} (ha : h a = some e) : hU h a e = h := by
  funext b
  unfold hU
  by_cases h1 : b = a
  · subst h1; rw [if_pos rfl, ha]
  · rw [if_neg h1]
theorem wA_self {h : AH} {a z : Nat} {row : Nat → Int64} (ha : h a = some (.inl (1, z, .inr (.inl row)))) : h = wA h a z row := by
  unfold wA; rw [wL_one, hU_self ha]
theorem wAI_self {h : AH} {a z : Nat} {row : Nat → Int32} (ha : h a = some (.inl (0, z, .inl row))) : h = wAI h a z row := by
  unfold wAI; rw [wL_one, hU_self ha]
theorem wA_up {h h' : AH} {a z : Nat} {row : Nat → Int64} (ha : hU h a (.inl (1, z, .inr (.inl row))) = h') : wA h a z row = h' := by
  unfold wA; rw [wL_one, ha]
theorem wAI_up {h h' : AH} {a z : Nat} {row : Nat → Int32} (ha : hU h a (.inl (0, z, .inl row)) = h') : wAI h a z row = h' := by
  unfold wAI; rw [wL_one, ha]
abbrev cPc (a : Nat) (ss ps hv oo : Nat → Int64) (cu : Int64) (mm sk pk : Int32) (kw : Int64) (sc pn : Int32) : List CE := [.inr (0, [.ref (a + 1), .ref (a + 2), .ref (a + 3), .ref (a + 4), .long cu, .int mm, .int sk, .int pk, .long kw, .int sc, .int pn]), .inl (1, 48, .inr (.inl ss)), .inl (1, 896, .inr (.inl ps)), .inl (1, 910, .inr (.inl hv)), .inl (1, 64, .inr (.inl oo))]
def wPc (σ : AH) (a : Nat) (ss ps hv oo : Nat → Int64) (cu : Int64) (mm sk pk : Int32) (kw : Int64) (sc pn : Int32) : AH := wL σ a (cPc a ss ps hv oo cu mm sk pk kw sc pn)
abbrev cSp (a : Nat) (lo hi : Nat → Int32) (em : Int32) : List CE := [.inr (2, [.ref (a + 1), .ref (a + 2), .int em]), .inl (0, 3, .inl lo), .inl (0, 3, .inl hi)]
def wSp (σ : AH) (a : Nat) (lo hi : Nat → Int32) (em : Int32) : AH := wL σ a (cSp a lo hi em)
abbrev cBk (a : Nat) (at' pa mo le hd nt : Nat → Int32) (ct : Int32) : List CE := [.inr (3, [.ref (a + 1), .ref (a + 2), .ref (a + 3), .ref (a + 4), .ref (a + 5), .ref (a + 6), .int ct]), .inl (0, 5418, .inl at'), .inl (0, 300, .inl pa), .inl (0, 300, .inl mo), .inl (0, 300, .inl le), .inl (0, 512, .inl hd), .inl (0, 300, .inl nt)]
def wBk (σ : AH) (a : Nat) (at' pa mo le hd nt : Nat → Int32) (ct : Int32) : AH := wL σ a (cBk a at' pa mo le hd nt ct)
/-- the reference -/
abbrev cMd (a : Nat) (th : Int32) (set : Nat → Int64) (mir tgt shs : Nat → Int32) (shp : Nat → Int64) (pls : Nat → Int32) (pl : Nat → Int64) (tri : Int32) (asm tak : Nat → Int64) (pld cel pie nxt : Nat → Int32) (cho : Nat → Int64) (cbs cub : Nat → Int32) (sts : Int32) (stt frm by' wrk oth : Nat → Int32) (mvs : Int32) (mov : Nat → Int32) : List CE :=
  [.inr (6, [.int th, .ref (a + 1), .ref (a + 2), .ref (a + 3), .ref (a + 4), .ref (a + 5), .ref (a + 6), .ref (a + 7), .int tri, .ref (a + 8), .ref (a + 9), .ref (a + 10), .ref (a + 11), .ref (a + 12), .ref (a + 13), .ref (a + 14), .ref (a + 15), .ref (a + 16), .int sts, .ref (a + 17), .ref (a + 18), .ref (a + 19), .ref (a + 20), .ref (a + 21), .int mvs, .ref (a + 22)]),
   .inl (1, 6, .inr (.inl set)), .inl (2, 6, .inl mir), .inl (0, 64, .inl tgt), .inl (0, 6, .inl shs), .inl (1, 288, .inr (.inl shp)), .inl (0, 6, .inl pls), .inl (1, 8400, .inr (.inl pl)), .inl (1, 6, .inr (.inl asm)), .inl (1, 7, .inr (.inl tak)), .inl (0, 7, .inl pld), .inl (0, 7, .inl cel), .inl (0, 7, .inl pie), .inl (0, 7, .inl nxt), .inl (1, 7, .inr (.inl cho)), .inl (0, 6, .inl cbs), .inl (0, 180, .inl cub), .inl (0, 5400, .inl stt), .inl (0, 300, .inl frm), .inl (0, 300, .inl by'), .inl (0, 18, .inl wrk), .inl (0, 18, .inl oth), .inl (0, 301, .inl mov)]
def wMd (σ : AH) (a : Nat) (th : Int32) (set : Nat → Int64) (mir tgt shs : Nat → Int32) (shp : Nat → Int64) (pls : Nat → Int32) (pl : Nat → Int64) (tri : Int32) (asm tak : Nat → Int64) (pld cel pie nxt : Nat → Int32) (cho : Nat → Int64) (cbs cub : Nat → Int32) (sts : Int32) (stt frm by' wrk oth : Nat → Int32) (mvs : Int32) (mov : Nat → Int32) : AH := wL σ a (cMd a th set mir tgt shs shp pls pl tri asm tak pld cel pie nxt cho cbs cub sts stt frm by' wrk oth mvs mov)
theorem g_max {K : KX} {own nm : String} {cc : ByteArray} {ret : Option FieldType} {cells slots pc pc' : Nat} {lv : List (Nat × Value)} {st : List Value} {h : AH} {n ix : Nat} (C : Cx K own nm cc ret) (w1 : Cond.methodLink own ix Lib.Math.max.name ∈ TT) (w2 : Cond.static Lib.Math.max.name ∈ TT) (w3 : Cond.initialized "java/lang/Math" ∈ TT) (w4 : Cond.code Lib.Math.max.name Lib.Math.max.code 2 (some .int) ∈ TT) (hfr : 1 ≤ (kR K).frames) (hcat : (st.map fun v => v.category).sum + 13 ≤ (kR K).locals) (h1 : cells ≤ (kR K).cells) (h2 : slots ≤ (kR K).slots) {x y : Int32} (d : decode cc pc = .ok (.invokestatic ix, 3)) (hp : pc + 3 = pc') (kk : G K cells slots pc' lv (.int (if x < y then y else x) :: st) h n) : G K cells slots pc lv (.int y :: .int x :: st) h n := by
  obtain ⟨p, l, e, R, s, m, args, below, meth, c, nL, E, Q⟩ := K
  intro ls H locs hl hR0 hn hS
  subst hp
  have hts : ∀ x ∈ TT, x.before args s = true := C.2.2.2.2.1
  exact va_mmax C.1 C.2.1 (by rw [C.2.2.1]; exact hl.1.symm) C.2.2.2.1 (hts _ w1) (hts _ w2) (hts _ w3) (hts _ w4) hfr hcat h1 h2 d (kk ls H locs hl hR0 hn hS)
theorem g_min {K : KX} {own nm : String} {cc : ByteArray} {ret : Option FieldType} {cells slots pc pc' : Nat} {lv : List (Nat × Value)} {st : List Value} {h : AH} {n ix : Nat} (C : Cx K own nm cc ret) (w1 : Cond.methodLink own ix Lib.Math.min.name ∈ TT) (w2 : Cond.static Lib.Math.min.name ∈ TT) (w3 : Cond.initialized "java/lang/Math" ∈ TT) (w4 : Cond.code Lib.Math.min.name Lib.Math.min.code 2 (some .int) ∈ TT) (hfr : 1 ≤ (kR K).frames) (hcat : (st.map fun v => v.category).sum + 13 ≤ (kR K).locals) (h1 : cells ≤ (kR K).cells) (h2 : slots ≤ (kR K).slots) {x y : Int32} (d : decode cc pc = .ok (.invokestatic ix, 3)) (hp : pc + 3 = pc') (kk : G K cells slots pc' lv (.int (if y < x then y else x) :: st) h n) : G K cells slots pc lv (.int y :: .int x :: st) h n := by
  obtain ⟨p, l, e, R, s, m, args, below, meth, c, nL, E, Q⟩ := K
  intro ls H locs hl hR0 hn hS
  subst hp
  have hts : ∀ x ∈ TT, x.before args s = true := C.2.2.2.2.1
  exact va_mmin C.1 C.2.1 (by rw [C.2.2.1]; exact hl.1.symm) C.2.2.2.1 (hts _ w1) (hts _ w2) (hts _ w3) (hts _ w4) hfr hcat h1 h2 d (kk ls H locs hl hR0 hn hS)
theorem fc_X1 : FC 0 RX1 TX1 11 tyX1 := ⟨rfl, by decide +kernel, tyX1_ok, nmX1⟩
theorem fc_X2 : FC 1 RX2 TX2 9 tyX2 := ⟨rfl, by decide +kernel, tyX2_ok, nmX2⟩
theorem fc_X3 : FC 2 RX3 TX3 3 tyX3 := ⟨rfl, by decide +kernel, tyX3_ok, nmX3⟩
theorem fc_X4 : FC 3 RX4 TX4 7 tyX4 := ⟨rfl, by decide +kernel, tyX4_ok, nmX4⟩
theorem fc_X5 : FC 4 RX5 TX5 10 tyX5 := ⟨rfl, by decide +kernel, tyX5_ok, nmX5⟩
theorem fc_X6 : FC 5 RX6 TX6 6 tyX6 := ⟨rfl, by decide +kernel, tyX6_ok, nmX6⟩
theorem fc_X7 : FC 6 RX7 TX7 26 tyX7 := ⟨rfl, by decide +kernel, tyX7_ok, nmX7⟩
end
section
def sumB {A B C : Type} (x : Option (A ⊕ B)) (i : A → C) (k : B → Option C) : Option C := x.bind (fun q => match q with
  | .inl t => some (i t)
  | .inr t => k t)
theorem sb {A B C : Type} {x : Option (A ⊕ B)} {i : A → C} {k : B → Option C} {r : C} (e : sumB x i k = some r) : ∃ q, x = some q ∧ (∀ t, q = .inl t → i t = r) ∧ (∀ t, q = .inr t → k t = some r) := by
  obtain ⟨q, h1, h2⟩ := bd e
  refine ⟨q, h1, fun t ht => ?_, fun t ht => ?_⟩
  · subst ht; exact Option.some.inj h2
  · subst ht; exact h2
theorem wc_RJ6_265 : Cond.constant RJ6 265 (1431655765) ∈ TT := tt_mem 427 (by decide +kernel) (by decide +kernel)
theorem wc_RJ6_266 : Cond.constant RJ6 266 (858993459) ∈ TT := tt_mem 428 (by decide +kernel) (by decide +kernel)
theorem wc_RJ6_267 : Cond.constant RJ6 267 (252645135) ∈ TT := tt_mem 429 (by decide +kernel) (by decide +kernel)
theorem wc_RJ13_314 : Cond.constantLong RJ13 314 (6148914691236517205) ∈ TT := tt_mem 370 (by decide +kernel) (by decide +kernel)
theorem wc_RJ13_316 : Cond.constantLong RJ13 316 (3689348814741910323) ∈ TT := tt_mem 371 (by decide +kernel) (by decide +kernel)
theorem wc_RJ13_318 : Cond.constantLong RJ13 318 (1085102592571150095) ∈ TT := tt_mem 372 (by decide +kernel) (by decide +kernel)
theorem wc_RX0_9 : Cond.constantLong RX0 9 (-9223372036854775808) ∈ TT := tt_mem 454 (by decide +kernel) (by decide +kernel)
theorem wk_J13_bitCount_95d88 : Cond.code yJ13_bitCount_95d88 cJ13_bitCount_95d88 2 (some .int) ∈ TT := tt_mem 369 (by decide +kernel) (by decide +kernel)
theorem wi_RJ13 : Cond.initialized RJ13 ∈ TT := tt_mem 46 (by decide +kernel) (by decide +kernel)
theorem ws_J13_bitCount_95d88 : Cond.static yJ13_bitCount_95d88 ∈ TT := tt_mem 368 (by decide +kernel) (by decide +kernel)
theorem wm_RX0_11 : Cond.methodLink RX0 11 yJ13_bitCount_95d88 ∈ TT := tt_mem 436 (by decide +kernel) (by decide +kernel)
theorem wz_RX0_17 : Cond.fieldLink RX0 17 RX0 "FLOOR" "[J" ∈ TT := tt_mem 445 (by decide +kernel) (by decide +kernel)
theorem wz_RX0_23 : Cond.fieldLink RX0 23 RX0 "STRIDE" "[I" ∈ TT := tt_mem 419 (by decide +kernel) (by decide +kernel)
theorem wk_X0_least : Cond.code yX0_least cX0_least 4 (some .int) ∈ TT := tt_mem 444 (by decide +kernel) (by decide +kernel)
theorem wi_RX0 : Cond.initialized RX0 ∈ TT := tt_mem 47 (by decide +kernel) (by decide +kernel)
theorem ws_X0_least : Cond.static yX0_least ∈ TT := tt_mem 443 (by decide +kernel) (by decide +kernel)
theorem wm_RX0_27 : Cond.methodLink RX0 27 yX0_least ∈ TT := tt_mem 442 (by decide +kernel) (by decide +kernel)
theorem wz_RX0_31 : Cond.fieldLink RX0 31 RX0 "STAYS" "[J" ∈ TT := tt_mem 417 (by decide +kernel) (by decide +kernel)
theorem wk_J6_bitCount_0f7a4 : Cond.code yJ6_bitCount_0f7a4 cJ6_bitCount_0f7a4 1 (some .int) ∈ TT := tt_mem 426 (by decide +kernel) (by decide +kernel)
theorem wi_RJ6 : Cond.initialized RJ6 ∈ TT := tt_mem 48 (by decide +kernel) (by decide +kernel)
theorem ws_J6_bitCount_0f7a4 : Cond.static yJ6_bitCount_0f7a4 ∈ TT := tt_mem 425 (by decide +kernel) (by decide +kernel)
theorem wm_RX0_34 : Cond.methodLink RX0 34 yJ6_bitCount_0f7a4 ∈ TT := tt_mem 424 (by decide +kernel) (by decide +kernel)
theorem wz_RX0_42 : Cond.fieldLink RX0 42 RX0 "ORDERS" "[I" ∈ TT := tt_mem 437 (by decide +kernel) (by decide +kernel)
theorem wk_X0_lowest : Cond.code yX0_lowest cX0_lowest 2 (some .int) ∈ TT := tt_mem 435 (by decide +kernel) (by decide +kernel)
theorem ws_X0_lowest : Cond.static yX0_lowest ∈ TT := tt_mem 434 (by decide +kernel) (by decide +kernel)
theorem wm_RX0_39 : Cond.methodLink RX0 39 yX0_lowest ∈ TT := tt_mem 433 (by decide +kernel) (by decide +kernel)
theorem wk_X0_shifted : Cond.code yX0_shifted cX0_shifted 4 (some .long) ∈ TT := tt_mem 416 (by decide +kernel) (by decide +kernel)
theorem ws_X0_shifted : Cond.static yX0_shifted ∈ TT := tt_mem 415 (by decide +kernel) (by decide +kernel)
theorem wm_RX0_49 : Cond.methodLink RX0 49 yX0_shifted ∈ TT := tt_mem 414 (by decide +kernel) (by decide +kernel)
theorem wk_X0_neighbours : Cond.code yX0_neighbours cX0_neighbours 5 (some .long) ∈ TT := tt_mem 413 (by decide +kernel) (by decide +kernel)
theorem ws_X0_neighbours : Cond.static yX0_neighbours ∈ TT := tt_mem 412 (by decide +kernel) (by decide +kernel)
theorem wm_RX0_45 : Cond.methodLink RX0 45 yX0_neighbours ∈ TT := tt_mem 411 (by decide +kernel) (by decide +kernel)
theorem wm_RX6_144 : Cond.methodLink RX6 144 yJ6_bitCount_0f7a4 ∈ TT := tt_mem 557 (by decide +kernel) (by decide +kernel)
def f_J6_bitCount_0f7a4 (x : Int32) : Option Int32 := some ((((((((x - (((x.toUInt32 >>> ((1 : Int32).toUInt32 &&& Int32.toUInt32 31)).toInt32) &&& (1431655765 : Int32))) &&& (858993459 : Int32)) + ((((x - (((x.toUInt32 >>> ((1 : Int32).toUInt32 &&& Int32.toUInt32 31)).toInt32) &&& (1431655765 : Int32))).toUInt32 >>> ((2 : Int32).toUInt32 &&& Int32.toUInt32 31)).toInt32) &&& (858993459 : Int32))) + (((((x - (((x.toUInt32 >>> ((1 : Int32).toUInt32 &&& Int32.toUInt32 31)).toInt32) &&& (1431655765 : Int32))) &&& (858993459 : Int32)) + ((((x - (((x.toUInt32 >>> ((1 : Int32).toUInt32 &&& Int32.toUInt32 31)).toInt32) &&& (1431655765 : Int32))).toUInt32 >>> ((2 : Int32).toUInt32 &&& Int32.toUInt32 31)).toInt32) &&& (858993459 : Int32))).toUInt32 >>> ((4 : Int32).toUInt32 &&& Int32.toUInt32 31)).toInt32)) &&& (252645135 : Int32)) + (((((((x - (((x.toUInt32 >>> ((1 : Int32).toUInt32 &&& Int32.toUInt32 31)).toInt32) &&& (1431655765 : Int32))) &&& (858993459 : Int32)) + ((((x - (((x.toUInt32 >>> ((1 : Int32).toUInt32 &&& Int32.toUInt32 31)).toInt32) &&& (1431655765 : Int32))).toUInt32 >>> ((2 : Int32).toUInt32 &&& Int32.toUInt32 31)).toInt32) &&& (858993459 : Int32))) + (((((x - (((x.toUInt32 >>> ((1 : Int32).toUInt32 &&& Int32.toUInt32 31)).toInt32) &&& (1431655765 : Int32))) &&& (858993459 : Int32)) + ((((x - (((x.toUInt32 >>> ((1 : Int32).toUInt32 &&& Int32.toUInt32 31)).toInt32) &&& (1431655765 : Int32))).toUInt32 >>> ((2 : Int32).toUInt32 &&& Int32.toUInt32 31)).toInt32) &&& (858993459 : Int32))).toUInt32 >>> ((4 : Int32).toUInt32 &&& Int32.toUInt32 31)).toInt32)) &&& (252645135 : Int32)).toUInt32 >>> ((8 : Int32).toUInt32 &&& Int32.toUInt32 31)).toInt32)) + ((((((((x - (((x.toUInt32 >>> ((1 : Int32).toUInt32 &&& Int32.toUInt32 31)).toInt32) &&& (1431655765 : Int32))) &&& (858993459 : Int32)) + ((((x - (((x.toUInt32 >>> ((1 : Int32).toUInt32 &&& Int32.toUInt32 31)).toInt32) &&& (1431655765 : Int32))).toUInt32 >>> ((2 : Int32).toUInt32 &&& Int32.toUInt32 31)).toInt32) &&& (858993459 : Int32))) + (((((x - (((x.toUInt32 >>> ((1 : Int32).toUInt32 &&& Int32.toUInt32 31)).toInt32) &&& (1431655765 : Int32))) &&& (858993459 : Int32)) + ((((x - (((x.toUInt32 >>> ((1 : Int32).toUInt32 &&& Int32.toUInt32 31)).toInt32) &&& (1431655765 : Int32))).toUInt32 >>> ((2 : Int32).toUInt32 &&& Int32.toUInt32 31)).toInt32) &&& (858993459 : Int32))).toUInt32 >>> ((4 : Int32).toUInt32 &&& Int32.toUInt32 31)).toInt32)) &&& (252645135 : Int32)) + (((((((x - (((x.toUInt32 >>> ((1 : Int32).toUInt32 &&& Int32.toUInt32 31)).toInt32) &&& (1431655765 : Int32))) &&& (858993459 : Int32)) + ((((x - (((x.toUInt32 >>> ((1 : Int32).toUInt32 &&& Int32.toUInt32 31)).toInt32) &&& (1431655765 : Int32))).toUInt32 >>> ((2 : Int32).toUInt32 &&& Int32.toUInt32 31)).toInt32) &&& (858993459 : Int32))) + (((((x - (((x.toUInt32 >>> ((1 : Int32).toUInt32 &&& Int32.toUInt32 31)).toInt32) &&& (1431655765 : Int32))) &&& (858993459 : Int32)) + ((((x - (((x.toUInt32 >>> ((1 : Int32).toUInt32 &&& Int32.toUInt32 31)).toInt32) &&& (1431655765 : Int32))).toUInt32 >>> ((2 : Int32).toUInt32 &&& Int32.toUInt32 31)).toInt32) &&& (858993459 : Int32))).toUInt32 >>> ((4 : Int32).toUInt32 &&& Int32.toUInt32 31)).toInt32)) &&& (252645135 : Int32)).toUInt32 >>> ((8 : Int32).toUInt32 &&& Int32.toUInt32 31)).toInt32)).toUInt32 >>> ((16 : Int32).toUInt32 &&& Int32.toUInt32 31)).toInt32)) &&& (63 : Int32))
set_option maxHeartbeats 2000000 in
set_option maxRecDepth 20000 in
theorem c_J6_bitCount_0f7a4 {l : Launch} {E : Ex} {n : Nat} {σ : AH}  {x : Int32} (res : Int32) (hf : f_J6_bitCount_0f7a4 x = some res) : Con l E yJ6_bitCount_0f7a4 (.code yJ6_bitCount_0f7a4 cJ6_bitCount_0f7a4 1 (some .int) :: TT) ({ frames := 0, cells := 0, slots := 0, locals := 0 } : Room) 0 0 [.int x] σ n (some (.int res)) σ n := by
  refine con_intro (by decide +kernel) (Nat.le_of_ble_eq_true rfl) ?_
  intro K C hKR hKL hKE hKN hKQ
  subst hKL
  subst hKE
  have C : Cx K RJ6 "bitCount" cJ6_bitCount_0f7a4 (some .int) := C
  show G K 0 0 0 [(0, .int x)] [] σ n
  unfold f_J6_bitCount_0f7a4 at hf
  refine g_iload_n C rfl (q := 0) rfl dJ6_bitCount_0f7a4_0 rfl ?_
  refine g_iload_n C rfl (q := 0) rfl dJ6_bitCount_0f7a4_1 rfl ?_
  refine g_iconst (v := 1) C (by decide) dJ6_bitCount_0f7a4_2 rfl ?_
  refine g_iushr C dJ6_bitCount_0f7a4_3 rfl ?_
  refine g_ldcw C wc_RJ6_265 dJ6_bitCount_0f7a4_4 rfl ?_
  refine g_iand C dJ6_bitCount_0f7a4_7 rfl ?_
  refine g_isub C dJ6_bitCount_0f7a4_8 rfl ?_
  refine g_istore_n (i := 0) (lv' := [(0, .int (x - (((x.toUInt32 >>> ((1 : Int32).toUInt32 &&& Int32.toUInt32 31)).toInt32) &&& (1431655765 : Int32))))]) C dJ6_bitCount_0f7a4_9 rfl rfl (by rw [hKN]; decide) rfl ?_
  refine g_iload_n C rfl (q := 0) rfl dJ6_bitCount_0f7a4_10 rfl ?_
  refine g_ldcw C wc_RJ6_266 dJ6_bitCount_0f7a4_11 rfl ?_
  refine g_iand C dJ6_bitCount_0f7a4_14 rfl ?_
  refine g_iload_n C rfl (q := 0) rfl dJ6_bitCount_0f7a4_15 rfl ?_
  refine g_iconst (v := 2) C (by decide) dJ6_bitCount_0f7a4_16 rfl ?_
  refine g_iushr C dJ6_bitCount_0f7a4_17 rfl ?_
  refine g_ldcw C wc_RJ6_266 dJ6_bitCount_0f7a4_18 rfl ?_
  refine g_iand C dJ6_bitCount_0f7a4_21 rfl ?_
  refine g_iadd C dJ6_bitCount_0f7a4_22 rfl ?_
  refine g_istore_n (i := 0) (lv' := [(0, .int (((x - (((x.toUInt32 >>> ((1 : Int32).toUInt32 &&& Int32.toUInt32 31)).toInt32) &&& (1431655765 : Int32))) &&& (858993459 : Int32)) + ((((x - (((x.toUInt32 >>> ((1 : Int32).toUInt32 &&& Int32.toUInt32 31)).toInt32) &&& (1431655765 : Int32))).toUInt32 >>> ((2 : Int32).toUInt32 &&& Int32.toUInt32 31)).toInt32) &&& (858993459 : Int32))))]) C dJ6_bitCount_0f7a4_23 rfl rfl (by rw [hKN]; decide) rfl ?_
  refine g_iload_n C rfl (q := 0) rfl dJ6_bitCount_0f7a4_24 rfl ?_
  refine g_iload_n C rfl (q := 0) rfl dJ6_bitCount_0f7a4_25 rfl ?_
  refine g_iconst (v := 4) C (by decide) dJ6_bitCount_0f7a4_26 rfl ?_
  refine g_iushr C dJ6_bitCount_0f7a4_27 rfl ?_
  refine g_iadd C dJ6_bitCount_0f7a4_28 rfl ?_
  refine g_ldcw C wc_RJ6_267 dJ6_bitCount_0f7a4_29 rfl ?_
  refine g_iand C dJ6_bitCount_0f7a4_32 rfl ?_
  refine g_istore_n (i := 0) (lv' := [(0, .int (((((x - (((x.toUInt32 >>> ((1 : Int32).toUInt32 &&& Int32.toUInt32 31)).toInt32) &&& (1431655765 : Int32))) &&& (858993459 : Int32)) + ((((x - (((x.toUInt32 >>> ((1 : Int32).toUInt32 &&& Int32.toUInt32 31)).toInt32) &&& (1431655765 : Int32))).toUInt32 >>> ((2 : Int32).toUInt32 &&& Int32.toUInt32 31)).toInt32) &&& (858993459 : Int32))) + (((((x - (((x.toUInt32 >>> ((1 : Int32).toUInt32 &&& Int32.toUInt32 31)).toInt32) &&& (1431655765 : Int32))) &&& (858993459 : Int32)) + ((((x - (((x.toUInt32 >>> ((1 : Int32).toUInt32 &&& Int32.toUInt32 31)).toInt32) &&& (1431655765 : Int32))).toUInt32 >>> ((2 : Int32).toUInt32 &&& Int32.toUInt32 31)).toInt32) &&& (858993459 : Int32))).toUInt32 >>> ((4 : Int32).toUInt32 &&& Int32.toUInt32 31)).toInt32)) &&& (252645135 : Int32)))]) C dJ6_bitCount_0f7a4_33 rfl rfl (by rw [hKN]; decide) rfl ?_
  refine g_iload_n C rfl (q := 0) rfl dJ6_bitCount_0f7a4_34 rfl ?_
  refine g_iload_n C rfl (q := 0) rfl dJ6_bitCount_0f7a4_35 rfl ?_
  refine g_bipush (v := 8) C (by decide) dJ6_bitCount_0f7a4_36 rfl ?_
  refine g_iushr C dJ6_bitCount_0f7a4_38 rfl ?_
  refine g_iadd C dJ6_bitCount_0f7a4_39 rfl ?_
  refine g_istore_n (i := 0) (lv' := [(0, .int ((((((x - (((x.toUInt32 >>> ((1 : Int32).toUInt32 &&& Int32.toUInt32 31)).toInt32) &&& (1431655765 : Int32))) &&& (858993459 : Int32)) + ((((x - (((x.toUInt32 >>> ((1 : Int32).toUInt32 &&& Int32.toUInt32 31)).toInt32) &&& (1431655765 : Int32))).toUInt32 >>> ((2 : Int32).toUInt32 &&& Int32.toUInt32 31)).toInt32) &&& (858993459 : Int32))) + (((((x - (((x.toUInt32 >>> ((1 : Int32).toUInt32 &&& Int32.toUInt32 31)).toInt32) &&& (1431655765 : Int32))) &&& (858993459 : Int32)) + ((((x - (((x.toUInt32 >>> ((1 : Int32).toUInt32 &&& Int32.toUInt32 31)).toInt32) &&& (1431655765 : Int32))).toUInt32 >>> ((2 : Int32).toUInt32 &&& Int32.toUInt32 31)).toInt32) &&& (858993459 : Int32))).toUInt32 >>> ((4 : Int32).toUInt32 &&& Int32.toUInt32 31)).toInt32)) &&& (252645135 : Int32)) + (((((((x - (((x.toUInt32 >>> ((1 : Int32).toUInt32 &&& Int32.toUInt32 31)).toInt32) &&& (1431655765 : Int32))) &&& (858993459 : Int32)) + ((((x - (((x.toUInt32 >>> ((1 : Int32).toUInt32 &&& Int32.toUInt32 31)).toInt32) &&& (1431655765 : Int32))).toUInt32 >>> ((2 : Int32).toUInt32 &&& Int32.toUInt32 31)).toInt32) &&& (858993459 : Int32))) + (((((x - (((x.toUInt32 >>> ((1 : Int32).toUInt32 &&& Int32.toUInt32 31)).toInt32) &&& (1431655765 : Int32))) &&& (858993459 : Int32)) + ((((x - (((x.toUInt32 >>> ((1 : Int32).toUInt32 &&& Int32.toUInt32 31)).toInt32) &&& (1431655765 : Int32))).toUInt32 >>> ((2 : Int32).toUInt32 &&& Int32.toUInt32 31)).toInt32) &&& (858993459 : Int32))).toUInt32 >>> ((4 : Int32).toUInt32 &&& Int32.toUInt32 31)).toInt32)) &&& (252645135 : Int32)).toUInt32 >>> ((8 : Int32).toUInt32 &&& Int32.toUInt32 31)).toInt32)))]) C dJ6_bitCount_0f7a4_40 rfl rfl (by rw [hKN]; decide) rfl ?_
  refine g_iload_n C rfl (q := 0) rfl dJ6_bitCount_0f7a4_41 rfl ?_
  refine g_iload_n C rfl (q := 0) rfl dJ6_bitCount_0f7a4_42 rfl ?_
  refine g_bipush (v := 16) C (by decide) dJ6_bitCount_0f7a4_43 rfl ?_
  refine g_iushr C dJ6_bitCount_0f7a4_45 rfl ?_
  refine g_iadd C dJ6_bitCount_0f7a4_46 rfl ?_
  refine g_istore_n (i := 0) (lv' := [(0, .int (((((((x - (((x.toUInt32 >>> ((1 : Int32).toUInt32 &&& Int32.toUInt32 31)).toInt32) &&& (1431655765 : Int32))) &&& (858993459 : Int32)) + ((((x - (((x.toUInt32 >>> ((1 : Int32).toUInt32 &&& Int32.toUInt32 31)).toInt32) &&& (1431655765 : Int32))).toUInt32 >>> ((2 : Int32).toUInt32 &&& Int32.toUInt32 31)).toInt32) &&& (858993459 : Int32))) + (((((x - (((x.toUInt32 >>> ((1 : Int32).toUInt32 &&& Int32.toUInt32 31)).toInt32) &&& (1431655765 : Int32))) &&& (858993459 : Int32)) + ((((x - (((x.toUInt32 >>> ((1 : Int32).toUInt32 &&& Int32.toUInt32 31)).toInt32) &&& (1431655765 : Int32))).toUInt32 >>> ((2 : Int32).toUInt32 &&& Int32.toUInt32 31)).toInt32) &&& (858993459 : Int32))).toUInt32 >>> ((4 : Int32).toUInt32 &&& Int32.toUInt32 31)).toInt32)) &&& (252645135 : Int32)) + (((((((x - (((x.toUInt32 >>> ((1 : Int32).toUInt32 &&& Int32.toUInt32 31)).toInt32) &&& (1431655765 : Int32))) &&& (858993459 : Int32)) + ((((x - (((x.toUInt32 >>> ((1 : Int32).toUInt32 &&& Int32.toUInt32 31)).toInt32) &&& (1431655765 : Int32))).toUInt32 >>> ((2 : Int32).toUInt32 &&& Int32.toUInt32 31)).toInt32) &&& (858993459 : Int32))) + (((((x - (((x.toUInt32 >>> ((1 : Int32).toUInt32 &&& Int32.toUInt32 31)).toInt32) &&& (1431655765 : Int32))) &&& (858993459 : Int32)) + ((((x - (((x.toUInt32 >>> ((1 : Int32).toUInt32 &&& Int32.toUInt32 31)).toInt32) &&& (1431655765 : Int32))).toUInt32 >>> ((2 : Int32).toUInt32 &&& Int32.toUInt32 31)).toInt32) &&& (858993459 : Int32))).toUInt32 >>> ((4 : Int32).toUInt32 &&& Int32.toUInt32 31)).toInt32)) &&& (252645135 : Int32)).toUInt32 >>> ((8 : Int32).toUInt32 &&& Int32.toUInt32 31)).toInt32)) + ((((((((x - (((x.toUInt32 >>> ((1 : Int32).toUInt32 &&& Int32.toUInt32 31)).toInt32) &&& (1431655765 : Int32))) &&& (858993459 : Int32)) + ((((x - (((x.toUInt32 >>> ((1 : Int32).toUInt32 &&& Int32.toUInt32 31)).toInt32) &&& (1431655765 : Int32))).toUInt32 >>> ((2 : Int32).toUInt32 &&& Int32.toUInt32 31)).toInt32) &&& (858993459 : Int32))) + (((((x - (((x.toUInt32 >>> ((1 : Int32).toUInt32 &&& Int32.toUInt32 31)).toInt32) &&& (1431655765 : Int32))) &&& (858993459 : Int32)) + ((((x - (((x.toUInt32 >>> ((1 : Int32).toUInt32 &&& Int32.toUInt32 31)).toInt32) &&& (1431655765 : Int32))).toUInt32 >>> ((2 : Int32).toUInt32 &&& Int32.toUInt32 31)).toInt32) &&& (858993459 : Int32))).toUInt32 >>> ((4 : Int32).toUInt32 &&& Int32.toUInt32 31)).toInt32)) &&& (252645135 : Int32)) + (((((((x - (((x.toUInt32 >>> ((1 : Int32).toUInt32 &&& Int32.toUInt32 31)).toInt32) &&& (1431655765 : Int32))) &&& (858993459 : Int32)) + ((((x - (((x.toUInt32 >>> ((1 : Int32).toUInt32 &&& Int32.toUInt32 31)).toInt32) &&& (1431655765 : Int32))).toUInt32 >>> ((2 : Int32).toUInt32 &&& Int32.toUInt32 31)).toInt32) &&& (858993459 : Int32))) + (((((x - (((x.toUInt32 >>> ((1 : Int32).toUInt32 &&& Int32.toUInt32 31)).toInt32) &&& (1431655765 : Int32))) &&& (858993459 : Int32)) + ((((x - (((x.toUInt32 >>> ((1 : Int32).toUInt32 &&& Int32.toUInt32 31)).toInt32) &&& (1431655765 : Int32))).toUInt32 >>> ((2 : Int32).toUInt32 &&& Int32.toUInt32 31)).toInt32) &&& (858993459 : Int32))).toUInt32 >>> ((4 : Int32).toUInt32 &&& Int32.toUInt32 31)).toInt32)) &&& (252645135 : Int32)).toUInt32 >>> ((8 : Int32).toUInt32 &&& Int32.toUInt32 31)).toInt32)).toUInt32 >>> ((16 : Int32).toUInt32 &&& Int32.toUInt32 31)).toInt32)))]) C dJ6_bitCount_0f7a4_47 rfl rfl (by rw [hKN]; decide) rfl ?_
  refine g_iload_n C rfl (q := 0) rfl dJ6_bitCount_0f7a4_48 rfl ?_
  refine g_bipush (v := 63) C (by decide) dJ6_bitCount_0f7a4_49 rfl ?_
  refine g_iand C dJ6_bitCount_0f7a4_51 rfl ?_
  cases hf
  exact g_iret C hKQ dJ6_bitCount_0f7a4_52
def f_J13_bitCount_95d88 (x : Int64) : Option Int32 := some ((((((((((x - (((x.toUInt64 >>> ((1 : Int32).toInt64.toUInt64 &&& Int64.toUInt64 63)).toInt64) &&& (6148914691236517205 : Int64))) &&& (3689348814741910323 : Int64)) + ((((x - (((x.toUInt64 >>> ((1 : Int32).toInt64.toUInt64 &&& Int64.toUInt64 63)).toInt64) &&& (6148914691236517205 : Int64))).toUInt64 >>> ((2 : Int32).toInt64.toUInt64 &&& Int64.toUInt64 63)).toInt64) &&& (3689348814741910323 : Int64))) + (((((x - (((x.toUInt64 >>> ((1 : Int32).toInt64.toUInt64 &&& Int64.toUInt64 63)).toInt64) &&& (6148914691236517205 : Int64))) &&& (3689348814741910323 : Int64)) + ((((x - (((x.toUInt64 >>> ((1 : Int32).toInt64.toUInt64 &&& Int64.toUInt64 63)).toInt64) &&& (6148914691236517205 : Int64))).toUInt64 >>> ((2 : Int32).toInt64.toUInt64 &&& Int64.toUInt64 63)).toInt64) &&& (3689348814741910323 : Int64))).toUInt64 >>> ((4 : Int32).toInt64.toUInt64 &&& Int64.toUInt64 63)).toInt64)) &&& (1085102592571150095 : Int64)) + (((((((x - (((x.toUInt64 >>> ((1 : Int32).toInt64.toUInt64 &&& Int64.toUInt64 63)).toInt64) &&& (6148914691236517205 : Int64))) &&& (3689348814741910323 : Int64)) + ((((x - (((x.toUInt64 >>> ((1 : Int32).toInt64.toUInt64 &&& Int64.toUInt64 63)).toInt64) &&& (6148914691236517205 : Int64))).toUInt64 >>> ((2 : Int32).toInt64.toUInt64 &&& Int64.toUInt64 63)).toInt64) &&& (3689348814741910323 : Int64))) + (((((x - (((x.toUInt64 >>> ((1 : Int32).toInt64.toUInt64 &&& Int64.toUInt64 63)).toInt64) &&& (6148914691236517205 : Int64))) &&& (3689348814741910323 : Int64)) + ((((x - (((x.toUInt64 >>> ((1 : Int32).toInt64.toUInt64 &&& Int64.toUInt64 63)).toInt64) &&& (6148914691236517205 : Int64))).toUInt64 >>> ((2 : Int32).toInt64.toUInt64 &&& Int64.toUInt64 63)).toInt64) &&& (3689348814741910323 : Int64))).toUInt64 >>> ((4 : Int32).toInt64.toUInt64 &&& Int64.toUInt64 63)).toInt64)) &&& (1085102592571150095 : Int64)).toUInt64 >>> ((8 : Int32).toInt64.toUInt64 &&& Int64.toUInt64 63)).toInt64)) + ((((((((x - (((x.toUInt64 >>> ((1 : Int32).toInt64.toUInt64 &&& Int64.toUInt64 63)).toInt64) &&& (6148914691236517205 : Int64))) &&& (3689348814741910323 : Int64)) + ((((x - (((x.toUInt64 >>> ((1 : Int32).toInt64.toUInt64 &&& Int64.toUInt64 63)).toInt64) &&& (6148914691236517205 : Int64))).toUInt64 >>> ((2 : Int32).toInt64.toUInt64 &&& Int64.toUInt64 63)).toInt64) &&& (3689348814741910323 : Int64))) + (((((x - (((x.toUInt64 >>> ((1 : Int32).toInt64.toUInt64 &&& Int64.toUInt64 63)).toInt64) &&& (6148914691236517205 : Int64))) &&& (3689348814741910323 : Int64)) + ((((x - (((x.toUInt64 >>> ((1 : Int32).toInt64.toUInt64 &&& Int64.toUInt64 63)).toInt64) &&& (6148914691236517205 : Int64))).toUInt64 >>> ((2 : Int32).toInt64.toUInt64 &&& Int64.toUInt64 63)).toInt64) &&& (3689348814741910323 : Int64))).toUInt64 >>> ((4 : Int32).toInt64.toUInt64 &&& Int64.toUInt64 63)).toInt64)) &&& (1085102592571150095 : Int64)) + (((((((x - (((x.toUInt64 >>> ((1 : Int32).toInt64.toUInt64 &&& Int64.toUInt64 63)).toInt64) &&& (6148914691236517205 : Int64))) &&& (3689348814741910323 : Int64)) + ((((x - (((x.toUInt64 >>> ((1 : Int32).toInt64.toUInt64 &&& Int64.toUInt64 63)).toInt64) &&& (6148914691236517205 : Int64))).toUInt64 >>> ((2 : Int32).toInt64.toUInt64 &&& Int64.toUInt64 63)).toInt64) &&& (3689348814741910323 : Int64))) + (((((x - (((x.toUInt64 >>> ((1 : Int32).toInt64.toUInt64 &&& Int64.toUInt64 63)).toInt64) &&& (6148914691236517205 : Int64))) &&& (3689348814741910323 : Int64)) + ((((x - (((x.toUInt64 >>> ((1 : Int32).toInt64.toUInt64 &&& Int64.toUInt64 63)).toInt64) &&& (6148914691236517205 : Int64))).toUInt64 >>> ((2 : Int32).toInt64.toUInt64 &&& Int64.toUInt64 63)).toInt64) &&& (3689348814741910323 : Int64))).toUInt64 >>> ((4 : Int32).toInt64.toUInt64 &&& Int64.toUInt64 63)).toInt64)) &&& (1085102592571150095 : Int64)).toUInt64 >>> ((8 : Int32).toInt64.toUInt64 &&& Int64.toUInt64 63)).toInt64)).toUInt64 >>> ((16 : Int32).toInt64.toUInt64 &&& Int64.toUInt64 63)).toInt64)) + (((((((((x - (((x.toUInt64 >>> ((1 : Int32).toInt64.toUInt64 &&& Int64.toUInt64 63)).toInt64) &&& (6148914691236517205 : Int64))) &&& (3689348814741910323 : Int64)) + ((((x - (((x.toUInt64 >>> ((1 : Int32).toInt64.toUInt64 &&& Int64.toUInt64 63)).toInt64) &&& (6148914691236517205 : Int64))).toUInt64 >>> ((2 : Int32).toInt64.toUInt64 &&& Int64.toUInt64 63)).toInt64) &&& (3689348814741910323 : Int64))) + (((((x - (((x.toUInt64 >>> ((1 : Int32).toInt64.toUInt64 &&& Int64.toUInt64 63)).toInt64) &&& (6148914691236517205 : Int64))) &&& (3689348814741910323 : Int64)) + ((((x - (((x.toUInt64 >>> ((1 : Int32).toInt64.toUInt64 &&& Int64.toUInt64 63)).toInt64) &&& (6148914691236517205 : Int64))).toUInt64 >>> ((2 : Int32).toInt64.toUInt64 &&& Int64.toUInt64 63)).toInt64) &&& (3689348814741910323 : Int64))).toUInt64 >>> ((4 : Int32).toInt64.toUInt64 &&& Int64.toUInt64 63)).toInt64)) &&& (1085102592571150095 : Int64)) + (((((((x - (((x.toUInt64 >>> ((1 : Int32).toInt64.toUInt64 &&& Int64.toUInt64 63)).toInt64) &&& (6148914691236517205 : Int64))) &&& (3689348814741910323 : Int64)) + ((((x - (((x.toUInt64 >>> ((1 : Int32).toInt64.toUInt64 &&& Int64.toUInt64 63)).toInt64) &&& (6148914691236517205 : Int64))).toUInt64 >>> ((2 : Int32).toInt64.toUInt64 &&& Int64.toUInt64 63)).toInt64) &&& (3689348814741910323 : Int64))) + (((((x - (((x.toUInt64 >>> ((1 : Int32).toInt64.toUInt64 &&& Int64.toUInt64 63)).toInt64) &&& (6148914691236517205 : Int64))) &&& (3689348814741910323 : Int64)) + ((((x - (((x.toUInt64 >>> ((1 : Int32).toInt64.toUInt64 &&& Int64.toUInt64 63)).toInt64) &&& (6148914691236517205 : Int64))).toUInt64 >>> ((2 : Int32).toInt64.toUInt64 &&& Int64.toUInt64 63)).toInt64) &&& (3689348814741910323 : Int64))).toUInt64 >>> ((4 : Int32).toInt64.toUInt64 &&& Int64.toUInt64 63)).toInt64)) &&& (1085102592571150095 : Int64)).toUInt64 >>> ((8 : Int32).toInt64.toUInt64 &&& Int64.toUInt64 63)).toInt64)) + ((((((((x - (((x.toUInt64 >>> ((1 : Int32).toInt64.toUInt64 &&& Int64.toUInt64 63)).toInt64) &&& (6148914691236517205 : Int64))) &&& (3689348814741910323 : Int64)) + ((((x - (((x.toUInt64 >>> ((1 : Int32).toInt64.toUInt64 &&& Int64.toUInt64 63)).toInt64) &&& (6148914691236517205 : Int64))).toUInt64 >>> ((2 : Int32).toInt64.toUInt64 &&& Int64.toUInt64 63)).toInt64) &&& (3689348814741910323 : Int64))) + (((((x - (((x.toUInt64 >>> ((1 : Int32).toInt64.toUInt64 &&& Int64.toUInt64 63)).toInt64) &&& (6148914691236517205 : Int64))) &&& (3689348814741910323 : Int64)) + ((((x - (((x.toUInt64 >>> ((1 : Int32).toInt64.toUInt64 &&& Int64.toUInt64 63)).toInt64) &&& (6148914691236517205 : Int64))).toUInt64 >>> ((2 : Int32).toInt64.toUInt64 &&& Int64.toUInt64 63)).toInt64) &&& (3689348814741910323 : Int64))).toUInt64 >>> ((4 : Int32).toInt64.toUInt64 &&& Int64.toUInt64 63)).toInt64)) &&& (1085102592571150095 : Int64)) + (((((((x - (((x.toUInt64 >>> ((1 : Int32).toInt64.toUInt64 &&& Int64.toUInt64 63)).toInt64) &&& (6148914691236517205 : Int64))) &&& (3689348814741910323 : Int64)) + ((((x - (((x.toUInt64 >>> ((1 : Int32).toInt64.toUInt64 &&& Int64.toUInt64 63)).toInt64) &&& (6148914691236517205 : Int64))).toUInt64 >>> ((2 : Int32).toInt64.toUInt64 &&& Int64.toUInt64 63)).toInt64) &&& (3689348814741910323 : Int64))) + (((((x - (((x.toUInt64 >>> ((1 : Int32).toInt64.toUInt64 &&& Int64.toUInt64 63)).toInt64) &&& (6148914691236517205 : Int64))) &&& (3689348814741910323 : Int64)) + ((((x - (((x.toUInt64 >>> ((1 : Int32).toInt64.toUInt64 &&& Int64.toUInt64 63)).toInt64) &&& (6148914691236517205 : Int64))).toUInt64 >>> ((2 : Int32).toInt64.toUInt64 &&& Int64.toUInt64 63)).toInt64) &&& (3689348814741910323 : Int64))).toUInt64 >>> ((4 : Int32).toInt64.toUInt64 &&& Int64.toUInt64 63)).toInt64)) &&& (1085102592571150095 : Int64)).toUInt64 >>> ((8 : Int32).toInt64.toUInt64 &&& Int64.toUInt64 63)).toInt64)).toUInt64 >>> ((16 : Int32).toInt64.toUInt64 &&& Int64.toUInt64 63)).toInt64)).toUInt64 >>> ((32 : Int32).toInt64.toUInt64 &&& Int64.toUInt64 63)).toInt64)).toInt32) &&& (127 : Int32))
set_option maxHeartbeats 2000000 in
set_option maxRecDepth 20000 in
theorem c_J13_bitCount_95d88 {l : Launch} {E : Ex} {n : Nat} {σ : AH}  {x : Int64} (res : Int32) (hf : f_J13_bitCount_95d88 x = some res) : Con l E yJ13_bitCount_95d88 (.code yJ13_bitCount_95d88 cJ13_bitCount_95d88 2 (some .int) :: TT) ({ frames := 0, cells := 0, slots := 0, locals := 0 } : Room) 0 0 [.long x] σ n (some (.int res)) σ n := by
  refine con_intro (by decide +kernel) (Nat.le_of_ble_eq_true rfl) ?_
  intro K C hKR hKL hKE hKN hKQ
  subst hKL
  subst hKE
  have C : Cx K RJ13 "bitCount" cJ13_bitCount_95d88 (some .int) := C
  show G K 0 0 0 [(0, .long x)] [] σ n
  unfold f_J13_bitCount_95d88 at hf
  refine g_lload_n C rfl (q := 0) rfl dJ13_bitCount_95d88_0 rfl ?_
  refine g_lload_n C rfl (q := 0) rfl dJ13_bitCount_95d88_1 rfl ?_
  refine g_iconst (v := 1) C (by decide) dJ13_bitCount_95d88_2 rfl ?_
  refine g_lushr C dJ13_bitCount_95d88_3 rfl ?_
  refine g_ldc2 C wc_RJ13_314 dJ13_bitCount_95d88_4 rfl ?_
  refine g_land C dJ13_bitCount_95d88_7 rfl ?_
  refine g_lsub C dJ13_bitCount_95d88_8 rfl ?_
  refine g_lstore_n (i := 0) (lv' := [(0, .long (x - (((x.toUInt64 >>> ((1 : Int32).toInt64.toUInt64 &&& Int64.toUInt64 63)).toInt64) &&& (6148914691236517205 : Int64))))]) C dJ13_bitCount_95d88_9 rfl rfl (by rw [hKN]; decide) rfl ?_
  refine g_lload_n C rfl (q := 0) rfl dJ13_bitCount_95d88_10 rfl ?_
  refine g_ldc2 C wc_RJ13_316 dJ13_bitCount_95d88_11 rfl ?_
  refine g_land C dJ13_bitCount_95d88_14 rfl ?_
  refine g_lload_n C rfl (q := 0) rfl dJ13_bitCount_95d88_15 rfl ?_
  refine g_iconst (v := 2) C (by decide) dJ13_bitCount_95d88_16 rfl ?_
  refine g_lushr C dJ13_bitCount_95d88_17 rfl ?_
  refine g_ldc2 C wc_RJ13_316 dJ13_bitCount_95d88_18 rfl ?_
  refine g_land C dJ13_bitCount_95d88_21 rfl ?_
  refine g_ladd C dJ13_bitCount_95d88_22 rfl ?_
  refine g_lstore_n (i := 0) (lv' := [(0, .long (((x - (((x.toUInt64 >>> ((1 : Int32).toInt64.toUInt64 &&& Int64.toUInt64 63)).toInt64) &&& (6148914691236517205 : Int64))) &&& (3689348814741910323 : Int64)) + ((((x - (((x.toUInt64 >>> ((1 : Int32).toInt64.toUInt64 &&& Int64.toUInt64 63)).toInt64) &&& (6148914691236517205 : Int64))).toUInt64 >>> ((2 : Int32).toInt64.toUInt64 &&& Int64.toUInt64 63)).toInt64) &&& (3689348814741910323 : Int64))))]) C dJ13_bitCount_95d88_23 rfl rfl (by rw [hKN]; decide) rfl ?_
  refine g_lload_n C rfl (q := 0) rfl dJ13_bitCount_95d88_24 rfl ?_
  refine g_lload_n C rfl (q := 0) rfl dJ13_bitCount_95d88_25 rfl ?_
  refine g_iconst (v := 4) C (by decide) dJ13_bitCount_95d88_26 rfl ?_
  refine g_lushr C dJ13_bitCount_95d88_27 rfl ?_
  refine g_ladd C dJ13_bitCount_95d88_28 rfl ?_
  refine g_ldc2 C wc_RJ13_318 dJ13_bitCount_95d88_29 rfl ?_
  refine g_land C dJ13_bitCount_95d88_32 rfl ?_
  refine g_lstore_n (i := 0) (lv' := [(0, .long (((((x - (((x.toUInt64 >>> ((1 : Int32).toInt64.toUInt64 &&& Int64.toUInt64 63)).toInt64) &&& (6148914691236517205 : Int64))) &&& (3689348814741910323 : Int64)) + ((((x - (((x.toUInt64 >>> ((1 : Int32).toInt64.toUInt64 &&& Int64.toUInt64 63)).toInt64) &&& (6148914691236517205 : Int64))).toUInt64 >>> ((2 : Int32).toInt64.toUInt64 &&& Int64.toUInt64 63)).toInt64) &&& (3689348814741910323 : Int64))) + (((((x - (((x.toUInt64 >>> ((1 : Int32).toInt64.toUInt64 &&& Int64.toUInt64 63)).toInt64) &&& (6148914691236517205 : Int64))) &&& (3689348814741910323 : Int64)) + ((((x - (((x.toUInt64 >>> ((1 : Int32).toInt64.toUInt64 &&& Int64.toUInt64 63)).toInt64) &&& (6148914691236517205 : Int64))).toUInt64 >>> ((2 : Int32).toInt64.toUInt64 &&& Int64.toUInt64 63)).toInt64) &&& (3689348814741910323 : Int64))).toUInt64 >>> ((4 : Int32).toInt64.toUInt64 &&& Int64.toUInt64 63)).toInt64)) &&& (1085102592571150095 : Int64)))]) C dJ13_bitCount_95d88_33 rfl rfl (by rw [hKN]; decide) rfl ?_
  refine g_lload_n C rfl (q := 0) rfl dJ13_bitCount_95d88_34 rfl ?_
  refine g_lload_n C rfl (q := 0) rfl dJ13_bitCount_95d88_35 rfl ?_
  refine g_bipush (v := 8) C (by decide) dJ13_bitCount_95d88_36 rfl ?_
  refine g_lushr C dJ13_bitCount_95d88_38 rfl ?_
  refine g_ladd C dJ13_bitCount_95d88_39 rfl ?_
  refine g_lstore_n (i := 0) (lv' := [(0, .long ((((((x - (((x.toUInt64 >>> ((1 : Int32).toInt64.toUInt64 &&& Int64.toUInt64 63)).toInt64) &&& (6148914691236517205 : Int64))) &&& (3689348814741910323 : Int64)) + ((((x - (((x.toUInt64 >>> ((1 : Int32).toInt64.toUInt64 &&& Int64.toUInt64 63)).toInt64) &&& (6148914691236517205 : Int64))).toUInt64 >>> ((2 : Int32).toInt64.toUInt64 &&& Int64.toUInt64 63)).toInt64) &&& (3689348814741910323 : Int64))) + (((((x - (((x.toUInt64 >>> ((1 : Int32).toInt64.toUInt64 &&& Int64.toUInt64 63)).toInt64) &&& (6148914691236517205 : Int64))) &&& (3689348814741910323 : Int64)) + ((((x - (((x.toUInt64 >>> ((1 : Int32).toInt64.toUInt64 &&& Int64.toUInt64 63)).toInt64) &&& (6148914691236517205 : Int64))).toUInt64 >>> ((2 : Int32).toInt64.toUInt64 &&& Int64.toUInt64 63)).toInt64) &&& (3689348814741910323 : Int64))).toUInt64 >>> ((4 : Int32).toInt64.toUInt64 &&& Int64.toUInt64 63)).toInt64)) &&& (1085102592571150095 : Int64)) + (((((((x - (((x.toUInt64 >>> ((1 : Int32).toInt64.toUInt64 &&& Int64.toUInt64 63)).toInt64) &&& (6148914691236517205 : Int64))) &&& (3689348814741910323 : Int64)) + ((((x - (((x.toUInt64 >>> ((1 : Int32).toInt64.toUInt64 &&& Int64.toUInt64 63)).toInt64) &&& (6148914691236517205 : Int64))).toUInt64 >>> ((2 : Int32).toInt64.toUInt64 &&& Int64.toUInt64 63)).toInt64) &&& (3689348814741910323 : Int64))) + (((((x - (((x.toUInt64 >>> ((1 : Int32).toInt64.toUInt64 &&& Int64.toUInt64 63)).toInt64) &&& (6148914691236517205 : Int64))) &&& (3689348814741910323 : Int64)) + ((((x - (((x.toUInt64 >>> ((1 : Int32).toInt64.toUInt64 &&& Int64.toUInt64 63)).toInt64) &&& (6148914691236517205 : Int64))).toUInt64 >>> ((2 : Int32).toInt64.toUInt64 &&& Int64.toUInt64 63)).toInt64) &&& (3689348814741910323 : Int64))).toUInt64 >>> ((4 : Int32).toInt64.toUInt64 &&& Int64.toUInt64 63)).toInt64)) &&& (1085102592571150095 : Int64)).toUInt64 >>> ((8 : Int32).toInt64.toUInt64 &&& Int64.toUInt64 63)).toInt64)))]) C dJ13_bitCount_95d88_40 rfl rfl (by rw [hKN]; decide) rfl ?_
  refine g_lload_n C rfl (q := 0) rfl dJ13_bitCount_95d88_41 rfl ?_
  refine g_lload_n C rfl (q := 0) rfl dJ13_bitCount_95d88_42 rfl ?_
  refine g_bipush (v := 16) C (by decide) dJ13_bitCount_95d88_43 rfl ?_
  refine g_lushr C dJ13_bitCount_95d88_45 rfl ?_
  refine g_ladd C dJ13_bitCount_95d88_46 rfl ?_
  refine g_lstore_n (i := 0) (lv' := [(0, .long (((((((x - (((x.toUInt64 >>> ((1 : Int32).toInt64.toUInt64 &&& Int64.toUInt64 63)).toInt64) &&& (6148914691236517205 : Int64))) &&& (3689348814741910323 : Int64)) + ((((x - (((x.toUInt64 >>> ((1 : Int32).toInt64.toUInt64 &&& Int64.toUInt64 63)).toInt64) &&& (6148914691236517205 : Int64))).toUInt64 >>> ((2 : Int32).toInt64.toUInt64 &&& Int64.toUInt64 63)).toInt64) &&& (3689348814741910323 : Int64))) + (((((x - (((x.toUInt64 >>> ((1 : Int32).toInt64.toUInt64 &&& Int64.toUInt64 63)).toInt64) &&& (6148914691236517205 : Int64))) &&& (3689348814741910323 : Int64)) + ((((x - (((x.toUInt64 >>> ((1 : Int32).toInt64.toUInt64 &&& Int64.toUInt64 63)).toInt64) &&& (6148914691236517205 : Int64))).toUInt64 >>> ((2 : Int32).toInt64.toUInt64 &&& Int64.toUInt64 63)).toInt64) &&& (3689348814741910323 : Int64))).toUInt64 >>> ((4 : Int32).toInt64.toUInt64 &&& Int64.toUInt64 63)).toInt64)) &&& (1085102592571150095 : Int64)) + (((((((x - (((x.toUInt64 >>> ((1 : Int32).toInt64.toUInt64 &&& Int64.toUInt64 63)).toInt64) &&& (6148914691236517205 : Int64))) &&& (3689348814741910323 : Int64)) + ((((x - (((x.toUInt64 >>> ((1 : Int32).toInt64.toUInt64 &&& Int64.toUInt64 63)).toInt64) &&& (6148914691236517205 : Int64))).toUInt64 >>> ((2 : Int32).toInt64.toUInt64 &&& Int64.toUInt64 63)).toInt64) &&& (3689348814741910323 : Int64))) + (((((x - (((x.toUInt64 >>> ((1 : Int32).toInt64.toUInt64 &&& Int64.toUInt64 63)).toInt64) &&& (6148914691236517205 : Int64))) &&& (3689348814741910323 : Int64)) + ((((x - (((x.toUInt64 >>> ((1 : Int32).toInt64.toUInt64 &&& Int64.toUInt64 63)).toInt64) &&& (6148914691236517205 : Int64))).toUInt64 >>> ((2 : Int32).toInt64.toUInt64 &&& Int64.toUInt64 63)).toInt64) &&& (3689348814741910323 : Int64))).toUInt64 >>> ((4 : Int32).toInt64.toUInt64 &&& Int64.toUInt64 63)).toInt64)) &&& (1085102592571150095 : Int64)).toUInt64 >>> ((8 : Int32).toInt64.toUInt64 &&& Int64.toUInt64 63)).toInt64)) + ((((((((x - (((x.toUInt64 >>> ((1 : Int32).toInt64.toUInt64 &&& Int64.toUInt64 63)).toInt64) &&& (6148914691236517205 : Int64))) &&& (3689348814741910323 : Int64)) + ((((x - (((x.toUInt64 >>> ((1 : Int32).toInt64.toUInt64 &&& Int64.toUInt64 63)).toInt64) &&& (6148914691236517205 : Int64))).toUInt64 >>> ((2 : Int32).toInt64.toUInt64 &&& Int64.toUInt64 63)).toInt64) &&& (3689348814741910323 : Int64))) + (((((x - (((x.toUInt64 >>> ((1 : Int32).toInt64.toUInt64 &&& Int64.toUInt64 63)).toInt64) &&& (6148914691236517205 : Int64))) &&& (3689348814741910323 : Int64)) + ((((x - (((x.toUInt64 >>> ((1 : Int32).toInt64.toUInt64 &&& Int64.toUInt64 63)).toInt64) &&& (6148914691236517205 : Int64))).toUInt64 >>> ((2 : Int32).toInt64.toUInt64 &&& Int64.toUInt64 63)).toInt64) &&& (3689348814741910323 : Int64))).toUInt64 >>> ((4 : Int32).toInt64.toUInt64 &&& Int64.toUInt64 63)).toInt64)) &&& (1085102592571150095 : Int64)) + (((((((x - (((x.toUInt64 >>> ((1 : Int32).toInt64.toUInt64 &&& Int64.toUInt64 63)).toInt64) &&& (6148914691236517205 : Int64))) &&& (3689348814741910323 : Int64)) + ((((x - (((x.toUInt64 >>> ((1 : Int32).toInt64.toUInt64 &&& Int64.toUInt64 63)).toInt64) &&& (6148914691236517205 : Int64))).toUInt64 >>> ((2 : Int32).toInt64.toUInt64 &&& Int64.toUInt64 63)).toInt64) &&& (3689348814741910323 : Int64))) + (((((x - (((x.toUInt64 >>> ((1 : Int32).toInt64.toUInt64 &&& Int64.toUInt64 63)).toInt64) &&& (6148914691236517205 : Int64))) &&& (3689348814741910323 : Int64)) + ((((x - (((x.toUInt64 >>> ((1 : Int32).toInt64.toUInt64 &&& Int64.toUInt64 63)).toInt64) &&& (6148914691236517205 : Int64))).toUInt64 >>> ((2 : Int32).toInt64.toUInt64 &&& Int64.toUInt64 63)).toInt64) &&& (3689348814741910323 : Int64))).toUInt64 >>> ((4 : Int32).toInt64.toUInt64 &&& Int64.toUInt64 63)).toInt64)) &&& (1085102592571150095 : Int64)).toUInt64 >>> ((8 : Int32).toInt64.toUInt64 &&& Int64.toUInt64 63)).toInt64)).toUInt64 >>> ((16 : Int32).toInt64.toUInt64 &&& Int64.toUInt64 63)).toInt64)))]) C dJ13_bitCount_95d88_47 rfl rfl (by rw [hKN]; decide) rfl ?_
  refine g_lload_n C rfl (q := 0) rfl dJ13_bitCount_95d88_48 rfl ?_
  refine g_lload_n C rfl (q := 0) rfl dJ13_bitCount_95d88_49 rfl ?_
  refine g_bipush (v := 32) C (by decide) dJ13_bitCount_95d88_50 rfl ?_
  refine g_lushr C dJ13_bitCount_95d88_52 rfl ?_
  refine g_ladd C dJ13_bitCount_95d88_53 rfl ?_
  refine g_lstore_n (i := 0) (lv' := [(0, .long ((((((((x - (((x.toUInt64 >>> ((1 : Int32).toInt64.toUInt64 &&& Int64.toUInt64 63)).toInt64) &&& (6148914691236517205 : Int64))) &&& (3689348814741910323 : Int64)) + ((((x - (((x.toUInt64 >>> ((1 : Int32).toInt64.toUInt64 &&& Int64.toUInt64 63)).toInt64) &&& (6148914691236517205 : Int64))).toUInt64 >>> ((2 : Int32).toInt64.toUInt64 &&& Int64.toUInt64 63)).toInt64) &&& (3689348814741910323 : Int64))) + (((((x - (((x.toUInt64 >>> ((1 : Int32).toInt64.toUInt64 &&& Int64.toUInt64 63)).toInt64) &&& (6148914691236517205 : Int64))) &&& (3689348814741910323 : Int64)) + ((((x - (((x.toUInt64 >>> ((1 : Int32).toInt64.toUInt64 &&& Int64.toUInt64 63)).toInt64) &&& (6148914691236517205 : Int64))).toUInt64 >>> ((2 : Int32).toInt64.toUInt64 &&& Int64.toUInt64 63)).toInt64) &&& (3689348814741910323 : Int64))).toUInt64 >>> ((4 : Int32).toInt64.toUInt64 &&& Int64.toUInt64 63)).toInt64)) &&& (1085102592571150095 : Int64)) + (((((((x - (((x.toUInt64 >>> ((1 : Int32).toInt64.toUInt64 &&& Int64.toUInt64 63)).toInt64) &&& (6148914691236517205 : Int64))) &&& (3689348814741910323 : Int64)) + ((((x - (((x.toUInt64 >>> ((1 : Int32).toInt64.toUInt64 &&& Int64.toUInt64 63)).toInt64) &&& (6148914691236517205 : Int64))).toUInt64 >>> ((2 : Int32).toInt64.toUInt64 &&& Int64.toUInt64 63)).toInt64) &&& (3689348814741910323 : Int64))) + (((((x - (((x.toUInt64 >>> ((1 : Int32).toInt64.toUInt64 &&& Int64.toUInt64 63)).toInt64) &&& (6148914691236517205 : Int64))) &&& (3689348814741910323 : Int64)) + ((((x - (((x.toUInt64 >>> ((1 : Int32).toInt64.toUInt64 &&& Int64.toUInt64 63)).toInt64) &&& (6148914691236517205 : Int64))).toUInt64 >>> ((2 : Int32).toInt64.toUInt64 &&& Int64.toUInt64 63)).toInt64) &&& (3689348814741910323 : Int64))).toUInt64 >>> ((4 : Int32).toInt64.toUInt64 &&& Int64.toUInt64 63)).toInt64)) &&& (1085102592571150095 : Int64)).toUInt64 >>> ((8 : Int32).toInt64.toUInt64 &&& Int64.toUInt64 63)).toInt64)) + ((((((((x - (((x.toUInt64 >>> ((1 : Int32).toInt64.toUInt64 &&& Int64.toUInt64 63)).toInt64) &&& (6148914691236517205 : Int64))) &&& (3689348814741910323 : Int64)) + ((((x - (((x.toUInt64 >>> ((1 : Int32).toInt64.toUInt64 &&& Int64.toUInt64 63)).toInt64) &&& (6148914691236517205 : Int64))).toUInt64 >>> ((2 : Int32).toInt64.toUInt64 &&& Int64.toUInt64 63)).toInt64) &&& (3689348814741910323 : Int64))) + (((((x - (((x.toUInt64 >>> ((1 : Int32).toInt64.toUInt64 &&& Int64.toUInt64 63)).toInt64) &&& (6148914691236517205 : Int64))) &&& (3689348814741910323 : Int64)) + ((((x - (((x.toUInt64 >>> ((1 : Int32).toInt64.toUInt64 &&& Int64.toUInt64 63)).toInt64) &&& (6148914691236517205 : Int64))).toUInt64 >>> ((2 : Int32).toInt64.toUInt64 &&& Int64.toUInt64 63)).toInt64) &&& (3689348814741910323 : Int64))).toUInt64 >>> ((4 : Int32).toInt64.toUInt64 &&& Int64.toUInt64 63)).toInt64)) &&& (1085102592571150095 : Int64)) + (((((((x - (((x.toUInt64 >>> ((1 : Int32).toInt64.toUInt64 &&& Int64.toUInt64 63)).toInt64) &&& (6148914691236517205 : Int64))) &&& (3689348814741910323 : Int64)) + ((((x - (((x.toUInt64 >>> ((1 : Int32).toInt64.toUInt64 &&& Int64.toUInt64 63)).toInt64) &&& (6148914691236517205 : Int64))).toUInt64 >>> ((2 : Int32).toInt64.toUInt64 &&& Int64.toUInt64 63)).toInt64) &&& (3689348814741910323 : Int64))) + (((((x - (((x.toUInt64 >>> ((1 : Int32).toInt64.toUInt64 &&& Int64.toUInt64 63)).toInt64) &&& (6148914691236517205 : Int64))) &&& (3689348814741910323 : Int64)) + ((((x - (((x.toUInt64 >>> ((1 : Int32).toInt64.toUInt64 &&& Int64.toUInt64 63)).toInt64) &&& (6148914691236517205 : Int64))).toUInt64 >>> ((2 : Int32).toInt64.toUInt64 &&& Int64.toUInt64 63)).toInt64) &&& (3689348814741910323 : Int64))).toUInt64 >>> ((4 : Int32).toInt64.toUInt64 &&& Int64.toUInt64 63)).toInt64)) &&& (1085102592571150095 : Int64)).toUInt64 >>> ((8 : Int32).toInt64.toUInt64 &&& Int64.toUInt64 63)).toInt64)).toUInt64 >>> ((16 : Int32).toInt64.toUInt64 &&& Int64.toUInt64 63)).toInt64)) + (((((((((x - (((x.toUInt64 >>> ((1 : Int32).toInt64.toUInt64 &&& Int64.toUInt64 63)).toInt64) &&& (6148914691236517205 : Int64))) &&& (3689348814741910323 : Int64)) + ((((x - (((x.toUInt64 >>> ((1 : Int32).toInt64.toUInt64 &&& Int64.toUInt64 63)).toInt64) &&& (6148914691236517205 : Int64))).toUInt64 >>> ((2 : Int32).toInt64.toUInt64 &&& Int64.toUInt64 63)).toInt64) &&& (3689348814741910323 : Int64))) + (((((x - (((x.toUInt64 >>> ((1 : Int32).toInt64.toUInt64 &&& Int64.toUInt64 63)).toInt64) &&& (6148914691236517205 : Int64))) &&& (3689348814741910323 : Int64)) + ((((x - (((x.toUInt64 >>> ((1 : Int32).toInt64.toUInt64 &&& Int64.toUInt64 63)).toInt64) &&& (6148914691236517205 : Int64))).toUInt64 >>> ((2 : Int32).toInt64.toUInt64 &&& Int64.toUInt64 63)).toInt64) &&& (3689348814741910323 : Int64))).toUInt64 >>> ((4 : Int32).toInt64.toUInt64 &&& Int64.toUInt64 63)).toInt64)) &&& (1085102592571150095 : Int64)) + (((((((x - (((x.toUInt64 >>> ((1 : Int32).toInt64.toUInt64 &&& Int64.toUInt64 63)).toInt64) &&& (6148914691236517205 : Int64))) &&& (3689348814741910323 : Int64)) + ((((x - (((x.toUInt64 >>> ((1 : Int32).toInt64.toUInt64 &&& Int64.toUInt64 63)).toInt64) &&& (6148914691236517205 : Int64))).toUInt64 >>> ((2 : Int32).toInt64.toUInt64 &&& Int64.toUInt64 63)).toInt64) &&& (3689348814741910323 : Int64))) + (((((x - (((x.toUInt64 >>> ((1 : Int32).toInt64.toUInt64 &&& Int64.toUInt64 63)).toInt64) &&& (6148914691236517205 : Int64))) &&& (3689348814741910323 : Int64)) + ((((x - (((x.toUInt64 >>> ((1 : Int32).toInt64.toUInt64 &&& Int64.toUInt64 63)).toInt64) &&& (6148914691236517205 : Int64))).toUInt64 >>> ((2 : Int32).toInt64.toUInt64 &&& Int64.toUInt64 63)).toInt64) &&& (3689348814741910323 : Int64))).toUInt64 >>> ((4 : Int32).toInt64.toUInt64 &&& Int64.toUInt64 63)).toInt64)) &&& (1085102592571150095 : Int64)).toUInt64 >>> ((8 : Int32).toInt64.toUInt64 &&& Int64.toUInt64 63)).toInt64)) + ((((((((x - (((x.toUInt64 >>> ((1 : Int32).toInt64.toUInt64 &&& Int64.toUInt64 63)).toInt64) &&& (6148914691236517205 : Int64))) &&& (3689348814741910323 : Int64)) + ((((x - (((x.toUInt64 >>> ((1 : Int32).toInt64.toUInt64 &&& Int64.toUInt64 63)).toInt64) &&& (6148914691236517205 : Int64))).toUInt64 >>> ((2 : Int32).toInt64.toUInt64 &&& Int64.toUInt64 63)).toInt64) &&& (3689348814741910323 : Int64))) + (((((x - (((x.toUInt64 >>> ((1 : Int32).toInt64.toUInt64 &&& Int64.toUInt64 63)).toInt64) &&& (6148914691236517205 : Int64))) &&& (3689348814741910323 : Int64)) + ((((x - (((x.toUInt64 >>> ((1 : Int32).toInt64.toUInt64 &&& Int64.toUInt64 63)).toInt64) &&& (6148914691236517205 : Int64))).toUInt64 >>> ((2 : Int32).toInt64.toUInt64 &&& Int64.toUInt64 63)).toInt64) &&& (3689348814741910323 : Int64))).toUInt64 >>> ((4 : Int32).toInt64.toUInt64 &&& Int64.toUInt64 63)).toInt64)) &&& (1085102592571150095 : Int64)) + (((((((x - (((x.toUInt64 >>> ((1 : Int32).toInt64.toUInt64 &&& Int64.toUInt64 63)).toInt64) &&& (6148914691236517205 : Int64))) &&& (3689348814741910323 : Int64)) + ((((x - (((x.toUInt64 >>> ((1 : Int32).toInt64.toUInt64 &&& Int64.toUInt64 63)).toInt64) &&& (6148914691236517205 : Int64))).toUInt64 >>> ((2 : Int32).toInt64.toUInt64 &&& Int64.toUInt64 63)).toInt64) &&& (3689348814741910323 : Int64))) + (((((x - (((x.toUInt64 >>> ((1 : Int32).toInt64.toUInt64 &&& Int64.toUInt64 63)).toInt64) &&& (6148914691236517205 : Int64))) &&& (3689348814741910323 : Int64)) + ((((x - (((x.toUInt64 >>> ((1 : Int32).toInt64.toUInt64 &&& Int64.toUInt64 63)).toInt64) &&& (6148914691236517205 : Int64))).toUInt64 >>> ((2 : Int32).toInt64.toUInt64 &&& Int64.toUInt64 63)).toInt64) &&& (3689348814741910323 : Int64))).toUInt64 >>> ((4 : Int32).toInt64.toUInt64 &&& Int64.toUInt64 63)).toInt64)) &&& (1085102592571150095 : Int64)).toUInt64 >>> ((8 : Int32).toInt64.toUInt64 &&& Int64.toUInt64 63)).toInt64)).toUInt64 >>> ((16 : Int32).toInt64.toUInt64 &&& Int64.toUInt64 63)).toInt64)).toUInt64 >>> ((32 : Int32).toInt64.toUInt64 &&& Int64.toUInt64 63)).toInt64)))]) C dJ13_bitCount_95d88_54 rfl rfl (by rw [hKN]; decide) rfl ?_
  refine g_lload_n C rfl (q := 0) rfl dJ13_bitCount_95d88_55 rfl ?_
  refine g_l2i C dJ13_bitCount_95d88_56 rfl ?_
  refine g_bipush (v := 127) C (by decide) dJ13_bitCount_95d88_57 rfl ?_
  refine g_iand C dJ13_bitCount_95d88_59 rfl ?_
  cases hf
  exact g_iret C hKQ dJ13_bitCount_95d88_60
def f_X0_isBelow (a : Int64) (b : Int64) : Option Int32 := (if bOk (if (b ^^^ (-9223372036854775808 : Int64)) ≤ (a ^^^ (-9223372036854775808 : Int64)) then (0 : Int32) else (1 : Int32)) = true then some (if (b ^^^ (-9223372036854775808 : Int64)) ≤ (a ^^^ (-9223372036854775808 : Int64)) then (0 : Int32) else (1 : Int32)) else none)
set_option maxHeartbeats 2000000 in
set_option maxRecDepth 20000 in
theorem c_X0_isBelow {l : Launch} {E : Ex} {n : Nat} {σ : AH}  {a : Int64} {b : Int64} (res : Int32) (hf : f_X0_isBelow a b = some res) : Con l E yX0_isBelow (.code yX0_isBelow cX0_isBelow 4 (some .boolean) :: TT) ({ frames := 0, cells := 0, slots := 0, locals := 0 } : Room) 0 0 [.long a, .long b] σ n (some (.int res)) σ n := by
  refine con_intro (by decide +kernel) (Nat.le_of_ble_eq_true rfl) ?_
  intro K C hKR hKL hKE hKN hKQ
  subst hKL
  subst hKE
  have C : Cx K RX0 "isBelow" cX0_isBelow (some .boolean) := C
  show G K 0 0 0 [(0, .long a), (2, .long b)] [] σ n
  unfold f_X0_isBelow at hf
  refine g_lload_n C rfl (q := 0) rfl dX0_isBelow_0 rfl ?_
  refine g_ldc2 C wc_RX0_9 dX0_isBelow_1 rfl ?_
  refine g_lxor C dX0_isBelow_4 rfl ?_
  refine g_lload_n C rfl (q := 1) rfl dX0_isBelow_5 rfl ?_
  refine g_ldc2 C wc_RX0_9 dX0_isBelow_6 rfl ?_
  refine g_lxor C dX0_isBelow_9 rfl ?_
  have j2 : G K 0 0 19 [(0, .long a), (2, .long b)] [.int (if (b ^^^ (-9223372036854775808 : Int64)) ≤ (a ^^^ (-9223372036854775808 : Int64)) then (0 : Int32) else (1 : Int32))] σ n := by
    obtain ⟨g1, hf⟩ := gd hf
    cases hf
    exact g_zret C (bOk_n g1) hKQ dX0_isBelow_19
  refine g_lif_ge (tgt := 18) C dX0_isBelow_10 rfl dX0_isBelow_11 (by decide) rfl (fun c3 => ?_) (fun c3 => ?_)
  · refine g_iconst (v := 0) C (by decide) dX0_isBelow_18 rfl ?_
    exact g_topI (by rw [if_pos c3]) j2
  · refine g_iconst (v := 1) C (by decide) dX0_isBelow_14 rfl ?_
    refine g_goto (pc' := 19) C dX0_isBelow_15 (by decide) ?_
    exact g_topI (by rw [if_neg c3]) j2
def f_X0_lowest (set : Int64) : Option Int32 := ((f_J13_bitCount_95d88 ((set &&& (-set)) - (1 : Int64))).bind fun q1 => some q1)
set_option maxHeartbeats 2000000 in
set_option maxRecDepth 20000 in
theorem c_X0_lowest {l : Launch} {E : Ex} {n : Nat} {σ : AH}  {set : Int64} (res : Int32) (hf : f_X0_lowest set = some res) : Con l E yX0_lowest (.code yX0_lowest cX0_lowest 2 (some .int) :: TT) ({ frames := 1, cells := 0, slots := 0, locals := 21 } : Room) 0 0 [.long set] σ n (some (.int res)) σ n := by
  refine con_intro (by decide +kernel) (Nat.le_of_ble_eq_true rfl) ?_
  intro K C hKR hKL hKE hKN hKQ
  subst hKL
  subst hKE
  have C : Cx K RX0 "lowest" cX0_lowest (some .int) := C
  show G K 0 0 0 [(0, .long set)] [] σ n
  unfold f_X0_lowest at hf
  refine g_lload_n C rfl (q := 0) rfl dX0_lowest_0 rfl ?_
  refine g_lload_n C rfl (q := 0) rfl dX0_lowest_1 rfl ?_
  refine g_lneg C dX0_lowest_2 rfl ?_
  refine g_land C dX0_lowest_3 rfl ?_
  refine g_lconst (v := 1) C (by decide) dX0_lowest_4 rfl ?_
  refine g_lsub C dX0_lowest_5 rfl ?_
  obtain ⟨q1, hq1, hf⟩ := bd hf
  refine g_callS0 (st' := []) (as := [.long ((set &&& (-set)) - (1 : Int64))]) (st2 := [.int q1]) (k := 1) C ⟨wm_RX0_11, ws_J13_bitCount_95d88, wi_RJ13, wk_J13_bitCount_95d88, by decide +kernel⟩ (c_J13_bitCount_95d88 (l := kL K) (E := kE K)  _ hq1) (by rw [hKR]; exact ⟨rfl, rfl, ⟨by decide, by decide⟩, by decide, by decide⟩) rfl rfl (by simp) rfl dX0_lowest_6 rfl ?_
  cases hf
  exact g_iret C hKQ dX0_lowest_9
def f_X0_least_2  (l0 : Int64) (l2 : Int32) : Nat → Int32 → Option Int32
  | 0, _ => none
  | fu + 1, l3 => (if (3 : Int32) ≤ l3 then some l3 else (if inB l2 3 = true then (if inB l2 3 = true then (if (l0 &&& ((z_FLOOR l2.toNatClampNeg) <<< ((l3 * (z_STRIDE l2.toNatClampNeg)).toInt64 &&& 63))) = (0 : Int64) then f_X0_least_2 l0 l2 fu (l3 + (1 : Int32)) else some l3) else none) else none))
def f_X0_least (fu : Nat) (set : Int64) (axis : Int32) : Option Int32 := ((f_X0_least_2 set axis fu (0 : Int32)).bind fun q13 => some q13)
set_option maxHeartbeats 2000000 in
set_option maxRecDepth 20000 in
theorem g_X0_least_2 {K : KX} {n : Nat} {σ : AH} {l0 : Int64} {l2 : Int32} (C : Cx K RX0 "least" cX0_least (some .int)) (hKR : kR K = ({ frames := 0, cells := 0, slots := 0, locals := 0 } : Room)) (hKN : kN K = 4) : ∀ (fu : Nat) (l3 : Int32) (res : Int32), f_X0_least_2 l0 l2 fu l3 = some res → G K 0 0 33 [(3, .int res)] [] σ n → G K 0 0 2 [(0, .long l0), (2, .int l2), (3, .int l3)] [] σ n := by
  intro fu
  induction fu with
  | zero =>
    intro l3 res hf
    exact absurd hf (by simp [f_X0_least_2])
  | succ fu ih =>
    intro l3 res hf hx
    rw [f_X0_least_2] at hf
    refine g_iload_n C rfl (q := 2) rfl dX0_least_2 rfl ?_
    refine g_iconst (v := 3) C (by decide) dX0_least_3 rfl ?_
    refine g_icmp_ge (tgt := 33) C dX0_least_4 (by decide) rfl (fun c9 => ?_) (fun c9 => ?_)
    · replace hf := ift c9 hf
      cases hf
      refine g_sub (lv' := [(3, .int l3)]) [2] rfl ?_
      exact hx
    · replace hf := iff' c9 hf
      refine g_lload_n C rfl (q := 0) rfl dX0_least_7 rfl ?_
      refine g_gets C (zS C).2.1.1 wz_RX0_17 dX0_least_8 rfl ?_
      refine g_iload_n C rfl (q := 1) rfl dX0_least_11 rfl ?_
      obtain ⟨g10, hf⟩ := gd hf
      refine g_slld C (zS C).2.1.2 (inB_in g10) dX0_least_12 rfl ?_
      refine g_iload_n C rfl (q := 2) rfl dX0_least_13 rfl ?_
      refine g_gets C (zS C).1.1 wz_RX0_23 dX0_least_14 rfl ?_
      refine g_iload_n C rfl (q := 1) rfl dX0_least_17 rfl ?_
      obtain ⟨g11, hf⟩ := gd hf
      refine g_sild C (zS C).1.2 (inB_in g11) dX0_least_18 rfl ?_
      refine g_imul C dX0_least_19 rfl ?_
      refine g_lshl C dX0_least_20 rfl ?_
      refine g_land C dX0_least_21 rfl ?_
      refine g_lconst (v := 0) C (by decide) dX0_least_22 rfl ?_
      refine g_lif_ne (tgt := 33) C dX0_least_23 rfl dX0_least_24 (by decide) rfl (fun c12 => ?_) (fun c12 => ?_)
      · replace hf := iff' c12 hf
        cases hf
        refine g_sub (lv' := [(3, .int l3)]) [2] rfl ?_
        exact hx
      · replace hf := ift c12 hf
        refine g_iinc (v := l3 + (1 : Int32)) (lv' := [(3, .int (l3 + (1 : Int32))), (0, .long l0), (2, .int l2)]) (q := 2) C dX0_least_27 rfl rfl rfl (by rw [hKN]; decide) rfl ?_
        refine g_goto (pc' := 2) C dX0_least_30 (by decide) ?_
        refine g_sub (lv' := [(0, .long l0), (2, .int l2), (3, .int (l3 + (1 : Int32)))]) [1, 2, 0] rfl ?_
        exact ih _ _ hf hx
set_option maxHeartbeats 2000000 in
set_option maxRecDepth 20000 in
theorem c_X0_least {l : Launch} {E : Ex} {n : Nat} {σ : AH}  {set : Int64} {axis : Int32} {fu : Nat} (res : Int32) (hf : f_X0_least fu set axis = some res) : Con l E yX0_least (.code yX0_least cX0_least 4 (some .int) :: TT) ({ frames := 0, cells := 0, slots := 0, locals := 0 } : Room) 0 0 [.long set, .int axis] σ n (some (.int res)) σ n := by
  refine con_intro (by decide +kernel) (Nat.le_of_ble_eq_true rfl) ?_
  intro K C hKR hKL hKE hKN hKQ
  subst hKL
  subst hKE
  have C : Cx K RX0 "least" cX0_least (some .int) := C
  show G K 0 0 0 [(0, .long set), (2, .int axis)] [] σ n
  unfold f_X0_least at hf
  refine g_iconst (v := 0) C (by decide) dX0_least_0 rfl ?_
  refine g_istore_n (i := 3) (lv' := [(3, .int (0 : Int32)), (0, .long set), (2, .int axis)]) C dX0_least_1 rfl rfl (by rw [hKN]; decide) rfl ?_
  refine g_sub (lv' := [(0, .long set), (2, .int axis), (3, .int (0 : Int32))]) [1, 2, 0] rfl ?_
  obtain ⟨q13, hq13, hf⟩ := bd hf
  refine g_X0_least_2 (l0 := set) (l2 := axis) C hKR hKN _ _ _ hq13 ?_
  refine g_iload_n C rfl (q := 0) rfl dX0_least_33 rfl ?_
  cases hf
  exact g_iret C hKQ dX0_least_34
def f_X0_greatest_2  (l0 : Int64) (l2 : Int32) : Nat → Int32 → Option Int32
  | 0, _ => none
  | fu + 1, l3 => (if l3 ≤ 0 then some l3 else (if inB l2 3 = true then (if inB l2 3 = true then (if (l0 &&& ((z_FLOOR l2.toNatClampNeg) <<< ((l3 * (z_STRIDE l2.toNatClampNeg)).toInt64 &&& 63))) = (0 : Int64) then f_X0_greatest_2 l0 l2 fu (l3 + (-1 : Int32)) else some l3) else none) else none))
def f_X0_greatest (fu : Nat) (set : Int64) (axis : Int32) : Option Int32 := ((f_X0_greatest_2 set axis fu (3 : Int32)).bind fun q13 => some q13)
set_option maxHeartbeats 2000000 in
set_option maxRecDepth 20000 in
theorem g_X0_greatest_2 {K : KX} {n : Nat} {σ : AH} {l0 : Int64} {l2 : Int32} (C : Cx K RX0 "greatest" cX0_greatest (some .int)) (hKR : kR K = ({ frames := 0, cells := 0, slots := 0, locals := 0 } : Room)) (hKN : kN K = 4) : ∀ (fu : Nat) (l3 : Int32) (res : Int32), f_X0_greatest_2 l0 l2 fu l3 = some res → G K 0 0 32 [(3, .int res)] [] σ n → G K 0 0 2 [(0, .long l0), (2, .int l2), (3, .int l3)] [] σ n := by
  intro fu
  induction fu with
  | zero =>
    intro l3 res hf
    exact absurd hf (by simp [f_X0_greatest_2])
  | succ fu ih =>
    intro l3 res hf hx
    rw [f_X0_greatest_2] at hf
    refine g_iload_n C rfl (q := 2) rfl dX0_greatest_2 rfl ?_
    refine g_if_le (tgt := 32) C dX0_greatest_3 (by decide) rfl (fun c9 => ?_) (fun c9 => ?_)
    · replace hf := ift c9 hf
      cases hf
      refine g_sub (lv' := [(3, .int l3)]) [2] rfl ?_
      exact hx
    · replace hf := iff' c9 hf
      refine g_lload_n C rfl (q := 0) rfl dX0_greatest_6 rfl ?_
      refine g_gets C (zS C).2.1.1 wz_RX0_17 dX0_greatest_7 rfl ?_
      refine g_iload_n C rfl (q := 1) rfl dX0_greatest_10 rfl ?_
      obtain ⟨g10, hf⟩ := gd hf
      refine g_slld C (zS C).2.1.2 (inB_in g10) dX0_greatest_11 rfl ?_
      refine g_iload_n C rfl (q := 2) rfl dX0_greatest_12 rfl ?_
      refine g_gets C (zS C).1.1 wz_RX0_23 dX0_greatest_13 rfl ?_
      refine g_iload_n C rfl (q := 1) rfl dX0_greatest_16 rfl ?_
      obtain ⟨g11, hf⟩ := gd hf
      refine g_sild C (zS C).1.2 (inB_in g11) dX0_greatest_17 rfl ?_
      refine g_imul C dX0_greatest_18 rfl ?_
      refine g_lshl C dX0_greatest_19 rfl ?_
      refine g_land C dX0_greatest_20 rfl ?_
      refine g_lconst (v := 0) C (by decide) dX0_greatest_21 rfl ?_
      refine g_lif_ne (tgt := 32) C dX0_greatest_22 rfl dX0_greatest_23 (by decide) rfl (fun c12 => ?_) (fun c12 => ?_)
      · replace hf := iff' c12 hf
        cases hf
        refine g_sub (lv' := [(3, .int l3)]) [2] rfl ?_
        exact hx
      · replace hf := ift c12 hf
        refine g_iinc (v := l3 + (-1 : Int32)) (lv' := [(3, .int (l3 + (-1 : Int32))), (0, .long l0), (2, .int l2)]) (q := 2) C dX0_greatest_26 rfl rfl rfl (by rw [hKN]; decide) rfl ?_
        refine g_goto (pc' := 2) C dX0_greatest_29 (by decide) ?_
        refine g_sub (lv' := [(0, .long l0), (2, .int l2), (3, .int (l3 + (-1 : Int32)))]) [1, 2, 0] rfl ?_
        exact ih _ _ hf hx
set_option maxHeartbeats 2000000 in
set_option maxRecDepth 20000 in
theorem c_X0_greatest {l : Launch} {E : Ex} {n : Nat} {σ : AH}  {set : Int64} {axis : Int32} {fu : Nat} (res : Int32) (hf : f_X0_greatest fu set axis = some res) : Con l E yX0_greatest (.code yX0_greatest cX0_greatest 4 (some .int) :: TT) ({ frames := 0, cells := 0, slots := 0, locals := 0 } : Room) 0 0 [.long set, .int axis] σ n (some (.int res)) σ n := by
  refine con_intro (by decide +kernel) (Nat.le_of_ble_eq_true rfl) ?_
  intro K C hKR hKL hKE hKN hKQ
  subst hKL
  subst hKE
  have C : Cx K RX0 "greatest" cX0_greatest (some .int) := C
  show G K 0 0 0 [(0, .long set), (2, .int axis)] [] σ n
  unfold f_X0_greatest at hf
  refine g_iconst (v := 3) C (by decide) dX0_greatest_0 rfl ?_
  refine g_istore_n (i := 3) (lv' := [(3, .int (3 : Int32)), (0, .long set), (2, .int axis)]) C dX0_greatest_1 rfl rfl (by rw [hKN]; decide) rfl ?_
  refine g_sub (lv' := [(0, .long set), (2, .int axis), (3, .int (3 : Int32))]) [1, 2, 0] rfl ?_
  obtain ⟨q13, hq13, hf⟩ := bd hf
  refine g_X0_greatest_2 (l0 := set) (l2 := axis) C hKR hKN _ _ _ hq13 ?_
  refine g_iload_n C rfl (q := 0) rfl dX0_greatest_32 rfl ?_
  cases hf
  exact g_iret C hKQ dX0_greatest_33
def f_X0_settled_5   : Nat → Int64 → Int32 → Option Int64
  | 0, _, _ => none
  | fu + 1, l2, l4 => (if (3 : Int32) ≤ l4 then some l2 else ((f_X0_least fu l2 l4).bind fun q8 => (if inB l4 3 = true then f_X0_settled_5  fu ((l2.toUInt64 >>> ((q8 * (z_STRIDE l4.toNatClampNeg)).toInt64.toUInt64 &&& Int64.toUInt64 63)).toInt64) (l4 + (1 : Int32)) else none)))
def f_X0_settled (fu : Nat) (set : Int64) : Option Int64 := ((f_X0_settled_5  fu set (0 : Int32)).bind fun q10 => some q10)
set_option maxHeartbeats 2000000 in
set_option maxRecDepth 20000 in
theorem g_X0_settled_5 {K : KX} {n : Nat} {σ : AH}  (C : Cx K RX0 "settled" cX0_settled (some .long)) (hKR : kR K = ({ frames := 1, cells := 0, slots := 0, locals := 23 } : Room)) (hKN : kN K = 5) : ∀ (fu : Nat) (l2 : Int64) (l4 : Int32) (res : Int64), f_X0_settled_5  fu l2 l4 = some res → G K 0 0 33 [(2, .long res)] [] σ n → G K 0 0 5 [(2, .long l2), (4, .int l4)] [] σ n := by
  intro fu
  induction fu with
  | zero =>
    intro l2 l4 res hf
    exact absurd hf (by simp [f_X0_settled_5])
  | succ fu ih =>
    intro l2 l4 res hf hx
    rw [f_X0_settled_5] at hf
    refine g_iload C (q := 1) rfl dX0_settled_5 rfl ?_
    refine g_iconst (v := 3) C (by decide) dX0_settled_7 rfl ?_
    refine g_icmp_ge (tgt := 33) C dX0_settled_8 (by decide) rfl (fun c7 => ?_) (fun c7 => ?_)
    · replace hf := ift c7 hf
      cases hf
      refine g_sub (lv' := [(2, .long l2)]) [0] rfl ?_
      exact hx
    · replace hf := iff' c7 hf
      refine g_lload_n C rfl (q := 0) rfl dX0_settled_11 rfl ?_
      refine g_lload_n C rfl (q := 0) rfl dX0_settled_12 rfl ?_
      refine g_iload C (q := 1) rfl dX0_settled_13 rfl ?_
      obtain ⟨q8, hq8, hf⟩ := bd hf
      refine g_callS0 (st' := [.long l2]) (as := [.long l2, .int l4]) (st2 := [.int q8, .long l2]) (k := 2) C ⟨wm_RX0_27, ws_X0_least, wi_RX0, wk_X0_least, by decide +kernel⟩ (c_X0_least (l := kL K) (E := kE K)  _ hq8) (by rw [hKR]; exact ⟨rfl, rfl, ⟨by decide, by decide⟩, by decide, by decide⟩) rfl rfl (by simp [Value.category]) rfl dX0_settled_15 rfl ?_
      refine g_gets C (zS C).1.1 wz_RX0_23 dX0_settled_18 rfl ?_
      refine g_iload C (q := 1) rfl dX0_settled_21 rfl ?_
      obtain ⟨g9, hf⟩ := gd hf
      refine g_sild C (zS C).1.2 (inB_in g9) dX0_settled_23 rfl ?_
      refine g_imul C dX0_settled_24 rfl ?_
      refine g_lushr C dX0_settled_25 rfl ?_
      refine g_lstore_n (i := 2) (lv' := [(2, .long ((l2.toUInt64 >>> ((q8 * (z_STRIDE l4.toNatClampNeg)).toInt64.toUInt64 &&& Int64.toUInt64 63)).toInt64)), (4, .int l4)]) C dX0_settled_26 rfl rfl (by rw [hKN]; decide) rfl ?_
      refine g_iinc (v := l4 + (1 : Int32)) (lv' := [(4, .int (l4 + (1 : Int32))), (2, .long ((l2.toUInt64 >>> ((q8 * (z_STRIDE l4.toNatClampNeg)).toInt64.toUInt64 &&& Int64.toUInt64 63)).toInt64))]) (q := 1) C dX0_settled_27 rfl rfl rfl (by rw [hKN]; decide) rfl ?_
      refine g_goto (pc' := 5) C dX0_settled_30 (by decide) ?_
      refine g_sub (lv' := [(2, .long ((l2.toUInt64 >>> ((q8 * (z_STRIDE l4.toNatClampNeg)).toInt64.toUInt64 &&& Int64.toUInt64 63)).toInt64)), (4, .int (l4 + (1 : Int32)))]) [1, 0] rfl ?_
      exact ih _ _ _ hf hx
set_option maxHeartbeats 2000000 in
set_option maxRecDepth 20000 in
theorem c_X0_settled {l : Launch} {E : Ex} {n : Nat} {σ : AH}  {set : Int64} {fu : Nat} (res : Int64) (hf : f_X0_settled fu set = some res) : Con l E yX0_settled (.code yX0_settled cX0_settled 5 (some .long) :: TT) ({ frames := 1, cells := 0, slots := 0, locals := 23 } : Room) 0 0 [.long set] σ n (some (.long res)) σ n := by
  refine con_intro (by decide +kernel) (Nat.le_of_ble_eq_true rfl) ?_
  intro K C hKR hKL hKE hKN hKQ
  subst hKL
  subst hKE
  have C : Cx K RX0 "settled" cX0_settled (some .long) := C
  show G K 0 0 0 [(0, .long set)] [] σ n
  unfold f_X0_settled at hf
  refine g_lload_n C rfl (q := 0) rfl dX0_settled_0 rfl ?_
  refine g_lstore_n (i := 2) (lv' := [(2, .long set), (0, .long set)]) C dX0_settled_1 rfl rfl (by rw [hKN]; decide) rfl ?_
  refine g_iconst (v := 0) C (by decide) dX0_settled_2 rfl ?_
  refine g_istore (i := 4) (lv' := [(4, .int (0 : Int32)), (2, .long set), (0, .long set)]) C dX0_settled_3 rfl (by rw [hKN]; decide) rfl ?_
  refine g_sub (lv' := [(2, .long set), (4, .int (0 : Int32))]) [1, 0] rfl ?_
  obtain ⟨q10, hq10, hf⟩ := bd hf
  refine g_X0_settled_5  C hKR hKN _ _ _ _ hq10 ?_
  refine g_lload_n C rfl (q := 0) rfl dX0_settled_33 rfl ?_
  cases hf
  exact g_lret C hKQ dX0_settled_34
def f_X0_shifted (set : Int64) (axis : Int32) (steps : Int32) : Option Int64 := (if steps ≤ (-4 : Int32) then some (0 : Int64) else (if steps < (4 : Int32) then (if steps < 0 then (if inB axis 3 = true then (if inB ((axis * (4 : Int32)) - steps) 12 = true then some (((set.toUInt64 >>> (((-steps) * (z_STRIDE axis.toNatClampNeg)).toInt64.toUInt64 &&& Int64.toUInt64 63)).toInt64) &&& (z_STAYS ((axis * (4 : Int32)) - steps).toNatClampNeg)) else none) else none) else (if inB ((axis * (4 : Int32)) + steps) 12 = true then (if inB axis 3 = true then some ((set &&& (z_STAYS ((axis * (4 : Int32)) + steps).toNatClampNeg)) <<< ((steps * (z_STRIDE axis.toNatClampNeg)).toInt64 &&& 63)) else none) else none)) else some (0 : Int64)))
set_option maxHeartbeats 2000000 in
set_option maxRecDepth 20000 in
theorem c_X0_shifted {l : Launch} {E : Ex} {n : Nat} {σ : AH}  {set : Int64} {axis : Int32} {steps : Int32} (res : Int64) (hf : f_X0_shifted set axis steps = some res) : Con l E yX0_shifted (.code yX0_shifted cX0_shifted 4 (some .long) :: TT) ({ frames := 0, cells := 0, slots := 0, locals := 0 } : Room) 0 0 [.long set, .int axis, .int steps] σ n (some (.long res)) σ n := by
  refine con_intro (by decide +kernel) (Nat.le_of_ble_eq_true rfl) ?_
  intro K C hKR hKL hKE hKN hKQ
  subst hKL
  subst hKE
  have C : Cx K RX0 "shifted" cX0_shifted (some .long) := C
  show G K 0 0 0 [(0, .long set), (2, .int axis), (3, .int steps)] [] σ n
  unfold f_X0_shifted at hf
  refine g_iload_n C rfl (q := 2) rfl dX0_shifted_0 rfl ?_
  refine g_bipush (v := (-4)) C (by decide) dX0_shifted_1 rfl ?_
  refine g_icmp_le (tgt := 11) C dX0_shifted_3 (by decide) rfl (fun c1 => ?_) (fun c1 => ?_)
  · replace hf := ift c1 hf
    refine g_lconst (v := 0) C (by decide) dX0_shifted_11 rfl ?_
    cases hf
    exact g_lret C hKQ dX0_shifted_12
  · replace hf := iff' c1 hf
    refine g_iload_n C rfl (q := 2) rfl dX0_shifted_6 rfl ?_
    refine g_iconst (v := 4) C (by decide) dX0_shifted_7 rfl ?_
    refine g_icmp_lt (tgt := 13) C dX0_shifted_8 (by decide) rfl (fun c2 => ?_) (fun c2 => ?_)
    · replace hf := ift c2 hf
      refine g_iload_n C rfl (q := 2) rfl dX0_shifted_13 rfl ?_
      refine g_if_lt (tgt := 37) C dX0_shifted_14 (by decide) rfl (fun c3 => ?_) (fun c3 => ?_)
      · replace hf := ift c3 hf
        refine g_lload_n C rfl (q := 0) rfl dX0_shifted_37 rfl ?_
        refine g_iload_n C rfl (q := 2) rfl dX0_shifted_38 rfl ?_
        refine g_ineg C dX0_shifted_39 rfl ?_
        refine g_gets C (zS C).1.1 wz_RX0_23 dX0_shifted_40 rfl ?_
        refine g_iload_n C rfl (q := 1) rfl dX0_shifted_43 rfl ?_
        obtain ⟨g4, hf⟩ := gd hf
        refine g_sild C (zS C).1.2 (inB_in g4) dX0_shifted_44 rfl ?_
        refine g_imul C dX0_shifted_45 rfl ?_
        refine g_lushr C dX0_shifted_46 rfl ?_
        refine g_gets C (zS C).2.2.1.1 wz_RX0_31 dX0_shifted_47 rfl ?_
        refine g_iload_n C rfl (q := 1) rfl dX0_shifted_50 rfl ?_
        refine g_iconst (v := 4) C (by decide) dX0_shifted_51 rfl ?_
        refine g_imul C dX0_shifted_52 rfl ?_
        refine g_iload_n C rfl (q := 2) rfl dX0_shifted_53 rfl ?_
        refine g_isub C dX0_shifted_54 rfl ?_
        obtain ⟨g5, hf⟩ := gd hf
        refine g_slld C (zS C).2.2.1.2 (inB_in g5) dX0_shifted_55 rfl ?_
        refine g_land C dX0_shifted_56 rfl ?_
        cases hf
        exact g_lret C hKQ dX0_shifted_57
      · replace hf := iff' c3 hf
        refine g_lload_n C rfl (q := 0) rfl dX0_shifted_17 rfl ?_
        refine g_gets C (zS C).2.2.1.1 wz_RX0_31 dX0_shifted_18 rfl ?_
        refine g_iload_n C rfl (q := 1) rfl dX0_shifted_21 rfl ?_
        refine g_iconst (v := 4) C (by decide) dX0_shifted_22 rfl ?_
        refine g_imul C dX0_shifted_23 rfl ?_
        refine g_iload_n C rfl (q := 2) rfl dX0_shifted_24 rfl ?_
        refine g_iadd C dX0_shifted_25 rfl ?_
        obtain ⟨g6, hf⟩ := gd hf
        refine g_slld C (zS C).2.2.1.2 (inB_in g6) dX0_shifted_26 rfl ?_
        refine g_land C dX0_shifted_27 rfl ?_
        refine g_iload_n C rfl (q := 2) rfl dX0_shifted_28 rfl ?_
        refine g_gets C (zS C).1.1 wz_RX0_23 dX0_shifted_29 rfl ?_
        refine g_iload_n C rfl (q := 1) rfl dX0_shifted_32 rfl ?_
        obtain ⟨g7, hf⟩ := gd hf
        refine g_sild C (zS C).1.2 (inB_in g7) dX0_shifted_33 rfl ?_
        refine g_imul C dX0_shifted_34 rfl ?_
        refine g_lshl C dX0_shifted_35 rfl ?_
        cases hf
        exact g_lret C hKQ dX0_shifted_36
    · replace hf := iff' c2 hf
      refine g_lconst (v := 0) C (by decide) dX0_shifted_11 rfl ?_
      cases hf
      exact g_lret C hKQ dX0_shifted_12
def f_X0_mirrors (turn : Int32) : Option Int32 := ((f_J6_bitCount_0f7a4 (turn - turn / (8 : Int32) * (8 : Int32))).bind fun q1 => (if bOk (if (if (turn / (8 : Int32)) < (3 : Int32) then (0 : Int32) else (1 : Int32)) = (if (q1 &&& (1 : Int32)) = 0 then (0 : Int32) else (1 : Int32)) then (0 : Int32) else (1 : Int32)) = true then some (if (if (turn / (8 : Int32)) < (3 : Int32) then (0 : Int32) else (1 : Int32)) = (if (q1 &&& (1 : Int32)) = 0 then (0 : Int32) else (1 : Int32)) then (0 : Int32) else (1 : Int32)) else none))
set_option maxHeartbeats 2000000 in
set_option maxRecDepth 20000 in
theorem c_X0_mirrors {l : Launch} {E : Ex} {n : Nat} {σ : AH}  {turn : Int32} (res : Int32) (hf : f_X0_mirrors turn = some res) : Con l E yX0_mirrors (.code yX0_mirrors cX0_mirrors 3 (some .boolean) :: TT) ({ frames := 1, cells := 0, slots := 0, locals := 20 } : Room) 0 0 [.int turn] σ n (some (.int res)) σ n := by
  refine con_intro (by decide +kernel) (Nat.le_of_ble_eq_true rfl) ?_
  intro K C hKR hKL hKE hKN hKQ
  subst hKL
  subst hKE
  have C : Cx K RX0 "mirrors" cX0_mirrors (some .boolean) := C
  show G K 0 0 0 [(0, .int turn)] [] σ n
  unfold f_X0_mirrors at hf
  refine g_iload_n C rfl (q := 0) rfl dX0_mirrors_0 rfl ?_
  refine g_bipush (v := 8) C (by decide) dX0_mirrors_1 rfl ?_
  refine g_idiv C (by decide) dX0_mirrors_3 rfl ?_
  refine g_iconst (v := 3) C (by decide) dX0_mirrors_4 rfl ?_
  have j7 : G K 0 0 13 [(0, .int turn)] [.int (if (turn / (8 : Int32)) < (3 : Int32) then (0 : Int32) else (1 : Int32))] σ n := by
    refine g_istore_n (i := 1) (lv' := [(1, .int (if (turn / (8 : Int32)) < (3 : Int32) then (0 : Int32) else (1 : Int32))), (0, .int turn)]) C dX0_mirrors_13 rfl rfl (by rw [hKN]; decide) rfl ?_
    refine g_iload_n C rfl (q := 1) rfl dX0_mirrors_14 rfl ?_
    refine g_bipush (v := 8) C (by decide) dX0_mirrors_15 rfl ?_
    refine g_irem C (by decide) dX0_mirrors_17 rfl ?_
    obtain ⟨q1, hq1, hf⟩ := bd hf
    refine g_callS0 (st' := []) (as := [.int (turn - turn / (8 : Int32) * (8 : Int32))]) (st2 := [.int q1]) (k := 1) C ⟨wm_RX0_34, ws_J6_bitCount_0f7a4, wi_RJ6, wk_J6_bitCount_0f7a4, by decide +kernel⟩ (c_J6_bitCount_0f7a4 (l := kL K) (E := kE K)  _ hq1) (by rw [hKR]; exact ⟨rfl, rfl, ⟨by decide, by decide⟩, by decide, by decide⟩) rfl rfl (by simp) rfl dX0_mirrors_18 rfl ?_
    refine g_iconst (v := 1) C (by decide) dX0_mirrors_21 rfl ?_
    refine g_iand C dX0_mirrors_22 rfl ?_
    have j5 : G K 0 0 31 [(1, .int (if (turn / (8 : Int32)) < (3 : Int32) then (0 : Int32) else (1 : Int32))), (0, .int turn)] [.int (if (q1 &&& (1 : Int32)) = 0 then (0 : Int32) else (1 : Int32))] σ n := by
      refine g_istore_n (i := 2) (lv' := [(2, .int (if (q1 &&& (1 : Int32)) = 0 then (0 : Int32) else (1 : Int32))), (1, .int (if (turn / (8 : Int32)) < (3 : Int32) then (0 : Int32) else (1 : Int32))), (0, .int turn)]) C dX0_mirrors_31 rfl rfl (by rw [hKN]; decide) rfl ?_
      refine g_iload_n C rfl (q := 1) rfl dX0_mirrors_32 rfl ?_
      refine g_iload_n C rfl (q := 0) rfl dX0_mirrors_33 rfl ?_
      have j3 : G K 0 0 42 [(2, .int (if (q1 &&& (1 : Int32)) = 0 then (0 : Int32) else (1 : Int32))), (1, .int (if (turn / (8 : Int32)) < (3 : Int32) then (0 : Int32) else (1 : Int32))), (0, .int turn)] [.int (if (if (turn / (8 : Int32)) < (3 : Int32) then (0 : Int32) else (1 : Int32)) = (if (q1 &&& (1 : Int32)) = 0 then (0 : Int32) else (1 : Int32)) then (0 : Int32) else (1 : Int32))] σ n := by
        obtain ⟨g2, hf⟩ := gd hf
        cases hf
        exact g_zret C (bOk_n g2) hKQ dX0_mirrors_42
      refine g_icmp_eq (tgt := 41) C dX0_mirrors_34 (by decide) rfl (fun c4 => ?_) (fun c4 => ?_)
      · refine g_iconst (v := 0) C (by decide) dX0_mirrors_41 rfl ?_
        exact g_topI (by rw [if_pos c4]) j3
      · refine g_iconst (v := 1) C (by decide) dX0_mirrors_37 rfl ?_
        refine g_goto (pc' := 42) C dX0_mirrors_38 (by decide) ?_
        exact g_topI (by rw [if_neg c4]) j3
    refine g_if_eq (tgt := 30) C dX0_mirrors_23 (by decide) rfl (fun c6 => ?_) (fun c6 => ?_)
    · refine g_iconst (v := 0) C (by decide) dX0_mirrors_30 rfl ?_
      exact g_topI (by rw [if_pos c6]) j5
    · refine g_iconst (v := 1) C (by decide) dX0_mirrors_26 rfl ?_
      refine g_goto (pc' := 31) C dX0_mirrors_27 (by decide) ?_
      exact g_topI (by rw [if_neg c6]) j5
  refine g_icmp_lt (tgt := 12) C dX0_mirrors_5 (by decide) rfl (fun c8 => ?_) (fun c8 => ?_)
  · refine g_iconst (v := 0) C (by decide) dX0_mirrors_12 rfl ?_
    exact g_topI (by rw [if_pos c8]) j7
  · refine g_iconst (v := 1) C (by decide) dX0_mirrors_8 rfl ?_
    refine g_goto (pc' := 13) C dX0_mirrors_9 (by decide) ?_
    exact g_topI (by rw [if_neg c8]) j7
def f_X0_turned_39  (l3 : Int32) (l4 : Int32) (l9 : Int32) : Nat → Int32 → Int32 → Option Int32
  | 0, _, _ => none
  | fu + 1, l10, l11 => (if (3 : Int32) ≤ l11 then some l10 else (if inB (l3 + l11) 18 = true then (if inB (z_ORDERS (l3 + l11).toNatClampNeg) 3 = true then (if ¬ (z_STRIDE (z_ORDERS (l3 + l11).toNatClampNeg).toNatClampNeg) = 0 then (if inB l11 3 = true then f_X0_turned_39 l3 l4 l9 fu (l10 + ((if (if ((l4 >>> (l11 &&& 31)) &&& (1 : Int32)) = 0 then (0 : Int32) else (1 : Int32)) = 0 then ((l9 / (z_STRIDE (z_ORDERS (l3 + l11).toNatClampNeg).toNatClampNeg)) - (l9 / (z_STRIDE (z_ORDERS (l3 + l11).toNatClampNeg).toNatClampNeg)) / (4 : Int32) * (4 : Int32)) else ((3 : Int32) - ((l9 / (z_STRIDE (z_ORDERS (l3 + l11).toNatClampNeg).toNatClampNeg)) - (l9 / (z_STRIDE (z_ORDERS (l3 + l11).toNatClampNeg).toNatClampNeg)) / (4 : Int32) * (4 : Int32)))) * (z_STRIDE l11.toNatClampNeg))) (l11 + (1 : Int32)) else none) else none) else none) else none))
def f_X0_turned_19  (l3 : Int32) (l4 : Int32) : Nat → Int64 → Int64 → Option Int64
  | 0, _, _ => none
  | fu + 1, l5, l7 => (if l7 = (0 : Int64) then some l5 else ((f_X0_lowest l7).bind fun q62 => ((f_X0_turned_39 l3 l4 q62 fu (0 : Int32) (0 : Int32)).bind fun q90 => f_X0_turned_19 l3 l4 fu (l5 ||| ((1 : Int64) <<< (q90.toInt64 &&& 63))) (l7 &&& (l7 - (1 : Int64))))))
def f_X0_turned (fu : Nat) (set : Int64) (turn : Int32) : Option Int64 := ((f_X0_turned_19 ((turn / (8 : Int32)) * (3 : Int32)) (turn - turn / (8 : Int32) * (8 : Int32)) fu (0 : Int64) set).bind fun q91 => some q91)
set_option maxHeartbeats 2000000 in
set_option maxRecDepth 20000 in
theorem g_X0_turned_39 {K : KX} {n : Nat} {σ : AH} {l3 : Int32} {l4 : Int32} {l5 : Int64} {l7 : Int64} {l9 : Int32} (C : Cx K RX0 "turned" cX0_turned (some .long)) (hKR : kR K = ({ frames := 2, cells := 0, slots := 0, locals := 42 } : Room)) (hKN : kN K = 14) : ∀ (fu : Nat) (l10 : Int32) (l11 : Int32) (res : Int32), f_X0_turned_39 l3 l4 l9 fu l10 l11 = some res → G K 0 0 113 [(3, .int l3), (4, .int l4), (5, .long l5), (7, .long l7), (10, .int res)] [] σ n → G K 0 0 39 [(3, .int l3), (4, .int l4), (5, .long l5), (7, .long l7), (9, .int l9), (10, .int l10), (11, .int l11)] [] σ n := by
  intro fu
  induction fu with
  | zero =>
    intro l10 l11 res hf
    exact absurd hf (by simp [f_X0_turned_39])
  | succ fu ih =>
    intro l10 l11 res hf hx
    rw [f_X0_turned_39] at hf
    refine g_iload C (q := 6) rfl dX0_turned_39 rfl ?_
    refine g_iconst (v := 3) C (by decide) dX0_turned_41 rfl ?_
    refine g_icmp_ge (tgt := 113) C dX0_turned_42 (by decide) rfl (fun c81 => ?_) (fun c81 => ?_)
    · replace hf := ift c81 hf
      cases hf
      refine g_sub (lv' := [(3, .int l3), (4, .int l4), (5, .long l5), (7, .long l7), (10, .int l10)]) [0, 1, 2, 3, 5] rfl ?_
      exact hx
    · replace hf := iff' c81 hf
      refine g_iload C (q := 4) rfl dX0_turned_45 rfl ?_
      refine g_gets C (zS C).1.1 wz_RX0_23 dX0_turned_47 rfl ?_
      refine g_gets C (zS C).2.2.2.1 wz_RX0_42 dX0_turned_50 rfl ?_
      refine g_iload_n C rfl (q := 0) rfl dX0_turned_53 rfl ?_
      refine g_iload C (q := 6) rfl dX0_turned_54 rfl ?_
      refine g_iadd C dX0_turned_56 rfl ?_
      obtain ⟨g82, hf⟩ := gd hf
      refine g_sild C (zS C).2.2.2.2 (inB_in g82) dX0_turned_57 rfl ?_
      obtain ⟨g83, hf⟩ := gd hf
      refine g_sild C (zS C).1.2 (inB_in g83) dX0_turned_58 rfl ?_
      obtain ⟨g84, hf⟩ := gd hf
      refine g_idiv C g84 dX0_turned_59 rfl ?_
      refine g_iconst (v := 4) C (by decide) dX0_turned_60 rfl ?_
      refine g_irem C (by decide) dX0_turned_61 rfl ?_
      refine g_istore (i := 12) (lv' := [(12, .int ((l9 / (z_STRIDE (z_ORDERS (l3 + l11).toNatClampNeg).toNatClampNeg)) - (l9 / (z_STRIDE (z_ORDERS (l3 + l11).toNatClampNeg).toNatClampNeg)) / (4 : Int32) * (4 : Int32))), (3, .int l3), (4, .int l4), (5, .long l5), (7, .long l7), (9, .int l9), (10, .int l10), (11, .int l11)]) C dX0_turned_62 rfl (by rw [hKN]; decide) rfl ?_
      refine g_iload C (q := 2) rfl dX0_turned_64 rfl ?_
      refine g_iload C (q := 7) rfl dX0_turned_66 rfl ?_
      refine g_ishr C dX0_turned_68 rfl ?_
      refine g_iconst (v := 1) C (by decide) dX0_turned_69 rfl ?_
      refine g_iand C dX0_turned_70 rfl ?_
      have j88 : G K 0 0 79 [(12, .int ((l9 / (z_STRIDE (z_ORDERS (l3 + l11).toNatClampNeg).toNatClampNeg)) - (l9 / (z_STRIDE (z_ORDERS (l3 + l11).toNatClampNeg).toNatClampNeg)) / (4 : Int32) * (4 : Int32))), (3, .int l3), (4, .int l4), (5, .long l5), (7, .long l7), (9, .int l9), (10, .int l10), (11, .int l11)] [.int (if ((l4 >>> (l11 &&& 31)) &&& (1 : Int32)) = 0 then (0 : Int32) else (1 : Int32))] σ n := by
        refine g_istore (i := 13) (lv' := [(13, .int (if ((l4 >>> (l11 &&& 31)) &&& (1 : Int32)) = 0 then (0 : Int32) else (1 : Int32))), (12, .int ((l9 / (z_STRIDE (z_ORDERS (l3 + l11).toNatClampNeg).toNatClampNeg)) - (l9 / (z_STRIDE (z_ORDERS (l3 + l11).toNatClampNeg).toNatClampNeg)) / (4 : Int32) * (4 : Int32))), (3, .int l3), (4, .int l4), (5, .long l5), (7, .long l7), (9, .int l9), (10, .int l10), (11, .int l11)]) C dX0_turned_79 rfl (by rw [hKN]; decide) rfl ?_
        refine g_iload C (q := 7) rfl dX0_turned_81 rfl ?_
        refine g_iload C (q := 0) rfl dX0_turned_83 rfl ?_
        have j86 : G K 0 0 97 [(13, .int (if ((l4 >>> (l11 &&& 31)) &&& (1 : Int32)) = 0 then (0 : Int32) else (1 : Int32))), (12, .int ((l9 / (z_STRIDE (z_ORDERS (l3 + l11).toNatClampNeg).toNatClampNeg)) - (l9 / (z_STRIDE (z_ORDERS (l3 + l11).toNatClampNeg).toNatClampNeg)) / (4 : Int32) * (4 : Int32))), (3, .int l3), (4, .int l4), (5, .long l5), (7, .long l7), (9, .int l9), (10, .int l10), (11, .int l11)] [.int (if (if ((l4 >>> (l11 &&& 31)) &&& (1 : Int32)) = 0 then (0 : Int32) else (1 : Int32)) = 0 then ((l9 / (z_STRIDE (z_ORDERS (l3 + l11).toNatClampNeg).toNatClampNeg)) - (l9 / (z_STRIDE (z_ORDERS (l3 + l11).toNatClampNeg).toNatClampNeg)) / (4 : Int32) * (4 : Int32)) else ((3 : Int32) - ((l9 / (z_STRIDE (z_ORDERS (l3 + l11).toNatClampNeg).toNatClampNeg)) - (l9 / (z_STRIDE (z_ORDERS (l3 + l11).toNatClampNeg).toNatClampNeg)) / (4 : Int32) * (4 : Int32)))), .int l10] σ n := by
          refine g_gets C (zS C).1.1 wz_RX0_23 dX0_turned_97 rfl ?_
          refine g_iload C (q := 8) rfl dX0_turned_100 rfl ?_
          obtain ⟨g85, hf⟩ := gd hf
          refine g_sild C (zS C).1.2 (inB_in g85) dX0_turned_102 rfl ?_
          refine g_imul C dX0_turned_103 rfl ?_
          refine g_iadd C dX0_turned_104 rfl ?_
          refine g_istore (i := 10) (lv' := [(10, .int (l10 + ((if (if ((l4 >>> (l11 &&& 31)) &&& (1 : Int32)) = 0 then (0 : Int32) else (1 : Int32)) = 0 then ((l9 / (z_STRIDE (z_ORDERS (l3 + l11).toNatClampNeg).toNatClampNeg)) - (l9 / (z_STRIDE (z_ORDERS (l3 + l11).toNatClampNeg).toNatClampNeg)) / (4 : Int32) * (4 : Int32)) else ((3 : Int32) - ((l9 / (z_STRIDE (z_ORDERS (l3 + l11).toNatClampNeg).toNatClampNeg)) - (l9 / (z_STRIDE (z_ORDERS (l3 + l11).toNatClampNeg).toNatClampNeg)) / (4 : Int32) * (4 : Int32)))) * (z_STRIDE l11.toNatClampNeg)))), (13, .int (if ((l4 >>> (l11 &&& 31)) &&& (1 : Int32)) = 0 then (0 : Int32) else (1 : Int32))), (12, .int ((l9 / (z_STRIDE (z_ORDERS (l3 + l11).toNatClampNeg).toNatClampNeg)) - (l9 / (z_STRIDE (z_ORDERS (l3 + l11).toNatClampNeg).toNatClampNeg)) / (4 : Int32) * (4 : Int32))), (3, .int l3), (4, .int l4), (5, .long l5), (7, .long l7), (9, .int l9), (11, .int l11)]) C dX0_turned_105 rfl (by rw [hKN]; decide) rfl ?_
          refine g_iinc (v := l11 + (1 : Int32)) (lv' := [(11, .int (l11 + (1 : Int32))), (10, .int (l10 + ((if (if ((l4 >>> (l11 &&& 31)) &&& (1 : Int32)) = 0 then (0 : Int32) else (1 : Int32)) = 0 then ((l9 / (z_STRIDE (z_ORDERS (l3 + l11).toNatClampNeg).toNatClampNeg)) - (l9 / (z_STRIDE (z_ORDERS (l3 + l11).toNatClampNeg).toNatClampNeg)) / (4 : Int32) * (4 : Int32)) else ((3 : Int32) - ((l9 / (z_STRIDE (z_ORDERS (l3 + l11).toNatClampNeg).toNatClampNeg)) - (l9 / (z_STRIDE (z_ORDERS (l3 + l11).toNatClampNeg).toNatClampNeg)) / (4 : Int32) * (4 : Int32)))) * (z_STRIDE l11.toNatClampNeg)))), (13, .int (if ((l4 >>> (l11 &&& 31)) &&& (1 : Int32)) = 0 then (0 : Int32) else (1 : Int32))), (12, .int ((l9 / (z_STRIDE (z_ORDERS (l3 + l11).toNatClampNeg).toNatClampNeg)) - (l9 / (z_STRIDE (z_ORDERS (l3 + l11).toNatClampNeg).toNatClampNeg)) / (4 : Int32) * (4 : Int32))), (3, .int l3), (4, .int l4), (5, .long l5), (7, .long l7), (9, .int l9)]) (q := 8) C dX0_turned_107 rfl rfl rfl (by rw [hKN]; decide) rfl ?_
          refine g_goto (pc' := 39) C dX0_turned_110 (by decide) ?_
          refine g_sub (lv' := [(3, .int l3), (4, .int l4), (5, .long l5), (7, .long l7), (9, .int l9), (10, .int (l10 + ((if (if ((l4 >>> (l11 &&& 31)) &&& (1 : Int32)) = 0 then (0 : Int32) else (1 : Int32)) = 0 then ((l9 / (z_STRIDE (z_ORDERS (l3 + l11).toNatClampNeg).toNatClampNeg)) - (l9 / (z_STRIDE (z_ORDERS (l3 + l11).toNatClampNeg).toNatClampNeg)) / (4 : Int32) * (4 : Int32)) else ((3 : Int32) - ((l9 / (z_STRIDE (z_ORDERS (l3 + l11).toNatClampNeg).toNatClampNeg)) - (l9 / (z_STRIDE (z_ORDERS (l3 + l11).toNatClampNeg).toNatClampNeg)) / (4 : Int32) * (4 : Int32)))) * (z_STRIDE l11.toNatClampNeg)))), (11, .int (l11 + (1 : Int32)))]) [4, 5, 6, 7, 8, 1, 0] rfl ?_
          exact ih _ _ _ hf hx
        refine g_if_eq (tgt := 95) C dX0_turned_85 (by decide) rfl (fun c87 => ?_) (fun c87 => ?_)
        · refine g_iload C (q := 1) rfl dX0_turned_95 rfl ?_
          exact g_topI (by rw [if_pos c87]) j86
        · refine g_iconst (v := 3) C (by decide) dX0_turned_88 rfl ?_
          refine g_iload C (q := 1) rfl dX0_turned_89 rfl ?_
          refine g_isub C dX0_turned_91 rfl ?_
          refine g_goto (pc' := 97) C dX0_turned_92 (by decide) ?_
          exact g_topI (by rw [if_neg c87]) j86
      refine g_if_eq (tgt := 78) C dX0_turned_71 (by decide) rfl (fun c89 => ?_) (fun c89 => ?_)
      · refine g_iconst (v := 0) C (by decide) dX0_turned_78 rfl ?_
        exact g_topI (by rw [if_pos c89]) j88
      · refine g_iconst (v := 1) C (by decide) dX0_turned_74 rfl ?_
        refine g_goto (pc' := 79) C dX0_turned_75 (by decide) ?_
        exact g_topI (by rw [if_neg c89]) j88
set_option maxHeartbeats 2000000 in
set_option maxRecDepth 20000 in
theorem g_X0_turned_19 {K : KX} {n : Nat} {σ : AH} {l3 : Int32} {l4 : Int32} (C : Cx K RX0 "turned" cX0_turned (some .long)) (hKR : kR K = ({ frames := 2, cells := 0, slots := 0, locals := 42 } : Room)) (hKN : kN K = 14) : ∀ (fu : Nat) (l5 : Int64) (l7 : Int64) (res : Int64), f_X0_turned_19 l3 l4 fu l5 l7 = some res → G K 0 0 134 [(5, .long res)] [] σ n → G K 0 0 19 [(3, .int l3), (4, .int l4), (5, .long l5), (7, .long l7)] [] σ n := by
  intro fu
  induction fu with
  | zero =>
    intro l5 l7 res hf
    exact absurd hf (by simp [f_X0_turned_19])
  | succ fu ih =>
    intro l5 l7 res hf hx
    rw [f_X0_turned_19] at hf
    refine g_lload C (q := 3) rfl dX0_turned_19 rfl ?_
    refine g_lconst (v := 0) C (by decide) dX0_turned_21 rfl ?_
    refine g_lif_eq (tgt := 134) C dX0_turned_22 rfl dX0_turned_23 (by decide) rfl (fun c61 => ?_) (fun c61 => ?_)
    · replace hf := ift c61 hf
      cases hf
      refine g_sub (lv' := [(5, .long l5)]) [2] rfl ?_
      exact hx
    · replace hf := iff' c61 hf
      refine g_lload C (q := 3) rfl dX0_turned_26 rfl ?_
      obtain ⟨q62, hq62, hf⟩ := bd hf
      refine g_callS0 (st' := []) (as := [.long l7]) (st2 := [.int q62]) (k := 1) C ⟨wm_RX0_39, ws_X0_lowest, wi_RX0, wk_X0_lowest, by decide +kernel⟩ (c_X0_lowest (l := kL K) (E := kE K)  _ hq62) (by rw [hKR]; exact ⟨rfl, rfl, ⟨by decide, by decide⟩, by decide, by decide⟩) rfl rfl (by simp) rfl dX0_turned_28 rfl ?_
      refine g_istore (i := 9) (lv' := [(9, .int q62), (3, .int l3), (4, .int l4), (5, .long l5), (7, .long l7)]) C dX0_turned_31 rfl (by rw [hKN]; decide) rfl ?_
      refine g_iconst (v := 0) C (by decide) dX0_turned_33 rfl ?_
      refine g_istore (i := 10) (lv' := [(10, .int (0 : Int32)), (9, .int q62), (3, .int l3), (4, .int l4), (5, .long l5), (7, .long l7)]) C dX0_turned_34 rfl (by rw [hKN]; decide) rfl ?_
      refine g_iconst (v := 0) C (by decide) dX0_turned_36 rfl ?_
      refine g_istore (i := 11) (lv' := [(11, .int (0 : Int32)), (10, .int (0 : Int32)), (9, .int q62), (3, .int l3), (4, .int l4), (5, .long l5), (7, .long l7)]) C dX0_turned_37 rfl (by rw [hKN]; decide) rfl ?_
      refine g_sub (lv' := [(3, .int l3), (4, .int l4), (5, .long l5), (7, .long l7), (9, .int q62), (10, .int (0 : Int32)), (11, .int (0 : Int32))]) [3, 4, 5, 6, 2, 1, 0] rfl ?_
      obtain ⟨q90, hq90, hf⟩ := bd hf
      refine g_X0_turned_39 (l3 := l3) (l4 := l4) (l5 := l5) (l7 := l7) (l9 := q62) C hKR hKN _ _ _ _ hq90 ?_
      refine g_lload C (q := 2) rfl dX0_turned_113 rfl ?_
      refine g_lconst (v := 1) C (by decide) dX0_turned_115 rfl ?_
      refine g_iload C (q := 4) rfl dX0_turned_116 rfl ?_
      refine g_lshl C dX0_turned_118 rfl ?_
      refine g_lor C dX0_turned_119 rfl ?_
      refine g_lstore (i := 5) (lv' := [(5, .long (l5 ||| ((1 : Int64) <<< (q90.toInt64 &&& 63)))), (3, .int l3), (4, .int l4), (7, .long l7), (10, .int q90)]) C dX0_turned_120 rfl (by rw [hKN]; decide) rfl ?_
      refine g_lload C (q := 3) rfl dX0_turned_122 rfl ?_
      refine g_lload C (q := 3) rfl dX0_turned_124 rfl ?_
      refine g_lconst (v := 1) C (by decide) dX0_turned_126 rfl ?_
      refine g_lsub C dX0_turned_127 rfl ?_
      refine g_land C dX0_turned_128 rfl ?_
      refine g_lstore (i := 7) (lv' := [(7, .long (l7 &&& (l7 - (1 : Int64)))), (5, .long (l5 ||| ((1 : Int64) <<< (q90.toInt64 &&& 63)))), (3, .int l3), (4, .int l4), (10, .int q90)]) C dX0_turned_129 rfl (by rw [hKN]; decide) rfl ?_
      refine g_goto (pc' := 19) C dX0_turned_131 (by decide) ?_
      refine g_sub (lv' := [(3, .int l3), (4, .int l4), (5, .long (l5 ||| ((1 : Int64) <<< (q90.toInt64 &&& 63)))), (7, .long (l7 &&& (l7 - (1 : Int64))))]) [2, 3, 1, 0] rfl ?_
      exact ih _ _ _ hf hx
set_option maxHeartbeats 2000000 in
set_option maxRecDepth 20000 in
theorem c_X0_turned {l : Launch} {E : Ex} {n : Nat} {σ : AH}  {set : Int64} {turn : Int32} {fu : Nat} (res : Int64) (hf : f_X0_turned fu set turn = some res) : Con l E yX0_turned (.code yX0_turned cX0_turned 14 (some .long) :: TT) ({ frames := 2, cells := 0, slots := 0, locals := 42 } : Room) 0 0 [.long set, .int turn] σ n (some (.long res)) σ n := by
  refine con_intro (by decide +kernel) (Nat.le_of_ble_eq_true rfl) ?_
  intro K C hKR hKL hKE hKN hKQ
  subst hKL
  subst hKE
  have C : Cx K RX0 "turned" cX0_turned (some .long) := C
  show G K 0 0 0 [(0, .long set), (2, .int turn)] [] σ n
  unfold f_X0_turned at hf
  refine g_iload_n C rfl (q := 1) rfl dX0_turned_0 rfl ?_
  refine g_bipush (v := 8) C (by decide) dX0_turned_1 rfl ?_
  refine g_idiv C (by decide) dX0_turned_3 rfl ?_
  refine g_iconst (v := 3) C (by decide) dX0_turned_4 rfl ?_
  refine g_imul C dX0_turned_5 rfl ?_
  refine g_istore_n (i := 3) (lv' := [(3, .int ((turn / (8 : Int32)) * (3 : Int32))), (0, .long set), (2, .int turn)]) C dX0_turned_6 rfl rfl (by rw [hKN]; decide) rfl ?_
  refine g_iload_n C rfl (q := 2) rfl dX0_turned_7 rfl ?_
  refine g_bipush (v := 8) C (by decide) dX0_turned_8 rfl ?_
  refine g_irem C (by decide) dX0_turned_10 rfl ?_
  refine g_istore (i := 4) (lv' := [(4, .int (turn - turn / (8 : Int32) * (8 : Int32))), (3, .int ((turn / (8 : Int32)) * (3 : Int32))), (0, .long set), (2, .int turn)]) C dX0_turned_11 rfl (by rw [hKN]; decide) rfl ?_
  refine g_lconst (v := 0) C (by decide) dX0_turned_13 rfl ?_
  refine g_lstore (i := 5) (lv' := [(5, .long (0 : Int64)), (4, .int (turn - turn / (8 : Int32) * (8 : Int32))), (3, .int ((turn / (8 : Int32)) * (3 : Int32))), (0, .long set), (2, .int turn)]) C dX0_turned_14 rfl (by rw [hKN]; decide) rfl ?_
  refine g_lload_n C rfl (q := 3) rfl dX0_turned_16 rfl ?_
  refine g_lstore (i := 7) (lv' := [(7, .long set), (5, .long (0 : Int64)), (4, .int (turn - turn / (8 : Int32) * (8 : Int32))), (3, .int ((turn / (8 : Int32)) * (3 : Int32))), (0, .long set), (2, .int turn)]) C dX0_turned_17 rfl (by rw [hKN]; decide) rfl ?_
  refine g_sub (lv' := [(3, .int ((turn / (8 : Int32)) * (3 : Int32))), (4, .int (turn - turn / (8 : Int32) * (8 : Int32))), (5, .long (0 : Int64)), (7, .long set)]) [3, 2, 1, 0] rfl ?_
  obtain ⟨q91, hq91, hf⟩ := bd hf
  refine g_X0_turned_19 (l3 := (turn / (8 : Int32)) * (3 : Int32)) (l4 := turn - turn / (8 : Int32) * (8 : Int32)) C hKR hKN _ _ _ _ hq91 ?_
  refine g_lload C (q := 0) rfl dX0_turned_134 rfl ?_
  cases hf
  exact g_lret C hKQ dX0_turned_136
def f_X0_neighbours_5  (l0 : Int64) : Nat → Int64 → Int32 → Option Int64
  | 0, _, _ => none
  | fu + 1, l2, l4 => (if (3 : Int32) ≤ l4 then some l2 else ((f_X0_shifted l0 l4 (1 : Int32)).bind fun q8 => ((f_X0_shifted l0 l4 (-1 : Int32)).bind fun q9 => f_X0_neighbours_5 l0 fu (l2 ||| (q8 ||| q9)) (l4 + (1 : Int32)))))
def f_X0_neighbours (fu : Nat) (set : Int64) : Option Int64 := ((f_X0_neighbours_5 set fu (0 : Int64) (0 : Int32)).bind fun q10 => some q10)
set_option maxHeartbeats 2000000 in
set_option maxRecDepth 20000 in
theorem g_X0_neighbours_5 {K : KX} {n : Nat} {σ : AH} {l0 : Int64} (C : Cx K RX0 "neighbours" cX0_neighbours (some .long)) (hKR : kR K = ({ frames := 1, cells := 0, slots := 0, locals := 23 } : Room)) (hKN : kN K = 5) : ∀ (fu : Nat) (l2 : Int64) (l4 : Int32) (res : Int64), f_X0_neighbours_5 l0 fu l2 l4 = some res → G K 0 0 35 [(2, .long res)] [] σ n → G K 0 0 5 [(0, .long l0), (2, .long l2), (4, .int l4)] [] σ n := by
  intro fu
  induction fu with
  | zero =>
    intro l2 l4 res hf
    exact absurd hf (by simp [f_X0_neighbours_5])
  | succ fu ih =>
    intro l2 l4 res hf hx
    rw [f_X0_neighbours_5] at hf
    refine g_iload C (q := 2) rfl dX0_neighbours_5 rfl ?_
    refine g_iconst (v := 3) C (by decide) dX0_neighbours_7 rfl ?_
    refine g_icmp_ge (tgt := 35) C dX0_neighbours_8 (by decide) rfl (fun c7 => ?_) (fun c7 => ?_)
    · replace hf := ift c7 hf
      cases hf
      refine g_sub (lv' := [(2, .long l2)]) [1] rfl ?_
      exact hx
    · replace hf := iff' c7 hf
      refine g_lload_n C rfl (q := 1) rfl dX0_neighbours_11 rfl ?_
      refine g_lload_n C rfl (q := 0) rfl dX0_neighbours_12 rfl ?_
      refine g_iload C (q := 2) rfl dX0_neighbours_13 rfl ?_
      refine g_iconst (v := 1) C (by decide) dX0_neighbours_15 rfl ?_
      obtain ⟨q8, hq8, hf⟩ := bd hf
      refine g_callS0 (st' := [.long l2]) (as := [.long l0, .int l4, .int (1 : Int32)]) (st2 := [.long q8, .long l2]) (k := 3) C ⟨wm_RX0_49, ws_X0_shifted, wi_RX0, wk_X0_shifted, by decide +kernel⟩ (c_X0_shifted (l := kL K) (E := kE K)  _ hq8) (by rw [hKR]; exact ⟨rfl, rfl, ⟨by decide, by decide⟩, by decide, by decide⟩) rfl rfl (by simp [Value.category]) rfl dX0_neighbours_16 rfl ?_
      refine g_lload_n C rfl (q := 0) rfl dX0_neighbours_19 rfl ?_
      refine g_iload C (q := 2) rfl dX0_neighbours_20 rfl ?_
      refine g_iconst (v := (-1)) C (by decide) dX0_neighbours_22 rfl ?_
      obtain ⟨q9, hq9, hf⟩ := bd hf
      refine g_callS0 (st' := [.long q8, .long l2]) (as := [.long l0, .int l4, .int (-1 : Int32)]) (st2 := [.long q9, .long q8, .long l2]) (k := 3) C ⟨wm_RX0_49, ws_X0_shifted, wi_RX0, wk_X0_shifted, by decide +kernel⟩ (c_X0_shifted (l := kL K) (E := kE K)  _ hq9) (by rw [hKR]; exact ⟨rfl, rfl, ⟨by decide, by decide⟩, by decide, by decide⟩) rfl rfl (by simp [Value.category]) rfl dX0_neighbours_23 rfl ?_
      refine g_lor C dX0_neighbours_26 rfl ?_
      refine g_lor C dX0_neighbours_27 rfl ?_
      refine g_lstore_n (i := 2) (lv' := [(2, .long (l2 ||| (q8 ||| q9))), (0, .long l0), (4, .int l4)]) C dX0_neighbours_28 rfl rfl (by rw [hKN]; decide) rfl ?_
      refine g_iinc (v := l4 + (1 : Int32)) (lv' := [(4, .int (l4 + (1 : Int32))), (2, .long (l2 ||| (q8 ||| q9))), (0, .long l0)]) (q := 2) C dX0_neighbours_29 rfl rfl rfl (by rw [hKN]; decide) rfl ?_
      refine g_goto (pc' := 5) C dX0_neighbours_32 (by decide) ?_
      refine g_sub (lv' := [(0, .long l0), (2, .long (l2 ||| (q8 ||| q9))), (4, .int (l4 + (1 : Int32)))]) [2, 1, 0] rfl ?_
      exact ih _ _ _ hf hx
set_option maxHeartbeats 2000000 in
set_option maxRecDepth 20000 in
theorem c_X0_neighbours {l : Launch} {E : Ex} {n : Nat} {σ : AH}  {set : Int64} {fu : Nat} (res : Int64) (hf : f_X0_neighbours fu set = some res) : Con l E yX0_neighbours (.code yX0_neighbours cX0_neighbours 5 (some .long) :: TT) ({ frames := 1, cells := 0, slots := 0, locals := 23 } : Room) 0 0 [.long set] σ n (some (.long res)) σ n := by
  refine con_intro (by decide +kernel) (Nat.le_of_ble_eq_true rfl) ?_
  intro K C hKR hKL hKE hKN hKQ
  subst hKL
  subst hKE
  have C : Cx K RX0 "neighbours" cX0_neighbours (some .long) := C
  show G K 0 0 0 [(0, .long set)] [] σ n
  unfold f_X0_neighbours at hf
  refine g_lconst (v := 0) C (by decide) dX0_neighbours_0 rfl ?_
  refine g_lstore_n (i := 2) (lv' := [(2, .long (0 : Int64)), (0, .long set)]) C dX0_neighbours_1 rfl rfl (by rw [hKN]; decide) rfl ?_
  refine g_iconst (v := 0) C (by decide) dX0_neighbours_2 rfl ?_
  refine g_istore (i := 4) (lv' := [(4, .int (0 : Int32)), (2, .long (0 : Int64)), (0, .long set)]) C dX0_neighbours_3 rfl (by rw [hKN]; decide) rfl ?_
  refine g_sub (lv' := [(0, .long set), (2, .long (0 : Int64)), (4, .int (0 : Int32))]) [2, 1, 0] rfl ?_
  obtain ⟨q10, hq10, hf⟩ := bd hf
  refine g_X0_neighbours_5 (l0 := set) C hKR hKN _ _ _ _ hq10 ?_
  refine g_lload_n C rfl (q := 0) rfl dX0_neighbours_35 rfl ?_
  cases hf
  exact g_lret C hKQ dX0_neighbours_36
def f_X0_hangsTogether_8  (l0 : Int64) : Nat → Int64 → Int32 → Option Int64
  | 0, _, _ => none
  | fu + 1, l2, l4 => (if (10 : Int32) ≤ l4 then some l2 else ((f_X0_neighbours fu l2).bind fun q6 => f_X0_hangsTogether_8 l0 fu (l2 ||| (q6 &&& l0)) (l4 + (1 : Int32))))
def f_X0_hangsTogether (fu : Nat) (set : Int64) : Option Int32 := ((f_X0_hangsTogether_8 set fu (set &&& (-set)) (0 : Int32)).bind fun q7 => (if bOk (if set = (0 : Int64) then (0 : Int32) else (if q7 = set then (1 : Int32) else (0 : Int32))) = true then some (if set = (0 : Int64) then (0 : Int32) else (if q7 = set then (1 : Int32) else (0 : Int32))) else none))
set_option maxHeartbeats 2000000 in
set_option maxRecDepth 20000 in
theorem g_X0_hangsTogether_8 {K : KX} {n : Nat} {σ : AH} {l0 : Int64} (C : Cx K RX0 "hangsTogether" cX0_hangsTogether (some .boolean)) (hKR : kR K = ({ frames := 2, cells := 0, slots := 0, locals := 47 } : Room)) (hKN : kN K = 5) : ∀ (fu : Nat) (l2 : Int64) (l4 : Int32) (res : Int64), f_X0_hangsTogether_8 l0 fu l2 l4 = some res → G K 0 0 30 [(0, .long l0), (2, .long res)] [] σ n → G K 0 0 8 [(0, .long l0), (2, .long l2), (4, .int l4)] [] σ n := by
  intro fu
  induction fu with
  | zero =>
    intro l2 l4 res hf
    exact absurd hf (by simp [f_X0_hangsTogether_8])
  | succ fu ih =>
    intro l2 l4 res hf hx
    rw [f_X0_hangsTogether_8] at hf
    refine g_iload C (q := 2) rfl dX0_hangsTogether_8 rfl ?_
    refine g_bipush (v := 10) C (by decide) dX0_hangsTogether_10 rfl ?_
    refine g_icmp_ge (tgt := 30) C dX0_hangsTogether_12 (by decide) rfl (fun c5 => ?_) (fun c5 => ?_)
    · replace hf := ift c5 hf
      cases hf
      refine g_sub (lv' := [(0, .long l0), (2, .long l2)]) [0, 1] rfl ?_
      exact hx
    · replace hf := iff' c5 hf
      refine g_lload_n C rfl (q := 1) rfl dX0_hangsTogether_15 rfl ?_
      refine g_lload_n C rfl (q := 1) rfl dX0_hangsTogether_16 rfl ?_
      obtain ⟨q6, hq6, hf⟩ := bd hf
      refine g_callS0 (st' := [.long l2]) (as := [.long l2]) (st2 := [.long q6, .long l2]) (k := 1) C ⟨wm_RX0_45, ws_X0_neighbours, wi_RX0, wk_X0_neighbours, by decide +kernel⟩ (c_X0_neighbours (l := kL K) (E := kE K)  _ hq6) (by rw [hKR]; exact ⟨rfl, rfl, ⟨by decide, by decide⟩, by decide, by decide⟩) rfl rfl (by simp [Value.category]) rfl dX0_hangsTogether_17 rfl ?_
      refine g_lload_n C rfl (q := 0) rfl dX0_hangsTogether_20 rfl ?_
      refine g_land C dX0_hangsTogether_21 rfl ?_
      refine g_lor C dX0_hangsTogether_22 rfl ?_
      refine g_lstore_n (i := 2) (lv' := [(2, .long (l2 ||| (q6 &&& l0))), (0, .long l0), (4, .int l4)]) C dX0_hangsTogether_23 rfl rfl (by rw [hKN]; decide) rfl ?_
      refine g_iinc (v := l4 + (1 : Int32)) (lv' := [(4, .int (l4 + (1 : Int32))), (2, .long (l2 ||| (q6 &&& l0))), (0, .long l0)]) (q := 2) C dX0_hangsTogether_24 rfl rfl rfl (by rw [hKN]; decide) rfl ?_
      refine g_goto (pc' := 8) C dX0_hangsTogether_27 (by decide) ?_
      refine g_sub (lv' := [(0, .long l0), (2, .long (l2 ||| (q6 &&& l0))), (4, .int (l4 + (1 : Int32)))]) [2, 1, 0] rfl ?_
      exact ih _ _ _ hf hx
set_option maxHeartbeats 2000000 in
set_option maxRecDepth 20000 in
theorem c_X0_hangsTogether {l : Launch} {E : Ex} {n : Nat} {σ : AH}  {set : Int64} {fu : Nat} (res : Int32) (hf : f_X0_hangsTogether fu set = some res) : Con l E yX0_hangsTogether (.code yX0_hangsTogether cX0_hangsTogether 5 (some .boolean) :: TT) ({ frames := 2, cells := 0, slots := 0, locals := 47 } : Room) 0 0 [.long set] σ n (some (.int res)) σ n := by
  refine con_intro (by decide +kernel) (Nat.le_of_ble_eq_true rfl) ?_
  intro K C hKR hKL hKE hKN hKQ
  subst hKL
  subst hKE
  have C : Cx K RX0 "hangsTogether" cX0_hangsTogether (some .boolean) := C
  show G K 0 0 0 [(0, .long set)] [] σ n
  unfold f_X0_hangsTogether at hf
  refine g_lload_n C rfl (q := 0) rfl dX0_hangsTogether_0 rfl ?_
  refine g_lload_n C rfl (q := 0) rfl dX0_hangsTogether_1 rfl ?_
  refine g_lneg C dX0_hangsTogether_2 rfl ?_
  refine g_land C dX0_hangsTogether_3 rfl ?_
  refine g_lstore_n (i := 2) (lv' := [(2, .long (set &&& (-set))), (0, .long set)]) C dX0_hangsTogether_4 rfl rfl (by rw [hKN]; decide) rfl ?_
  refine g_iconst (v := 0) C (by decide) dX0_hangsTogether_5 rfl ?_
  refine g_istore (i := 4) (lv' := [(4, .int (0 : Int32)), (2, .long (set &&& (-set))), (0, .long set)]) C dX0_hangsTogether_6 rfl (by rw [hKN]; decide) rfl ?_
  refine g_sub (lv' := [(0, .long set), (2, .long (set &&& (-set))), (4, .int (0 : Int32))]) [2, 1, 0] rfl ?_
  obtain ⟨q7, hq7, hf⟩ := bd hf
  refine g_X0_hangsTogether_8 (l0 := set) C hKR hKN _ _ _ _ hq7 ?_
  refine g_lload_n C rfl (q := 0) rfl dX0_hangsTogether_30 rfl ?_
  refine g_lconst (v := 0) C (by decide) dX0_hangsTogether_31 rfl ?_
  have j9 : G K 0 0 47 [(0, .long set), (2, .long q7)] [.int (if set = (0 : Int64) then (0 : Int32) else (if q7 = set then (1 : Int32) else (0 : Int32)))] σ n := by
    obtain ⟨g8, hf⟩ := gd hf
    cases hf
    exact g_zret C (bOk_n g8) hKQ dX0_hangsTogether_47
  refine g_lif_eq (tgt := 46) C dX0_hangsTogether_32 rfl dX0_hangsTogether_33 (by decide) rfl (fun c10 => ?_) (fun c10 => ?_)
  · refine g_iconst (v := 0) C (by decide) dX0_hangsTogether_46 rfl ?_
    exact g_topI (by rw [if_pos c10]) j9
  · refine g_lload_n C rfl (q := 1) rfl dX0_hangsTogether_36 rfl ?_
    refine g_lload_n C rfl (q := 0) rfl dX0_hangsTogether_37 rfl ?_
    refine g_lif_ne (tgt := 46) C dX0_hangsTogether_38 rfl dX0_hangsTogether_39 (by decide) rfl (fun c11 => ?_) (fun c11 => ?_)
    · refine g_iconst (v := 0) C (by decide) dX0_hangsTogether_46 rfl ?_
      exact g_topI (by rw [if_neg c10, if_neg c11]) j9
    · refine g_iconst (v := 1) C (by decide) dX0_hangsTogether_42 rfl ?_
      refine g_goto (pc' := 47) C dX0_hangsTogether_43 (by decide) ?_
      exact g_topI (by rw [if_neg c10, if_pos c11]) j9
def f_X6_lowestPiece (mask : Int32) : Option Int32 := ((f_J6_bitCount_0f7a4 ((mask &&& (-mask)) - (1 : Int32))).bind fun q1 => some q1)
set_option maxHeartbeats 2000000 in
set_option maxRecDepth 20000 in
theorem c_X6_lowestPiece {l : Launch} {E : Ex} {n : Nat} {σ : AH}  {mask : Int32} (res : Int32) (hf : f_X6_lowestPiece mask = some res) : Con l E yX6_lowestPiece (.code yX6_lowestPiece cX6_lowestPiece 1 (some .int) :: TT) ({ frames := 1, cells := 0, slots := 0, locals := 20 } : Room) 0 0 [.int mask] σ n (some (.int res)) σ n := by
  refine con_intro (by decide +kernel) (Nat.le_of_ble_eq_true rfl) ?_
  intro K C hKR hKL hKE hKN hKQ
  subst hKL
  subst hKE
  have C : Cx K RX6 "lowestPiece" cX6_lowestPiece (some .int) := C
  show G K 0 0 0 [(0, .int mask)] [] σ n
  unfold f_X6_lowestPiece at hf
  refine g_iload_n C rfl (q := 0) rfl dX6_lowestPiece_0 rfl ?_
  refine g_iload_n C rfl (q := 0) rfl dX6_lowestPiece_1 rfl ?_
  refine g_ineg C dX6_lowestPiece_2 rfl ?_
  refine g_iand C dX6_lowestPiece_3 rfl ?_
  refine g_iconst (v := 1) C (by decide) dX6_lowestPiece_4 rfl ?_
  refine g_isub C dX6_lowestPiece_5 rfl ?_
  obtain ⟨q1, hq1, hf⟩ := bd hf
  refine g_callS0 (st' := []) (as := [.int ((mask &&& (-mask)) - (1 : Int32))]) (st2 := [.int q1]) (k := 1) C ⟨wm_RX6_144, ws_J6_bitCount_0f7a4, wi_RJ6, wk_J6_bitCount_0f7a4, by decide +kernel⟩ (c_J6_bitCount_0f7a4 (l := kL K) (E := kE K)  _ hq1) (by rw [hKR]; exact ⟨rfl, rfl, ⟨by decide, by decide⟩, by decide, by decide⟩) rfl rfl (by simp) rfl dX6_lowestPiece_6 rfl ?_
  cases hf
  exact g_iret C hKQ dX6_lowestPiece_9
end
section
theorem wf_RX1_24 : Cond.fieldLink RX1 24 (TX1 4).1 (TX1 4).2.1 (TX1 4).2.2.1 ∈ TT := tt_mem 72 (by decide +kernel) (by decide +kernel)
theorem wm_RX1_28 : Cond.methodLink RX1 28 yJ13_bitCount_95d88 ∈ TT := tt_mem 367 (by decide +kernel) (by decide +kernel)
theorem wf_RX1_72 : Cond.fieldLink RX1 72 (TX1 6).1 (TX1 6).2.1 (TX1 6).2.2.1 ∈ TT := tt_mem 74 (by decide +kernel) (by decide +kernel)
theorem wf_RX1_55 : Cond.fieldLink RX1 55 (TX1 7).1 (TX1 7).2.1 (TX1 7).2.2.1 ∈ TT := tt_mem 75 (by decide +kernel) (by decide +kernel)
theorem wk_X1_forget : Cond.code yX1_forget cX1_forget 1 none ∈ TT := tt_mem 381 (by decide +kernel) (by decide +kernel)
theorem wi_RX1 : Cond.initialized RX1 ∈ TT := tt_mem 35 (by decide +kernel) (by decide +kernel)
theorem wm_RX1_34 : Cond.methodLink RX1 34 yX1_forget ∈ TT := tt_mem 378 (by decide +kernel) (by decide +kernel)
theorem wn_X1_forget : Cond.instanceMethod yX1_forget ∈ TT := tt_mem 380 (by decide +kernel) (by decide +kernel)
theorem wv_X1_forget : Cond.selects yX1_forget.cls yX1_forget yX1_forget ∈ TT := tt_mem 1 (by decide +kernel) (by decide +kernel)
theorem wf_RX1_37 : Cond.fieldLink RX1 37 (TX1 5).1 (TX1 5).2.1 (TX1 5).2.2.1 ∈ TT := tt_mem 73 (by decide +kernel) (by decide +kernel)
theorem wf_RX1_44 : Cond.fieldLink RX1 44 (TX1 9).1 (TX1 9).2.1 (TX1 9).2.2.1 ∈ TT := tt_mem 77 (by decide +kernel) (by decide +kernel)
theorem wf_RX1_11 : Cond.fieldLink RX1 11 (TX1 0).1 (TX1 0).2.1 (TX1 0).2.2.1 ∈ TT := tt_mem 68 (by decide +kernel) (by decide +kernel)
theorem wk_X0_isBelow : Cond.code yX0_isBelow cX0_isBelow 4 (some .boolean) ∈ TT := tt_mem 453 (by decide +kernel) (by decide +kernel)
theorem ws_X0_isBelow : Cond.static yX0_isBelow ∈ TT := tt_mem 452 (by decide +kernel) (by decide +kernel)
theorem wm_RX1_97 : Cond.methodLink RX1 97 yX0_isBelow ∈ TT := tt_mem 451 (by decide +kernel) (by decide +kernel)
theorem wk_X1_addShape : Cond.code yX1_addShape cX1_addShape 5 none ∈ TT := tt_mem 450 (by decide +kernel) (by decide +kernel)
theorem wm_RX1_93 : Cond.methodLink RX1 93 yX1_addShape ∈ TT := tt_mem 447 (by decide +kernel) (by decide +kernel)
theorem wn_X1_addShape : Cond.instanceMethod yX1_addShape ∈ TT := tt_mem 449 (by decide +kernel) (by decide +kernel)
theorem wv_X1_addShape : Cond.selects yX1_addShape.cls yX1_addShape yX1_addShape ∈ TT := tt_mem 3 (by decide +kernel) (by decide +kernel)
theorem wk_X0_settled : Cond.code yX0_settled cX0_settled 5 (some .long) ∈ TT := tt_mem 441 (by decide +kernel) (by decide +kernel)
theorem ws_X0_settled : Cond.static yX0_settled ∈ TT := tt_mem 440 (by decide +kernel) (by decide +kernel)
theorem wm_RX1_89 : Cond.methodLink RX1 89 yX0_settled ∈ TT := tt_mem 439 (by decide +kernel) (by decide +kernel)
theorem wk_X0_turned : Cond.code yX0_turned cX0_turned 14 (some .long) ∈ TT := tt_mem 432 (by decide +kernel) (by decide +kernel)
theorem ws_X0_turned : Cond.static yX0_turned ∈ TT := tt_mem 431 (by decide +kernel) (by decide +kernel)
theorem wm_RX1_85 : Cond.methodLink RX1 85 yX0_turned ∈ TT := tt_mem 430 (by decide +kernel) (by decide +kernel)
theorem wk_X0_mirrors : Cond.code yX0_mirrors cX0_mirrors 3 (some .boolean) ∈ TT := tt_mem 423 (by decide +kernel) (by decide +kernel)
theorem ws_X0_mirrors : Cond.static yX0_mirrors ∈ TT := tt_mem 422 (by decide +kernel) (by decide +kernel)
theorem wm_RX1_81 : Cond.methodLink RX1 81 yX0_mirrors ∈ TT := tt_mem 421 (by decide +kernel) (by decide +kernel)
theorem wk_X0_hangsTogether : Cond.code yX0_hangsTogether cX0_hangsTogether 5 (some .boolean) ∈ TT := tt_mem 410 (by decide +kernel) (by decide +kernel)
theorem ws_X0_hangsTogether : Cond.static yX0_hangsTogether ∈ TT := tt_mem 409 (by decide +kernel) (by decide +kernel)
theorem wm_RX1_75 : Cond.methodLink RX1 75 yX0_hangsTogether ∈ TT := tt_mem 408 (by decide +kernel) (by decide +kernel)
theorem wk_X1_learnShapes : Cond.code yX1_learnShapes cX1_learnShapes 2 none ∈ TT := tt_mem 407 (by decide +kernel) (by decide +kernel)
theorem wm_RX1_41 : Cond.methodLink RX1 41 yX1_learnShapes ∈ TT := tt_mem 404 (by decide +kernel) (by decide +kernel)
theorem wn_X1_learnShapes : Cond.instanceMethod yX1_learnShapes ∈ TT := tt_mem 406 (by decide +kernel) (by decide +kernel)
theorem wv_X1_learnShapes : Cond.selects yX1_learnShapes.cls yX1_learnShapes yX1_learnShapes ∈ TT := tt_mem 2 (by decide +kernel) (by decide +kernel)
theorem wk_X1_countShapes : Cond.code yX1_countShapes cX1_countShapes 1 (some .int) ∈ TT := tt_mem 403 (by decide +kernel) (by decide +kernel)
theorem wm_RX1_48 : Cond.methodLink RX1 48 yX1_countShapes ∈ TT := tt_mem 611 (by decide +kernel) (by decide +kernel)
theorem wn_X1_countShapes : Cond.instanceMethod yX1_countShapes ∈ TT := tt_mem 401 (by decide +kernel) (by decide +kernel)
theorem wv_X1_countShapes : Cond.selects yX1_countShapes.cls yX1_countShapes yX1_countShapes ∈ TT := tt_mem 402 (by decide +kernel) (by decide +kernel)
theorem wf_RX1_52 : Cond.fieldLink RX1 52 (TX1 10).1 (TX1 10).2.1 (TX1 10).2.2.1 ∈ TT := tt_mem 78 (by decide +kernel) (by decide +kernel)
theorem wf_RX1_15 : Cond.fieldLink RX1 15 (TX1 1).1 (TX1 1).2.1 (TX1 1).2.2.1 ∈ TT := tt_mem 69 (by decide +kernel) (by decide +kernel)
theorem wf_RX1_18 : Cond.fieldLink RX1 18 (TX1 2).1 (TX1 2).2.1 (TX1 2).2.2.1 ∈ TT := tt_mem 70 (by decide +kernel) (by decide +kernel)
theorem wc_RX1_105 : Cond.constantLong RX1 105 (-1) ∈ TT := tt_mem 510 (by decide +kernel) (by decide +kernel)
theorem wf_RX1_21 : Cond.fieldLink RX1 21 (TX1 3).1 (TX1 3).2.1 (TX1 3).2.2.1 ∈ TT := tt_mem 71 (by decide +kernel) (by decide +kernel)
theorem wk_X0_greatest : Cond.code yX0_greatest cX0_greatest 4 (some .int) ∈ TT := tt_mem 509 (by decide +kernel) (by decide +kernel)
theorem ws_X0_greatest : Cond.static yX0_greatest ∈ TT := tt_mem 508 (by decide +kernel) (by decide +kernel)
theorem wm_RX1_101 : Cond.methodLink RX1 101 yX0_greatest ∈ TT := tt_mem 507 (by decide +kernel) (by decide +kernel)
theorem wm_RX1_113 : Cond.methodLink RX1 113 yX0_lowest ∈ TT := tt_mem 522 (by decide +kernel) (by decide +kernel)
theorem wk_J7_fill_d0a16 : Cond.code yJ7_fill_d0a16 cJ7_fill_d0a16 5 none ∈ TT := tt_mem 521 (by decide +kernel) (by decide +kernel)
theorem wi_RJ7 : Cond.initialized RJ7 ∈ TT := tt_mem 50 (by decide +kernel) (by decide +kernel)
theorem ws_J7_fill_d0a16 : Cond.static yJ7_fill_d0a16 ∈ TT := tt_mem 520 (by decide +kernel) (by decide +kernel)
theorem wm_RX1_107 : Cond.methodLink RX1 107 yJ7_fill_d0a16 ∈ TT := tt_mem 519 (by decide +kernel) (by decide +kernel)
theorem wk_X1_mergeIn : Cond.code yX1_mergeIn cX1_mergeIn 5 none ∈ TT := tt_mem 514 (by decide +kernel) (by decide +kernel)
theorem wm_RX1_65 : Cond.methodLink RX1 65 yX1_mergeIn ∈ TT := tt_mem 511 (by decide +kernel) (by decide +kernel)
theorem wn_X1_mergeIn : Cond.instanceMethod yX1_mergeIn ∈ TT := tt_mem 513 (by decide +kernel) (by decide +kernel)
theorem wv_X1_mergeIn : Cond.selects yX1_mergeIn.cls yX1_mergeIn yX1_mergeIn ∈ TT := tt_mem 5 (by decide +kernel) (by decide +kernel)
theorem wk_X1_placeOneShape : Cond.code yX1_placeOneShape cX1_placeOneShape 14 (some .int) ∈ TT := tt_mem 506 (by decide +kernel) (by decide +kernel)
theorem wm_RX1_61 : Cond.methodLink RX1 61 yX1_placeOneShape ∈ TT := tt_mem 503 (by decide +kernel) (by decide +kernel)
theorem wn_X1_placeOneShape : Cond.instanceMethod yX1_placeOneShape ∈ TT := tt_mem 505 (by decide +kernel) (by decide +kernel)
theorem wv_X1_placeOneShape : Cond.selects yX1_placeOneShape.cls yX1_placeOneShape yX1_placeOneShape ∈ TT := tt_mem 4 (by decide +kernel) (by decide +kernel)
theorem wf_RX1_58 : Cond.fieldLink RX1 58 (TX1 8).1 (TX1 8).2.1 (TX1 8).2.2.1 ∈ TT := tt_mem 76 (by decide +kernel) (by decide +kernel)
theorem wk_X1_indexPlaces : Cond.code yX1_indexPlaces cX1_indexPlaces 7 none ∈ TT := tt_mem 518 (by decide +kernel) (by decide +kernel)
theorem wm_RX1_69 : Cond.methodLink RX1 69 yX1_indexPlaces ∈ TT := tt_mem 515 (by decide +kernel) (by decide +kernel)
theorem wn_X1_indexPlaces : Cond.instanceMethod yX1_indexPlaces ∈ TT := tt_mem 517 (by decide +kernel) (by decide +kernel)
theorem wv_X1_indexPlaces : Cond.selects yX1_indexPlaces.cls yX1_indexPlaces yX1_indexPlaces ∈ TT := tt_mem 6 (by decide +kernel) (by decide +kernel)
def f_J7_fill_d0a16_6 (z : Nat) (l1 : Int64) (l4 : Int32) : Nat → Int32 → (Nat → Int64) → Option (Nat → Int64)
  | 0, _, _ => none
  | fu + 1, l3, row => (if l4 ≤ l3 then some row else (if inB l3 z = true then f_J7_fill_d0a16_6 z l1 l4 fu (l3 + (1 : Int32)) (va_up row l3.toNatClampNeg l1) else none))
def f_J7_fill_d0a16 (fu : Nat) (z : Nat) (row : Nat → Int64) (v : Int64) : Option (Nat → Int64) := ((f_J7_fill_d0a16_6 z v (Int32.ofNat z) fu (0 : Int32) row).bind fun q7 => some q7)
set_option maxHeartbeats 2000000 in
set_option maxRecDepth 20000 in
theorem g_J7_fill_d0a16_6 {K : KX} {n : Nat} {σ : AH} {a : Nat} {z : Nat} {l1 : Int64} {l4 : Int32} (C : Cx K RJ7 "fill" cJ7_fill_d0a16 none) (hKR : kR K = ({ frames := 0, cells := 0, slots := 0, locals := 0 } : Room)) (hKN : kN K = 5) : ∀ (fu : Nat) (l3 : Int32) (row : Nat → Int64) (res : (Nat → Int64)), f_J7_fill_d0a16_6 z l1 l4 fu l3 row = some res → G K 0 0 22 [] [] (wA σ a z res) n → G K 0 0 6 [(0, .ref a), (1, .long l1), (3, .int l3), (4, .int l4)] [] (wA σ a z row) n := by
  intro fu
  induction fu with
  | zero =>
    intro l3 row res hf
    exact absurd hf (by simp [f_J7_fill_d0a16_6])
  | succ fu ih =>
    intro l3 row res hf hx
    rw [f_J7_fill_d0a16_6] at hf
    refine g_iload_n C rfl (q := 2) rfl dJ7_fill_d0a16_6 rfl ?_
    refine g_iload C (q := 3) rfl dJ7_fill_d0a16_7 rfl ?_
    refine g_icmp_ge (tgt := 22) C dJ7_fill_d0a16_9 (by decide) rfl (fun c5 => ?_) (fun c5 => ?_)
    · replace hf := ift c5 hf
      cases hf
      refine g_sub (lv' := []) [] rfl ?_
      exact hx
    · replace hf := iff' c5 hf
      refine g_aload_n C rfl (q := 0) rfl dJ7_fill_d0a16_12 rfl ?_
      refine g_iload_n C rfl (q := 2) rfl dJ7_fill_d0a16_13 rfl ?_
      refine g_lload_n C rfl (q := 1) rfl dJ7_fill_d0a16_14 rfl ?_
      obtain ⟨g6, hf⟩ := gd hf
      refine g_last (h' := (wA σ a z (va_up row l3.toNatClampNeg l1))) C (wL_at0 rfl) (inB_in g6) (wL_up0 (Nat.le_of_ble_eq_true rfl) rfl) dJ7_fill_d0a16_15 rfl ?_
      refine g_iinc (v := l3 + (1 : Int32)) (lv' := [(3, .int (l3 + (1 : Int32))), (0, .ref a), (1, .long l1), (4, .int l4)]) (q := 2) C dJ7_fill_d0a16_16 rfl rfl rfl (by rw [hKN]; decide) rfl ?_
      refine g_goto (pc' := 6) C dJ7_fill_d0a16_19 (by decide) ?_
      refine g_sub (lv' := [(0, .ref a), (1, .long l1), (3, .int (l3 + (1 : Int32))), (4, .int l4)]) [1, 2, 0, 3] rfl ?_
      exact ih _ _ _ hf hx
set_option maxHeartbeats 2000000 in
set_option maxRecDepth 20000 in
theorem c_J7_fill_d0a16 {l : Launch} {E : Ex} {n : Nat} {σ : AH} {a : Nat} {z : Nat} {row : Nat → Int64} {v : Int64} {fu : Nat} (res : (Nat → Int64)) (hf : f_J7_fill_d0a16 fu z row v = some res) : Con l E yJ7_fill_d0a16 (.code yJ7_fill_d0a16 cJ7_fill_d0a16 5 none :: TT) ({ frames := 0, cells := 0, slots := 0, locals := 0 } : Room) 0 0 [.ref a, .long v] (wA σ a z row) n none (wA σ a z res) n := by
  refine con_intro (by decide +kernel) (Nat.le_of_ble_eq_true rfl) ?_
  intro K C hKR hKL hKE hKN hKQ
  subst hKL
  subst hKE
  have C : Cx K RJ7 "fill" cJ7_fill_d0a16 none := C
  show G K 0 0 0 [(0, .ref a), (1, .long v)] [] (wA σ a z row) n
  unfold f_J7_fill_d0a16 at hf
  refine g_iconst (v := 0) C (by decide) dJ7_fill_d0a16_0 rfl ?_
  refine g_istore_n (i := 3) (lv' := [(3, .int (0 : Int32)), (0, .ref a), (1, .long v)]) C dJ7_fill_d0a16_1 rfl rfl (by rw [hKN]; decide) rfl ?_
  refine g_aload_n C rfl (q := 1) rfl dJ7_fill_d0a16_2 rfl ?_
  refine g_alen (kd := 1) (ty := .long) C rfl (wL_at0 rfl) rfl dJ7_fill_d0a16_3 rfl ?_
  refine g_istore (i := 4) (lv' := [(4, .int (Int32.ofNat z)), (3, .int (0 : Int32)), (0, .ref a), (1, .long v)]) C dJ7_fill_d0a16_4 rfl (by rw [hKN]; decide) rfl ?_
  refine g_sub (lv' := [(0, .ref a), (1, .long v), (3, .int (0 : Int32)), (4, .int (Int32.ofNat z))]) [2, 3, 1, 0] rfl ?_
  obtain ⟨q7, hq7, hf⟩ := bd hf
  refine g_J7_fill_d0a16_6 (l1 := v) (l4 := (Int32.ofNat z)) C hKR hKN _ _ _ _ hq7 ?_
  cases hf
  exact g_vret C hKQ dJ7_fill_d0a16_22
def f_J7_fill_53178_5 (z : Nat) (l1 : Int32) (l3 : Int32) : Nat → Int32 → (Nat → Int32) → Option (Nat → Int32)
  | 0, _, _ => none
  | fu + 1, l2, row => (if l3 ≤ l2 then some row else (if inB l2 z = true then f_J7_fill_53178_5 z l1 l3 fu (l2 + (1 : Int32)) (va_up row l2.toNatClampNeg l1) else none))
def f_J7_fill_53178 (fu : Nat) (z : Nat) (row : Nat → Int32) (v : Int32) : Option (Nat → Int32) := ((f_J7_fill_53178_5 z v (Int32.ofNat z) fu (0 : Int32) row).bind fun q7 => some q7)
set_option maxHeartbeats 2000000 in
set_option maxRecDepth 20000 in
theorem g_J7_fill_53178_5 {K : KX} {n : Nat} {σ : AH} {a : Nat} {z : Nat} {l1 : Int32} {l3 : Int32} (C : Cx K RJ7 "fill" cJ7_fill_53178 none) (hKR : kR K = ({ frames := 0, cells := 0, slots := 0, locals := 0 } : Room)) (hKN : kN K = 4) : ∀ (fu : Nat) (l2 : Int32) (row : Nat → Int32) (res : (Nat → Int32)), f_J7_fill_53178_5 z l1 l3 fu l2 row = some res → G K 0 0 20 [] [] (wAI σ a z res) n → G K 0 0 5 [(0, .ref a), (1, .int l1), (2, .int l2), (3, .int l3)] [] (wAI σ a z row) n := by
  intro fu
  induction fu with
  | zero =>
    intro l2 row res hf
    exact absurd hf (by simp [f_J7_fill_53178_5])
  | succ fu ih =>
    intro l2 row res hf hx
    rw [f_J7_fill_53178_5] at hf
    refine g_iload_n C rfl (q := 2) rfl dJ7_fill_53178_5 rfl ?_
    refine g_iload_n C rfl (q := 3) rfl dJ7_fill_53178_6 rfl ?_
    refine g_icmp_ge (tgt := 20) C dJ7_fill_53178_7 (by decide) rfl (fun c5 => ?_) (fun c5 => ?_)
    · replace hf := ift c5 hf
      cases hf
      refine g_sub (lv' := []) [] rfl ?_
      exact hx
    · replace hf := iff' c5 hf
      refine g_aload_n C rfl (q := 0) rfl dJ7_fill_53178_10 rfl ?_
      refine g_iload_n C rfl (q := 2) rfl dJ7_fill_53178_11 rfl ?_
      refine g_iload_n C rfl (q := 1) rfl dJ7_fill_53178_12 rfl ?_
      obtain ⟨g6, hf⟩ := gd hf
      refine g_iast (h' := (wAI σ a z (va_up row l2.toNatClampNeg l1))) C (wL_at0 rfl) (inB_in g6) (wL_up0 (Nat.le_of_ble_eq_true rfl) rfl) dJ7_fill_53178_13 rfl ?_
      refine g_iinc (v := l2 + (1 : Int32)) (lv' := [(2, .int (l2 + (1 : Int32))), (0, .ref a), (1, .int l1), (3, .int l3)]) (q := 2) C dJ7_fill_53178_14 rfl rfl rfl (by rw [hKN]; decide) rfl ?_
      refine g_goto (pc' := 5) C dJ7_fill_53178_17 (by decide) ?_
      refine g_sub (lv' := [(0, .ref a), (1, .int l1), (2, .int (l2 + (1 : Int32))), (3, .int l3)]) [1, 2, 0, 3] rfl ?_
      exact ih _ _ _ hf hx
set_option maxHeartbeats 2000000 in
set_option maxRecDepth 20000 in
theorem c_J7_fill_53178 {l : Launch} {E : Ex} {n : Nat} {σ : AH} {a : Nat} {z : Nat} {row : Nat → Int32} {v : Int32} {fu : Nat} (res : (Nat → Int32)) (hf : f_J7_fill_53178 fu z row v = some res) : Con l E yJ7_fill_53178 (.code yJ7_fill_53178 cJ7_fill_53178 4 none :: TT) ({ frames := 0, cells := 0, slots := 0, locals := 0 } : Room) 0 0 [.ref a, .int v] (wAI σ a z row) n none (wAI σ a z res) n := by
  refine con_intro (by decide +kernel) (Nat.le_of_ble_eq_true rfl) ?_
  intro K C hKR hKL hKE hKN hKQ
  subst hKL
  subst hKE
  have C : Cx K RJ7 "fill" cJ7_fill_53178 none := C
  show G K 0 0 0 [(0, .ref a), (1, .int v)] [] (wAI σ a z row) n
  unfold f_J7_fill_53178 at hf
  refine g_iconst (v := 0) C (by decide) dJ7_fill_53178_0 rfl ?_
  refine g_istore_n (i := 2) (lv' := [(2, .int (0 : Int32)), (0, .ref a), (1, .int v)]) C dJ7_fill_53178_1 rfl rfl (by rw [hKN]; decide) rfl ?_
  refine g_aload_n C rfl (q := 1) rfl dJ7_fill_53178_2 rfl ?_
  refine g_alen (kd := 0) (ty := .int) C rfl (wL_at0 rfl) rfl dJ7_fill_53178_3 rfl ?_
  refine g_istore_n (i := 3) (lv' := [(3, .int (Int32.ofNat z)), (2, .int (0 : Int32)), (0, .ref a), (1, .int v)]) C dJ7_fill_53178_4 rfl rfl (by rw [hKN]; decide) rfl ?_
  refine g_sub (lv' := [(0, .ref a), (1, .int v), (2, .int (0 : Int32)), (3, .int (Int32.ofNat z))]) [2, 3, 1, 0] rfl ?_
  obtain ⟨q7, hq7, hf⟩ := bd hf
  refine g_J7_fill_53178_5 (l1 := v) (l3 := (Int32.ofNat z)) C hKR hKN _ _ _ _ hq7 ?_
  cases hf
  exact g_vret C hKQ dJ7_fill_53178_20
def f_X1_hasCube (cu : Int64) (cell : Int32) : Option Int32 := (if bOk (if (((cu.toUInt64 >>> (cell.toInt64.toUInt64 &&& Int64.toUInt64 63)).toInt64) &&& (1 : Int64)) = (0 : Int64) then (0 : Int32) else (1 : Int32)) = true then some (if (((cu.toUInt64 >>> (cell.toInt64.toUInt64 &&& Int64.toUInt64 63)).toInt64) &&& (1 : Int64)) = (0 : Int64) then (0 : Int32) else (1 : Int32)) else none)
set_option maxHeartbeats 2000000 in
set_option maxRecDepth 20000 in
theorem c_X1_hasCube {l : Launch} {E : Ex} {n : Nat} {σ : AH} {a : Nat} {ss : Nat → Int64} {ps : Nat → Int64} {hv : Nat → Int64} {oo : Nat → Int64} {cu : Int64} {mm : Int32} {sk : Int32} {pk : Int32} {kw : Int64} {sc : Int32} {pn : Int32} {cell : Int32} (res : Int32) (hf : f_X1_hasCube cu cell = some res) : Con l E yX1_hasCube (.code yX1_hasCube cX1_hasCube 2 (some .boolean) :: TT) ({ frames := 0, cells := 0, slots := 0, locals := 0 } : Room) 0 0 [.ref a, .int cell] (wPc σ a ss ps hv oo cu mm sk pk kw sc pn) n (some (.int res)) (wPc σ a ss ps hv oo cu mm sk pk kw sc pn) n := by
  refine con_intro (by decide +kernel) (Nat.le_of_ble_eq_true rfl) ?_
  intro K C hKR hKL hKE hKN hKQ
  subst hKL
  subst hKE
  have C : Cx K RX1 "hasCube" cX1_hasCube (some .boolean) := C
  show G K 0 0 0 [(0, .ref a), (1, .int cell)] [] (wPc σ a ss ps hv oo cu mm sk pk kw sc pn) n
  unfold f_X1_hasCube at hf
  refine g_aload_n C rfl (q := 0) rfl dX1_hasCube_0 rfl ?_
  refine g_get C fc_X1 4 (by decide) wf_RX1_24 (wL_at0 rfl) rfl dX1_hasCube_1 rfl ?_
  refine g_iload_n C rfl (q := 1) rfl dX1_hasCube_4 rfl ?_
  refine g_lushr C dX1_hasCube_5 rfl ?_
  refine g_lconst (v := 1) C (by decide) dX1_hasCube_6 rfl ?_
  refine g_land C dX1_hasCube_7 rfl ?_
  refine g_lconst (v := 0) C (by decide) dX1_hasCube_8 rfl ?_
  have j2 : G K 0 0 18 [(0, .ref a), (1, .int cell)] [.int (if (((cu.toUInt64 >>> (cell.toInt64.toUInt64 &&& Int64.toUInt64 63)).toInt64) &&& (1 : Int64)) = (0 : Int64) then (0 : Int32) else (1 : Int32))] (wPc σ a ss ps hv oo cu mm sk pk kw sc pn) n := by
    obtain ⟨g1, hf⟩ := gd hf
    cases hf
    exact g_zret C (bOk_n g1) hKQ dX1_hasCube_18
  refine g_lif_eq (tgt := 17) C dX1_hasCube_9 rfl dX1_hasCube_10 (by decide) rfl (fun c3 => ?_) (fun c3 => ?_)
  · refine g_iconst (v := 0) C (by decide) dX1_hasCube_17 rfl ?_
    exact g_topI (by rw [if_pos c3]) j2
  · refine g_iconst (v := 1) C (by decide) dX1_hasCube_13 rfl ?_
    refine g_goto (pc' := 18) C dX1_hasCube_14 (by decide) ?_
    exact g_topI (by rw [if_neg c3]) j2
def f_X1_cubeCount (cu : Int64) : Option Int32 := ((f_J13_bitCount_95d88 cu).bind fun q1 => some q1)
set_option maxHeartbeats 2000000 in
set_option maxRecDepth 20000 in
theorem c_X1_cubeCount {l : Launch} {E : Ex} {n : Nat} {σ : AH} {a : Nat} {ss : Nat → Int64} {ps : Nat → Int64} {hv : Nat → Int64} {oo : Nat → Int64} {cu : Int64} {mm : Int32} {sk : Int32} {pk : Int32} {kw : Int64} {sc : Int32} {pn : Int32}  (res : Int32) (hf : f_X1_cubeCount cu = some res) : Con l E yX1_cubeCount (.code yX1_cubeCount cX1_cubeCount 1 (some .int) :: TT) ({ frames := 1, cells := 0, slots := 0, locals := 21 } : Room) 0 0 [.ref a] (wPc σ a ss ps hv oo cu mm sk pk kw sc pn) n (some (.int res)) (wPc σ a ss ps hv oo cu mm sk pk kw sc pn) n := by
  refine con_intro (by decide +kernel) (Nat.le_of_ble_eq_true rfl) ?_
  intro K C hKR hKL hKE hKN hKQ
  subst hKL
  subst hKE
  have C : Cx K RX1 "cubeCount" cX1_cubeCount (some .int) := C
  show G K 0 0 0 [(0, .ref a)] [] (wPc σ a ss ps hv oo cu mm sk pk kw sc pn) n
  unfold f_X1_cubeCount at hf
  refine g_aload_n C rfl (q := 0) rfl dX1_cubeCount_0 rfl ?_
  refine g_get C fc_X1 4 (by decide) wf_RX1_24 (wL_at0 rfl) rfl dX1_cubeCount_1 rfl ?_
  obtain ⟨q1, hq1, hf⟩ := bd hf
  refine g_callS0 (st' := []) (as := [.long cu]) (st2 := [.int q1]) (k := 1) C ⟨wm_RX1_28, ws_J13_bitCount_95d88, wi_RJ13, wk_J13_bitCount_95d88, by decide +kernel⟩ (c_J13_bitCount_95d88 (l := kL K) (E := kE K)  _ hq1) (by rw [hKR]; exact ⟨rfl, rfl, ⟨by decide, by decide⟩, by decide, by decide⟩) rfl rfl (by simp) rfl dX1_cubeCount_4 rfl ?_
  cases hf
  exact g_iret C hKQ dX1_cubeCount_7
def f_X1_forget  : Option (Int32 × Int32) := some ((0 : Int32), (0 : Int32))
set_option maxHeartbeats 2000000 in
set_option maxRecDepth 20000 in
theorem c_X1_forget {l : Launch} {E : Ex} {n : Nat} {σ : AH} {a : Nat} {ss : Nat → Int64} {ps : Nat → Int64} {hv : Nat → Int64} {oo : Nat → Int64} {cu : Int64} {mm : Int32} {sk : Int32} {pk : Int32} {kw : Int64} {sc : Int32} {pn : Int32}  (res : (Int32 × Int32)) (hf : f_X1_forget  = some res) : Con l E yX1_forget (.code yX1_forget cX1_forget 1 none :: TT) ({ frames := 0, cells := 0, slots := 0, locals := 0 } : Room) 0 0 [.ref a] (wPc σ a ss ps hv oo cu mm sk pk kw sc pn) n none (wPc σ a ss ps hv oo cu mm res.1 res.2 kw sc pn) n := by
  refine con_intro (by decide +kernel) (Nat.le_of_ble_eq_true rfl) ?_
  intro K C hKR hKL hKE hKN hKQ
  subst hKL
  subst hKE
  have C : Cx K RX1 "forget" cX1_forget none := C
  show G K 0 0 0 [(0, .ref a)] [] (wPc σ a ss ps hv oo cu mm sk pk kw sc pn) n
  unfold f_X1_forget at hf
  refine g_aload_n C rfl (q := 0) rfl dX1_forget_0 rfl ?_
  refine g_iconst (v := 0) C (by decide) dX1_forget_1 rfl ?_
  refine g_put (h' := (wPc σ a ss ps hv oo cu mm (0 : Int32) pk kw sc pn)) C fc_X1 6 (by decide) wf_RX1_72 rfl rfl rfl (Nat.le_of_ble_eq_true rfl) (wL_at0 rfl) (wL_up0 (Nat.le_of_ble_eq_true rfl) rfl) dX1_forget_2 rfl ?_
  refine g_aload_n C rfl (q := 0) rfl dX1_forget_5 rfl ?_
  refine g_iconst (v := 0) C (by decide) dX1_forget_6 rfl ?_
  refine g_put (h' := (wPc σ a ss ps hv oo cu mm (0 : Int32) (0 : Int32) kw sc pn)) C fc_X1 7 (by decide) wf_RX1_55 rfl rfl rfl (Nat.le_of_ble_eq_true rfl) (wL_at0 rfl) (wL_up0 (Nat.le_of_ble_eq_true rfl) rfl) dX1_forget_7 rfl ?_
  cases hf
  exact g_vret C hKQ dX1_forget_10
def f_X1_flipCube (cu : Int64) (cell : Int32) : Option (Int64 × Int32 × Int32) := ((f_X1_forget ).bind fun q1 => some (cu ^^^ ((1 : Int64) <<< (cell.toInt64 &&& 63)), q1.1, q1.2))
set_option maxHeartbeats 2000000 in
set_option maxRecDepth 20000 in
theorem c_X1_flipCube {l : Launch} {E : Ex} {n : Nat} {σ : AH} {a : Nat} {ss : Nat → Int64} {ps : Nat → Int64} {hv : Nat → Int64} {oo : Nat → Int64} {cu : Int64} {mm : Int32} {sk : Int32} {pk : Int32} {kw : Int64} {sc : Int32} {pn : Int32} {cell : Int32} (res : (Int64 × Int32 × Int32)) (hf : f_X1_flipCube cu cell = some res) : Con l E yX1_flipCube (.code yX1_flipCube cX1_flipCube 2 none :: TT) ({ frames := 1, cells := 0, slots := 0, locals := 20 } : Room) 0 0 [.ref a, .int cell] (wPc σ a ss ps hv oo cu mm sk pk kw sc pn) n none (wPc σ a ss ps hv oo res.1 mm res.2.1 res.2.2 kw sc pn) n := by
  refine con_intro (by decide +kernel) (Nat.le_of_ble_eq_true rfl) ?_
  intro K C hKR hKL hKE hKN hKQ
  subst hKL
  subst hKE
  have C : Cx K RX1 "flipCube" cX1_flipCube none := C
  show G K 0 0 0 [(0, .ref a), (1, .int cell)] [] (wPc σ a ss ps hv oo cu mm sk pk kw sc pn) n
  unfold f_X1_flipCube at hf
  refine g_aload_n C rfl (q := 0) rfl dX1_flipCube_0 rfl ?_
  refine g_dup C rfl dX1_flipCube_1 rfl ?_
  refine g_get C fc_X1 4 (by decide) wf_RX1_24 (wL_at0 rfl) rfl dX1_flipCube_2 rfl ?_
  refine g_lconst (v := 1) C (by decide) dX1_flipCube_5 rfl ?_
  refine g_iload_n C rfl (q := 1) rfl dX1_flipCube_6 rfl ?_
  refine g_lshl C dX1_flipCube_7 rfl ?_
  refine g_lxor C dX1_flipCube_8 rfl ?_
  refine g_put (h' := (wPc σ a ss ps hv oo (cu ^^^ ((1 : Int64) <<< (cell.toInt64 &&& 63))) mm sk pk kw sc pn)) C fc_X1 4 (by decide) wf_RX1_24 rfl rfl rfl (Nat.le_of_ble_eq_true rfl) (wL_at0 rfl) (wL_up0 (Nat.le_of_ble_eq_true rfl) rfl) dX1_flipCube_9 rfl ?_
  refine g_aload_n C rfl (q := 0) rfl dX1_flipCube_12 rfl ?_
  obtain ⟨q1, hq1, hf⟩ := bd hf
  refine g_callV0 (st' := []) (as := []) (st2 := []) (k := 0) C ⟨wm_RX1_34, wn_X1_forget, wv_X1_forget, wi_RX1, wk_X1_forget, by decide +kernel⟩ rfl (wL_at0 rfl) (c_X1_forget (l := kL K) (E := kE K)  _ hq1) (by rw [hKR]; exact ⟨rfl, rfl, ⟨by decide, by decide⟩, by decide, by decide⟩) rfl rfl (by simp) rfl dX1_flipCube_13 rfl ?_
  cases hf
  exact g_vret C hKQ dX1_flipCube_16
def f_X1_allowMirror (may : Int32) : Option (Int32 × Int32 × Int32) := (if bOk may = true then ((f_X1_forget ).bind fun q1 => some (may, q1.1, q1.2)) else none)
set_option maxHeartbeats 2000000 in
set_option maxRecDepth 20000 in
theorem c_X1_allowMirror {l : Launch} {E : Ex} {n : Nat} {σ : AH} {a : Nat} {ss : Nat → Int64} {ps : Nat → Int64} {hv : Nat → Int64} {oo : Nat → Int64} {cu : Int64} {mm : Int32} {sk : Int32} {pk : Int32} {kw : Int64} {sc : Int32} {pn : Int32} {may : Int32} (res : (Int32 × Int32 × Int32)) (hf : f_X1_allowMirror may = some res) : Con l E yX1_allowMirror (.code yX1_allowMirror cX1_allowMirror 2 none :: TT) ({ frames := 1, cells := 0, slots := 0, locals := 20 } : Room) 0 0 [.ref a, .int may] (wPc σ a ss ps hv oo cu mm sk pk kw sc pn) n none (wPc σ a ss ps hv oo cu res.1 res.2.1 res.2.2 kw sc pn) n := by
  refine con_intro (by decide +kernel) (Nat.le_of_ble_eq_true rfl) ?_
  intro K C hKR hKL hKE hKN hKQ
  subst hKL
  subst hKE
  have C : Cx K RX1 "allowMirror" cX1_allowMirror none := C
  show G K 0 0 0 [(0, .ref a), (1, .int may)] [] (wPc σ a ss ps hv oo cu mm sk pk kw sc pn) n
  unfold f_X1_allowMirror at hf
  refine g_aload_n C rfl (q := 0) rfl dX1_allowMirror_0 rfl ?_
  refine g_iload_n C rfl (q := 1) rfl dX1_allowMirror_1 rfl ?_
  obtain ⟨g2, hf⟩ := gd hf
  refine g_put (h' := (wPc σ a ss ps hv oo cu may sk pk kw sc pn)) C fc_X1 5 (by decide) wf_RX1_37 rfl (bOk_n g2) (bOk_f g2) (Nat.le_of_ble_eq_true rfl) (wL_at0 rfl) (wL_up0 (Nat.le_of_ble_eq_true rfl) rfl) dX1_allowMirror_2 rfl ?_
  refine g_aload_n C rfl (q := 0) rfl dX1_allowMirror_5 rfl ?_
  obtain ⟨q1, hq1, hf⟩ := bd hf
  refine g_callV0 (st' := []) (as := []) (st2 := []) (k := 0) C ⟨wm_RX1_34, wn_X1_forget, wv_X1_forget, wi_RX1, wk_X1_forget, by decide +kernel⟩ rfl (wL_at0 rfl) (c_X1_forget (l := kL K) (E := kE K)  _ hq1) (by rw [hKR]; exact ⟨rfl, rfl, ⟨by decide, by decide⟩, by decide, by decide⟩) rfl rfl (by simp) rfl dX1_allowMirror_6 rfl ?_
  cases hf
  exact g_vret C hKQ dX1_allowMirror_9
def f_X1_addShape_2  (l1 : Int64) (ss : Nat → Int64) (sc : Int32) : Nat → Int32 → Option Int32
  | 0, _ => none
  | fu + 1, l3 => (if sc ≤ l3 then some l3 else (if inB l3 48 = true then ((f_X0_isBelow (ss l3.toNatClampNeg) l1).bind fun q11 => (if q11 = 0 then some l3 else f_X1_addShape_2 l1 ss sc fu (l3 + (1 : Int32)))) else none))
def f_X1_addShape_64  (l3 : Int32) : Nat → Int32 → (Nat → Int64) → Option (Nat → Int64)
  | 0, _, _ => none
  | fu + 1, l4, ss => (if l4 ≤ l3 then some ss else (if inB (l4 - (1 : Int32)) 48 = true then (if inB l4 48 = true then f_X1_addShape_64 l3 fu (l4 + (-1 : Int32)) (va_up ss l4.toNatClampNeg (ss (l4 - (1 : Int32)).toNatClampNeg)) else none) else none))
def f_X1_addShape (fu : Nat) (ss : Nat → Int64) (sc : Int32) (set : Int64) : Option ((Nat → Int64) × Int32) := ((f_X1_addShape_2 set ss sc fu (0 : Int32)).bind fun q13 => (if sc ≤ q13 then (if sc < (48 : Int32) then ((f_X1_addShape_64 q13 fu sc ss).bind fun q25 => (if inB q13 48 = true then some (va_up q25 q13.toNatClampNeg set, sc + (1 : Int32)) else none)) else some (ss, sc)) else (if inB q13 48 = true then (if (ss q13.toNatClampNeg) = set then some (ss, sc) else (if sc < (48 : Int32) then ((f_X1_addShape_64 q13 fu sc ss).bind fun q30 => (if inB q13 48 = true then some (va_up q30 q13.toNatClampNeg set, sc + (1 : Int32)) else none)) else some (ss, sc))) else none)))
set_option maxHeartbeats 2000000 in
set_option maxRecDepth 20000 in
theorem g_X1_addShape_2 {K : KX} {n : Nat} {σ : AH} {a : Nat} {l1 : Int64} {ss : Nat → Int64} {ps : Nat → Int64} {hv : Nat → Int64} {oo : Nat → Int64} {cu : Int64} {mm : Int32} {sk : Int32} {pk : Int32} {kw : Int64} {sc : Int32} {pn : Int32} (C : Cx K RX1 "addShape" cX1_addShape none) (hKR : kR K = ({ frames := 1, cells := 0, slots := 0, locals := 23 } : Room)) (hKN : kN K = 5) : ∀ (fu : Nat) (l3 : Int32) (res : Int32), f_X1_addShape_2 l1 ss sc fu l3 = some res → G K 0 0 29 [(0, .ref a), (1, .long l1), (3, .int res)] [] (wPc σ a ss ps hv oo cu mm sk pk kw sc pn) n → G K 0 0 2 [(0, .ref a), (1, .long l1), (3, .int l3)] [] (wPc σ a ss ps hv oo cu mm sk pk kw sc pn) n := by
  intro fu
  induction fu with
  | zero =>
    intro l3 res hf
    exact absurd hf (by simp [f_X1_addShape_2])
  | succ fu ih =>
    intro l3 res hf hx
    rw [f_X1_addShape_2] at hf
    refine g_iload_n C rfl (q := 2) rfl dX1_addShape_2 rfl ?_
    refine g_aload_n C rfl (q := 0) rfl dX1_addShape_3 rfl ?_
    refine g_get C fc_X1 9 (by decide) wf_RX1_44 (wL_at0 rfl) rfl dX1_addShape_4 rfl ?_
    refine g_icmp_ge (tgt := 29) C dX1_addShape_7 (by decide) rfl (fun c9 => ?_) (fun c9 => ?_)
    · replace hf := ift c9 hf
      cases hf
      exact hx
    · replace hf := iff' c9 hf
      refine g_aload_n C rfl (q := 0) rfl dX1_addShape_10 rfl ?_
      refine g_get C fc_X1 0 (by decide) wf_RX1_11 (wL_at0 rfl) rfl dX1_addShape_11 rfl ?_
      refine g_iload_n C rfl (q := 2) rfl dX1_addShape_14 rfl ?_
      obtain ⟨g10, hf⟩ := gd hf
      refine g_lald C (wL_at 1 rfl) (inB_in g10) dX1_addShape_15 rfl ?_
      refine g_lload_n C rfl (q := 1) rfl dX1_addShape_16 rfl ?_
      obtain ⟨q11, hq11, hf⟩ := bd hf
      refine g_callS0 (st' := []) (as := [.long (ss l3.toNatClampNeg), .long l1]) (st2 := [.int q11]) (k := 2) C ⟨wm_RX1_97, ws_X0_isBelow, wi_RX0, wk_X0_isBelow, by decide +kernel⟩ (c_X0_isBelow (l := kL K) (E := kE K)  _ hq11) (by rw [hKR]; exact ⟨rfl, rfl, ⟨by decide, by decide⟩, by decide, by decide⟩) rfl rfl (by simp) rfl dX1_addShape_17 rfl ?_
      refine g_if_eq (tgt := 29) C dX1_addShape_20 (by decide) rfl (fun c12 => ?_) (fun c12 => ?_)
      · replace hf := ift c12 hf
        cases hf
        exact hx
      · replace hf := iff' c12 hf
        refine g_iinc (v := l3 + (1 : Int32)) (lv' := [(3, .int (l3 + (1 : Int32))), (0, .ref a), (1, .long l1)]) (q := 2) C dX1_addShape_23 rfl rfl rfl (by rw [hKN]; decide) rfl ?_
        refine g_goto (pc' := 2) C dX1_addShape_26 (by decide) ?_
        refine g_sub (lv' := [(0, .ref a), (1, .long l1), (3, .int (l3 + (1 : Int32)))]) [1, 2, 0] rfl ?_
        exact ih _ _ hf hx
set_option maxHeartbeats 2000000 in
set_option maxRecDepth 20000 in
theorem g_X1_addShape_64 {K : KX} {n : Nat} {σ : AH} {a : Nat} {l1 : Int64} {l3 : Int32} {ps : Nat → Int64} {hv : Nat → Int64} {oo : Nat → Int64} {cu : Int64} {mm : Int32} {sk : Int32} {pk : Int32} {kw : Int64} {sc : Int32} {pn : Int32} (C : Cx K RX1 "addShape" cX1_addShape none) (hKR : kR K = ({ frames := 1, cells := 0, slots := 0, locals := 23 } : Room)) (hKN : kN K = 5) : ∀ (fu : Nat) (l4 : Int32) (ss : Nat → Int64) (res : (Nat → Int64)), f_X1_addShape_64 l3 fu l4 ss = some res → G K 0 0 92 [(0, .ref a), (1, .long l1), (3, .int l3)] [] (wPc σ a res ps hv oo cu mm sk pk kw sc pn) n → G K 0 0 64 [(0, .ref a), (1, .long l1), (3, .int l3), (4, .int l4)] [] (wPc σ a ss ps hv oo cu mm sk pk kw sc pn) n := by
  intro fu
  induction fu with
  | zero =>
    intro l4 ss res hf
    exact absurd hf (by simp [f_X1_addShape_64])
  | succ fu ih =>
    intro l4 ss res hf hx
    rw [f_X1_addShape_64] at hf
    refine g_iload C (q := 3) rfl dX1_addShape_64 rfl ?_
    refine g_iload_n C rfl (q := 2) rfl dX1_addShape_66 rfl ?_
    refine g_icmp_le (tgt := 92) C dX1_addShape_67 (by decide) rfl (fun c22 => ?_) (fun c22 => ?_)
    · replace hf := ift c22 hf
      cases hf
      refine g_sub (lv' := [(0, .ref a), (1, .long l1), (3, .int l3)]) [0, 1, 2] rfl ?_
      exact hx
    · replace hf := iff' c22 hf
      refine g_aload_n C rfl (q := 0) rfl dX1_addShape_70 rfl ?_
      refine g_get C fc_X1 0 (by decide) wf_RX1_11 (wL_at0 rfl) rfl dX1_addShape_71 rfl ?_
      refine g_iload C (q := 3) rfl dX1_addShape_74 rfl ?_
      refine g_aload_n C rfl (q := 0) rfl dX1_addShape_76 rfl ?_
      refine g_get C fc_X1 0 (by decide) wf_RX1_11 (wL_at0 rfl) rfl dX1_addShape_77 rfl ?_
      refine g_iload C (q := 3) rfl dX1_addShape_80 rfl ?_
      refine g_iconst (v := 1) C (by decide) dX1_addShape_82 rfl ?_
      refine g_isub C dX1_addShape_83 rfl ?_
      obtain ⟨g23, hf⟩ := gd hf
      refine g_lald C (wL_at 1 rfl) (inB_in g23) dX1_addShape_84 rfl ?_
      obtain ⟨g24, hf⟩ := gd hf
      refine g_last (h' := (wPc σ a (va_up ss l4.toNatClampNeg (ss (l4 - (1 : Int32)).toNatClampNeg)) ps hv oo cu mm sk pk kw sc pn)) C (wL_at 1 rfl) (inB_in g24) (wL_up 1 (Nat.le_of_ble_eq_true rfl) rfl) dX1_addShape_85 rfl ?_
      refine g_iinc (v := l4 + (-1 : Int32)) (lv' := [(4, .int (l4 + (-1 : Int32))), (0, .ref a), (1, .long l1), (3, .int l3)]) (q := 3) C dX1_addShape_86 rfl rfl rfl (by rw [hKN]; decide) rfl ?_
      refine g_goto (pc' := 64) C dX1_addShape_89 (by decide) ?_
      refine g_sub (lv' := [(0, .ref a), (1, .long l1), (3, .int l3), (4, .int (l4 + (-1 : Int32)))]) [1, 2, 3, 0] rfl ?_
      exact ih _ _ _ hf hx
set_option maxHeartbeats 2000000 in
set_option maxRecDepth 20000 in
theorem c_X1_addShape {l : Launch} {E : Ex} {n : Nat} {σ : AH} {a : Nat} {ss : Nat → Int64} {ps : Nat → Int64} {hv : Nat → Int64} {oo : Nat → Int64} {cu : Int64} {mm : Int32} {sk : Int32} {pk : Int32} {kw : Int64} {sc : Int32} {pn : Int32} {set : Int64} {fu : Nat} (res : ((Nat → Int64) × Int32)) (hf : f_X1_addShape fu ss sc set = some res) : Con l E yX1_addShape (.code yX1_addShape cX1_addShape 5 none :: TT) ({ frames := 1, cells := 0, slots := 0, locals := 23 } : Room) 0 0 [.ref a, .long set] (wPc σ a ss ps hv oo cu mm sk pk kw sc pn) n none (wPc σ a res.1 ps hv oo cu mm sk pk kw res.2 pn) n := by
  refine con_intro (by decide +kernel) (Nat.le_of_ble_eq_true rfl) ?_
  intro K C hKR hKL hKE hKN hKQ
  subst hKL
  subst hKE
  have C : Cx K RX1 "addShape" cX1_addShape none := C
  show G K 0 0 0 [(0, .ref a), (1, .long set)] [] (wPc σ a ss ps hv oo cu mm sk pk kw sc pn) n
  unfold f_X1_addShape at hf
  refine g_iconst (v := 0) C (by decide) dX1_addShape_0 rfl ?_
  refine g_istore_n (i := 3) (lv' := [(3, .int (0 : Int32)), (0, .ref a), (1, .long set)]) C dX1_addShape_1 rfl rfl (by rw [hKN]; decide) rfl ?_
  refine g_sub (lv' := [(0, .ref a), (1, .long set), (3, .int (0 : Int32))]) [1, 2, 0] rfl ?_
  obtain ⟨q13, hq13, hf⟩ := bd hf
  refine g_X1_addShape_2 (l1 := set) (ss := ss) (ps := ps) (hv := hv) (oo := oo) (cu := cu) (mm := mm) (sk := sk) (pk := pk) (kw := kw) (sc := sc) (pn := pn) C hKR hKN _ _ _ hq13 ?_
  refine g_iload_n C rfl (q := 2) rfl dX1_addShape_29 rfl ?_
  refine g_aload_n C rfl (q := 0) rfl dX1_addShape_30 rfl ?_
  refine g_get C fc_X1 9 (by decide) wf_RX1_44 (wL_at0 rfl) rfl dX1_addShape_31 rfl ?_
  refine g_icmp_ge (tgt := 48) C dX1_addShape_34 (by decide) rfl (fun c14 => ?_) (fun c14 => ?_)
  · replace hf := ift c14 hf
    refine g_aload_n C rfl (q := 0) rfl dX1_addShape_48 rfl ?_
    refine g_get C fc_X1 9 (by decide) wf_RX1_44 (wL_at0 rfl) rfl dX1_addShape_49 rfl ?_
    refine g_bipush (v := 48) C (by decide) dX1_addShape_52 rfl ?_
    refine g_icmp_lt (tgt := 58) C dX1_addShape_54 (by decide) rfl (fun c15 => ?_) (fun c15 => ?_)
    · replace hf := ift c15 hf
      refine g_aload_n C rfl (q := 0) rfl dX1_addShape_58 rfl ?_
      refine g_get C fc_X1 9 (by decide) wf_RX1_44 (wL_at0 rfl) rfl dX1_addShape_59 rfl ?_
      refine g_istore (i := 4) (lv' := [(4, .int sc), (0, .ref a), (1, .long set), (3, .int q13)]) C dX1_addShape_62 rfl (by rw [hKN]; decide) rfl ?_
      refine g_sub (lv' := [(0, .ref a), (1, .long set), (3, .int q13), (4, .int sc)]) [1, 2, 3, 0] rfl ?_
      obtain ⟨q25, hq25, hf⟩ := bd hf
      refine g_X1_addShape_64 (l1 := set) (l3 := q13) (ps := ps) (hv := hv) (oo := oo) (cu := cu) (mm := mm) (sk := sk) (pk := pk) (kw := kw) (sc := sc) (pn := pn) C hKR hKN _ _ _ _ hq25 ?_
      refine g_aload_n C rfl (q := 0) rfl dX1_addShape_92 rfl ?_
      refine g_get C fc_X1 0 (by decide) wf_RX1_11 (wL_at0 rfl) rfl dX1_addShape_93 rfl ?_
      refine g_iload_n C rfl (q := 2) rfl dX1_addShape_96 rfl ?_
      refine g_lload_n C rfl (q := 1) rfl dX1_addShape_97 rfl ?_
      obtain ⟨g26, hf⟩ := gd hf
      refine g_last (h' := (wPc σ a (va_up q25 q13.toNatClampNeg set) ps hv oo cu mm sk pk kw sc pn)) C (wL_at 1 rfl) (inB_in g26) (wL_up 1 (Nat.le_of_ble_eq_true rfl) rfl) dX1_addShape_98 rfl ?_
      refine g_aload_n C rfl (q := 0) rfl dX1_addShape_99 rfl ?_
      refine g_dup C rfl dX1_addShape_100 rfl ?_
      refine g_get C fc_X1 9 (by decide) wf_RX1_44 (wL_at0 rfl) rfl dX1_addShape_101 rfl ?_
      refine g_iconst (v := 1) C (by decide) dX1_addShape_104 rfl ?_
      refine g_iadd C dX1_addShape_105 rfl ?_
      refine g_put (h' := (wPc σ a (va_up q25 q13.toNatClampNeg set) ps hv oo cu mm sk pk kw (sc + (1 : Int32)) pn)) C fc_X1 9 (by decide) wf_RX1_44 rfl rfl rfl (Nat.le_of_ble_eq_true rfl) (wL_at0 rfl) (wL_up0 (Nat.le_of_ble_eq_true rfl) rfl) dX1_addShape_106 rfl ?_
      cases hf
      exact g_vret C hKQ dX1_addShape_109
    · replace hf := iff' c15 hf
      cases hf
      exact g_vret C hKQ dX1_addShape_57
  · replace hf := iff' c14 hf
    refine g_aload_n C rfl (q := 0) rfl dX1_addShape_37 rfl ?_
    refine g_get C fc_X1 0 (by decide) wf_RX1_11 (wL_at0 rfl) rfl dX1_addShape_38 rfl ?_
    refine g_iload_n C rfl (q := 2) rfl dX1_addShape_41 rfl ?_
    obtain ⟨g27, hf⟩ := gd hf
    refine g_lald C (wL_at 1 rfl) (inB_in g27) dX1_addShape_42 rfl ?_
    refine g_lload_n C rfl (q := 1) rfl dX1_addShape_43 rfl ?_
    refine g_lif_eq (tgt := 57) C dX1_addShape_44 rfl dX1_addShape_45 (by decide) rfl (fun c28 => ?_) (fun c28 => ?_)
    · replace hf := ift c28 hf
      cases hf
      exact g_vret C hKQ dX1_addShape_57
    · replace hf := iff' c28 hf
      refine g_aload_n C rfl (q := 0) rfl dX1_addShape_48 rfl ?_
      refine g_get C fc_X1 9 (by decide) wf_RX1_44 (wL_at0 rfl) rfl dX1_addShape_49 rfl ?_
      refine g_bipush (v := 48) C (by decide) dX1_addShape_52 rfl ?_
      refine g_icmp_lt (tgt := 58) C dX1_addShape_54 (by decide) rfl (fun c29 => ?_) (fun c29 => ?_)
      · replace hf := ift c29 hf
        refine g_aload_n C rfl (q := 0) rfl dX1_addShape_58 rfl ?_
        refine g_get C fc_X1 9 (by decide) wf_RX1_44 (wL_at0 rfl) rfl dX1_addShape_59 rfl ?_
        refine g_istore (i := 4) (lv' := [(4, .int sc), (0, .ref a), (1, .long set), (3, .int q13)]) C dX1_addShape_62 rfl (by rw [hKN]; decide) rfl ?_
        refine g_sub (lv' := [(0, .ref a), (1, .long set), (3, .int q13), (4, .int sc)]) [1, 2, 3, 0] rfl ?_
        obtain ⟨q30, hq30, hf⟩ := bd hf
        refine g_X1_addShape_64 (l1 := set) (l3 := q13) (ps := ps) (hv := hv) (oo := oo) (cu := cu) (mm := mm) (sk := sk) (pk := pk) (kw := kw) (sc := sc) (pn := pn) C hKR hKN _ _ _ _ hq30 ?_
        refine g_aload_n C rfl (q := 0) rfl dX1_addShape_92 rfl ?_
        refine g_get C fc_X1 0 (by decide) wf_RX1_11 (wL_at0 rfl) rfl dX1_addShape_93 rfl ?_
        refine g_iload_n C rfl (q := 2) rfl dX1_addShape_96 rfl ?_
        refine g_lload_n C rfl (q := 1) rfl dX1_addShape_97 rfl ?_
        obtain ⟨g31, hf⟩ := gd hf
        refine g_last (h' := (wPc σ a (va_up q30 q13.toNatClampNeg set) ps hv oo cu mm sk pk kw sc pn)) C (wL_at 1 rfl) (inB_in g31) (wL_up 1 (Nat.le_of_ble_eq_true rfl) rfl) dX1_addShape_98 rfl ?_
        refine g_aload_n C rfl (q := 0) rfl dX1_addShape_99 rfl ?_
        refine g_dup C rfl dX1_addShape_100 rfl ?_
        refine g_get C fc_X1 9 (by decide) wf_RX1_44 (wL_at0 rfl) rfl dX1_addShape_101 rfl ?_
        refine g_iconst (v := 1) C (by decide) dX1_addShape_104 rfl ?_
        refine g_iadd C dX1_addShape_105 rfl ?_
        refine g_put (h' := (wPc σ a (va_up q30 q13.toNatClampNeg set) ps hv oo cu mm sk pk kw (sc + (1 : Int32)) pn)) C fc_X1 9 (by decide) wf_RX1_44 rfl rfl rfl (Nat.le_of_ble_eq_true rfl) (wL_at0 rfl) (wL_up0 (Nat.le_of_ble_eq_true rfl) rfl) dX1_addShape_106 rfl ?_
        cases hf
        exact g_vret C hKQ dX1_addShape_109
      · replace hf := iff' c29 hf
        cases hf
        exact g_vret C hKQ dX1_addShape_57
def f_X1_learnShapes_25  (cu : Int64) (mm : Int32) : Nat → Int32 → (Nat → Int64) → Int32 → Option ((Nat → Int64) × Int32)
  | 0, _, _, _ => none
  | fu + 1, l1, ss, sc => (if (48 : Int32) ≤ l1 then some (ss, sc) else (if mm = 0 then ((f_X0_mirrors l1).bind fun q29 => (if q29 = 0 then ((f_X0_turned fu cu l1).bind fun q31 => ((f_X0_settled fu q31).bind fun q32 => ((f_X1_addShape fu ss sc q32).bind fun q33 => f_X1_learnShapes_25 cu mm fu (l1 + (1 : Int32)) q33.1 q33.2))) else f_X1_learnShapes_25 cu mm fu (l1 + (1 : Int32)) ss sc)) else ((f_X0_turned fu cu l1).bind fun q26 => ((f_X0_settled fu q26).bind fun q27 => ((f_X1_addShape fu ss sc q27).bind fun q28 => f_X1_learnShapes_25 cu mm fu (l1 + (1 : Int32)) q28.1 q28.2)))))
def f_X1_learnShapes (fu : Nat) (ss : Nat → Int64) (cu : Int64) (mm : Int32) (sk : Int32) (sc : Int32) : Option ((Nat → Int64) × Int32 × Int32) := (if sk = 0 then ((f_X0_hangsTogether fu cu).bind fun q2 => (if q2 = 0 then some (ss, (1 : Int32), (0 : Int32)) else ((f_X1_learnShapes_25 cu mm fu (0 : Int32) ss (0 : Int32)).bind fun q34 => some (q34.1, (1 : Int32), q34.2)))) else some (ss, sk, sc))
set_option maxHeartbeats 2000000 in
set_option maxRecDepth 20000 in
theorem g_X1_learnShapes_25 {K : KX} {n : Nat} {σ : AH} {a : Nat} {ps : Nat → Int64} {hv : Nat → Int64} {oo : Nat → Int64} {cu : Int64} {mm : Int32} {sk : Int32} {pk : Int32} {kw : Int64} {pn : Int32} (C : Cx K RX1 "learnShapes" cX1_learnShapes none) (hKR : kR K = ({ frames := 3, cells := 0, slots := 0, locals := 75 } : Room)) (hKN : kN K = 2) : ∀ (fu : Nat) (l1 : Int32) (ss : Nat → Int64) (sc : Int32) (res : ((Nat → Int64) × Int32)), f_X1_learnShapes_25 cu mm fu l1 ss sc = some res → G K 0 0 66 [(0, .ref a)] [] (wPc σ a res.1 ps hv oo cu mm sk pk kw res.2 pn) n → G K 0 0 25 [(0, .ref a), (1, .int l1)] [] (wPc σ a ss ps hv oo cu mm sk pk kw sc pn) n := by
  intro fu
  induction fu with
  | zero =>
    intro l1 ss sc res hf
    exact absurd hf (by simp [f_X1_learnShapes_25])
  | succ fu ih =>
    intro l1 ss sc res hf hx
    rw [f_X1_learnShapes_25] at hf
    refine g_iload_n C rfl (q := 1) rfl dX1_learnShapes_25 rfl ?_
    refine g_bipush (v := 48) C (by decide) dX1_learnShapes_26 rfl ?_
    refine g_icmp_ge (tgt := 66) C dX1_learnShapes_28 (by decide) rfl (fun c24 => ?_) (fun c24 => ?_)
    · replace hf := ift c24 hf
      cases hf
      refine g_sub (lv' := [(0, .ref a)]) [0] rfl ?_
      exact hx
    · replace hf := iff' c24 hf
      refine g_aload_n C rfl (q := 0) rfl dX1_learnShapes_31 rfl ?_
      refine g_get C fc_X1 5 (by decide) wf_RX1_37 (wL_at0 rfl) rfl dX1_learnShapes_32 rfl ?_
      refine g_if_ne (tgt := 45) C dX1_learnShapes_35 (by decide) rfl (fun c25 => ?_) (fun c25 => ?_)
      · replace hf := iff' c25 hf
        refine g_aload_n C rfl (q := 0) rfl dX1_learnShapes_45 rfl ?_
        refine g_aload_n C rfl (q := 0) rfl dX1_learnShapes_46 rfl ?_
        refine g_get C fc_X1 4 (by decide) wf_RX1_24 (wL_at0 rfl) rfl dX1_learnShapes_47 rfl ?_
        refine g_iload_n C rfl (q := 1) rfl dX1_learnShapes_50 rfl ?_
        obtain ⟨q26, hq26, hf⟩ := bd hf
        refine g_callS0 (st' := [.ref a]) (as := [.long cu, .int l1]) (st2 := [.long q26, .ref a]) (k := 2) C ⟨wm_RX1_85, ws_X0_turned, wi_RX0, wk_X0_turned, by decide +kernel⟩ (c_X0_turned (l := kL K) (E := kE K)  _ hq26) (by rw [hKR]; exact ⟨rfl, rfl, ⟨by decide, by decide⟩, by decide, by decide⟩) rfl rfl (by simp [Value.category]) rfl dX1_learnShapes_51 rfl ?_
        obtain ⟨q27, hq27, hf⟩ := bd hf
        refine g_callS0 (st' := [.ref a]) (as := [.long q26]) (st2 := [.long q27, .ref a]) (k := 1) C ⟨wm_RX1_89, ws_X0_settled, wi_RX0, wk_X0_settled, by decide +kernel⟩ (c_X0_settled (l := kL K) (E := kE K)  _ hq27) (by rw [hKR]; exact ⟨rfl, rfl, ⟨by decide, by decide⟩, by decide, by decide⟩) rfl rfl (by simp [Value.category]) rfl dX1_learnShapes_54 rfl ?_
        obtain ⟨q28, hq28, hf⟩ := bd hf
        refine g_callV0 (st' := []) (as := [.long q27]) (st2 := []) (k := 1) C ⟨wm_RX1_93, wn_X1_addShape, wv_X1_addShape, wi_RX1, wk_X1_addShape, by decide +kernel⟩ rfl (wL_at0 rfl) (c_X1_addShape (l := kL K) (E := kE K)  _ hq28) (by rw [hKR]; exact ⟨rfl, rfl, ⟨by decide, by decide⟩, by decide, by decide⟩) rfl rfl (by simp) rfl dX1_learnShapes_57 rfl ?_
        refine g_iinc (v := l1 + (1 : Int32)) (lv' := [(1, .int (l1 + (1 : Int32))), (0, .ref a)]) (q := 1) C dX1_learnShapes_60 rfl rfl rfl (by rw [hKN]; decide) rfl ?_
        refine g_goto (pc' := 25) C dX1_learnShapes_63 (by decide) ?_
        refine g_sub (lv' := [(0, .ref a), (1, .int (l1 + (1 : Int32)))]) [1, 0] rfl ?_
        exact ih _ _ _ _ hf hx
      · replace hf := ift c25 hf
        refine g_iload_n C rfl (q := 1) rfl dX1_learnShapes_38 rfl ?_
        obtain ⟨q29, hq29, hf⟩ := bd hf
        refine g_callS0 (st' := []) (as := [.int l1]) (st2 := [.int q29]) (k := 1) C ⟨wm_RX1_81, ws_X0_mirrors, wi_RX0, wk_X0_mirrors, by decide +kernel⟩ (c_X0_mirrors (l := kL K) (E := kE K)  _ hq29) (by rw [hKR]; exact ⟨rfl, rfl, ⟨by decide, by decide⟩, by decide, by decide⟩) rfl rfl (by simp) rfl dX1_learnShapes_39 rfl ?_
        refine g_if_ne (tgt := 60) C dX1_learnShapes_42 (by decide) rfl (fun c30 => ?_) (fun c30 => ?_)
        · replace hf := iff' c30 hf
          refine g_iinc (v := l1 + (1 : Int32)) (lv' := [(1, .int (l1 + (1 : Int32))), (0, .ref a)]) (q := 1) C dX1_learnShapes_60 rfl rfl rfl (by rw [hKN]; decide) rfl ?_
          refine g_goto (pc' := 25) C dX1_learnShapes_63 (by decide) ?_
          refine g_sub (lv' := [(0, .ref a), (1, .int (l1 + (1 : Int32)))]) [1, 0] rfl ?_
          exact ih _ _ _ _ hf hx
        · replace hf := ift c30 hf
          refine g_aload_n C rfl (q := 0) rfl dX1_learnShapes_45 rfl ?_
          refine g_aload_n C rfl (q := 0) rfl dX1_learnShapes_46 rfl ?_
          refine g_get C fc_X1 4 (by decide) wf_RX1_24 (wL_at0 rfl) rfl dX1_learnShapes_47 rfl ?_
          refine g_iload_n C rfl (q := 1) rfl dX1_learnShapes_50 rfl ?_
          obtain ⟨q31, hq31, hf⟩ := bd hf
          refine g_callS0 (st' := [.ref a]) (as := [.long cu, .int l1]) (st2 := [.long q31, .ref a]) (k := 2) C ⟨wm_RX1_85, ws_X0_turned, wi_RX0, wk_X0_turned, by decide +kernel⟩ (c_X0_turned (l := kL K) (E := kE K)  _ hq31) (by rw [hKR]; exact ⟨rfl, rfl, ⟨by decide, by decide⟩, by decide, by decide⟩) rfl rfl (by simp [Value.category]) rfl dX1_learnShapes_51 rfl ?_
          obtain ⟨q32, hq32, hf⟩ := bd hf
          refine g_callS0 (st' := [.ref a]) (as := [.long q31]) (st2 := [.long q32, .ref a]) (k := 1) C ⟨wm_RX1_89, ws_X0_settled, wi_RX0, wk_X0_settled, by decide +kernel⟩ (c_X0_settled (l := kL K) (E := kE K)  _ hq32) (by rw [hKR]; exact ⟨rfl, rfl, ⟨by decide, by decide⟩, by decide, by decide⟩) rfl rfl (by simp [Value.category]) rfl dX1_learnShapes_54 rfl ?_
          obtain ⟨q33, hq33, hf⟩ := bd hf
          refine g_callV0 (st' := []) (as := [.long q32]) (st2 := []) (k := 1) C ⟨wm_RX1_93, wn_X1_addShape, wv_X1_addShape, wi_RX1, wk_X1_addShape, by decide +kernel⟩ rfl (wL_at0 rfl) (c_X1_addShape (l := kL K) (E := kE K)  _ hq33) (by rw [hKR]; exact ⟨rfl, rfl, ⟨by decide, by decide⟩, by decide, by decide⟩) rfl rfl (by simp) rfl dX1_learnShapes_57 rfl ?_
          refine g_iinc (v := l1 + (1 : Int32)) (lv' := [(1, .int (l1 + (1 : Int32))), (0, .ref a)]) (q := 1) C dX1_learnShapes_60 rfl rfl rfl (by rw [hKN]; decide) rfl ?_
          refine g_goto (pc' := 25) C dX1_learnShapes_63 (by decide) ?_
          refine g_sub (lv' := [(0, .ref a), (1, .int (l1 + (1 : Int32)))]) [1, 0] rfl ?_
          exact ih _ _ _ _ hf hx
set_option maxHeartbeats 2000000 in
set_option maxRecDepth 20000 in
theorem c_X1_learnShapes {l : Launch} {E : Ex} {n : Nat} {σ : AH} {a : Nat} {ss : Nat → Int64} {ps : Nat → Int64} {hv : Nat → Int64} {oo : Nat → Int64} {cu : Int64} {mm : Int32} {sk : Int32} {pk : Int32} {kw : Int64} {sc : Int32} {pn : Int32}  {fu : Nat} (res : ((Nat → Int64) × Int32 × Int32)) (hf : f_X1_learnShapes fu ss cu mm sk sc = some res) : Con l E yX1_learnShapes (.code yX1_learnShapes cX1_learnShapes 2 none :: TT) ({ frames := 3, cells := 0, slots := 0, locals := 75 } : Room) 0 0 [.ref a] (wPc σ a ss ps hv oo cu mm sk pk kw sc pn) n none (wPc σ a res.1 ps hv oo cu mm res.2.1 pk kw res.2.2 pn) n := by
  refine con_intro (by decide +kernel) (Nat.le_of_ble_eq_true rfl) ?_
  intro K C hKR hKL hKE hKN hKQ
  subst hKL
  subst hKE
  have C : Cx K RX1 "learnShapes" cX1_learnShapes none := C
  show G K 0 0 0 [(0, .ref a)] [] (wPc σ a ss ps hv oo cu mm sk pk kw sc pn) n
  unfold f_X1_learnShapes at hf
  refine g_aload_n C rfl (q := 0) rfl dX1_learnShapes_0 rfl ?_
  refine g_get C fc_X1 6 (by decide) wf_RX1_72 (wL_at0 rfl) rfl dX1_learnShapes_1 rfl ?_
  refine g_if_eq (tgt := 8) C dX1_learnShapes_4 (by decide) rfl (fun c1 => ?_) (fun c1 => ?_)
  · replace hf := ift c1 hf
    refine g_aload_n C rfl (q := 0) rfl dX1_learnShapes_8 rfl ?_
    refine g_iconst (v := 0) C (by decide) dX1_learnShapes_9 rfl ?_
    refine g_put (h' := (wPc σ a ss ps hv oo cu mm sk pk kw (0 : Int32) pn)) C fc_X1 9 (by decide) wf_RX1_44 rfl rfl rfl (Nat.le_of_ble_eq_true rfl) (wL_at0 rfl) (wL_up0 (Nat.le_of_ble_eq_true rfl) rfl) dX1_learnShapes_10 rfl ?_
    refine g_aload_n C rfl (q := 0) rfl dX1_learnShapes_13 rfl ?_
    refine g_get C fc_X1 4 (by decide) wf_RX1_24 (wL_at0 rfl) rfl dX1_learnShapes_14 rfl ?_
    obtain ⟨q2, hq2, hf⟩ := bd hf
    refine g_callS0 (st' := []) (as := [.long cu]) (st2 := [.int q2]) (k := 1) C ⟨wm_RX1_75, ws_X0_hangsTogether, wi_RX0, wk_X0_hangsTogether, by decide +kernel⟩ (c_X0_hangsTogether (l := kL K) (E := kE K)  _ hq2) (by rw [hKR]; exact ⟨rfl, rfl, ⟨by decide, by decide⟩, by decide, by decide⟩) rfl rfl (by simp) rfl dX1_learnShapes_17 rfl ?_
    refine g_if_eq (tgt := 66) C dX1_learnShapes_20 (by decide) rfl (fun c3 => ?_) (fun c3 => ?_)
    · replace hf := ift c3 hf
      refine g_aload_n C rfl (q := 0) rfl dX1_learnShapes_66 rfl ?_
      refine g_iconst (v := 1) C (by decide) dX1_learnShapes_67 rfl ?_
      refine g_put (h' := (wPc σ a ss ps hv oo cu mm (1 : Int32) pk kw (0 : Int32) pn)) C fc_X1 6 (by decide) wf_RX1_72 rfl rfl rfl (Nat.le_of_ble_eq_true rfl) (wL_at0 rfl) (wL_up0 (Nat.le_of_ble_eq_true rfl) rfl) dX1_learnShapes_68 rfl ?_
      cases hf
      exact g_vret C hKQ dX1_learnShapes_71
    · replace hf := iff' c3 hf
      refine g_iconst (v := 0) C (by decide) dX1_learnShapes_23 rfl ?_
      refine g_istore_n (i := 1) (lv' := [(1, .int (0 : Int32)), (0, .ref a)]) C dX1_learnShapes_24 rfl rfl (by rw [hKN]; decide) rfl ?_
      refine g_sub (lv' := [(0, .ref a), (1, .int (0 : Int32))]) [1, 0] rfl ?_
      obtain ⟨q34, hq34, hf⟩ := bd hf
      refine g_X1_learnShapes_25 (ps := ps) (hv := hv) (oo := oo) (cu := cu) (mm := mm) (sk := sk) (pk := pk) (kw := kw) (pn := pn) C hKR hKN _ _ _ _ _ hq34 ?_
      refine g_aload_n C rfl (q := 0) rfl dX1_learnShapes_66 rfl ?_
      refine g_iconst (v := 1) C (by decide) dX1_learnShapes_67 rfl ?_
      refine g_put (h' := (wPc σ a q34.1 ps hv oo cu mm (1 : Int32) pk kw q34.2 pn)) C fc_X1 6 (by decide) wf_RX1_72 rfl rfl rfl (Nat.le_of_ble_eq_true rfl) (wL_at0 rfl) (wL_up0 (Nat.le_of_ble_eq_true rfl) rfl) dX1_learnShapes_68 rfl ?_
      cases hf
      exact g_vret C hKQ dX1_learnShapes_71
  · replace hf := iff' c1 hf
    cases hf
    exact g_vret C hKQ dX1_learnShapes_7
def f_X1_countShapes (fu : Nat) (ss : Nat → Int64) (cu : Int64) (mm : Int32) (sk : Int32) (sc : Int32) : Option (Int32 × (Nat → Int64) × Int32 × Int32) := ((f_X1_learnShapes fu ss cu mm sk sc).bind fun q1 => some (q1.2.2, q1.1, q1.2.1, q1.2.2))
set_option maxHeartbeats 2000000 in
set_option maxRecDepth 20000 in
theorem c_X1_countShapes {l : Launch} {E : Ex} {n : Nat} {σ : AH} {a : Nat} {ss : Nat → Int64} {ps : Nat → Int64} {hv : Nat → Int64} {oo : Nat → Int64} {cu : Int64} {mm : Int32} {sk : Int32} {pk : Int32} {kw : Int64} {sc : Int32} {pn : Int32}  {fu : Nat} (res : (Int32 × (Nat → Int64) × Int32 × Int32)) (hf : f_X1_countShapes fu ss cu mm sk sc = some res) : Con l E yX1_countShapes (.code yX1_countShapes cX1_countShapes 1 (some .int) :: TT) ({ frames := 4, cells := 0, slots := 0, locals := 96 } : Room) 0 0 [.ref a] (wPc σ a ss ps hv oo cu mm sk pk kw sc pn) n (some (.int res.1)) (wPc σ a res.2.1 ps hv oo cu mm res.2.2.1 pk kw res.2.2.2 pn) n := by
  refine con_intro (by decide +kernel) (Nat.le_of_ble_eq_true rfl) ?_
  intro K C hKR hKL hKE hKN hKQ
  subst hKL
  subst hKE
  have C : Cx K RX1 "countShapes" cX1_countShapes (some .int) := C
  show G K 0 0 0 [(0, .ref a)] [] (wPc σ a ss ps hv oo cu mm sk pk kw sc pn) n
  unfold f_X1_countShapes at hf
  refine g_aload_n C rfl (q := 0) rfl dX1_countShapes_0 rfl ?_
  obtain ⟨q1, hq1, hf⟩ := bd hf
  refine g_callV0 (st' := []) (as := []) (st2 := []) (k := 0) C ⟨wm_RX1_41, wn_X1_learnShapes, wv_X1_learnShapes, wi_RX1, wk_X1_learnShapes, by decide +kernel⟩ rfl (wL_at0 rfl) (c_X1_learnShapes (l := kL K) (E := kE K)  _ hq1) (by rw [hKR]; exact ⟨rfl, rfl, ⟨by decide, by decide⟩, by decide, by decide⟩) rfl rfl (by simp) rfl dX1_countShapes_1 rfl ?_
  refine g_aload_n C rfl (q := 0) rfl dX1_countShapes_4 rfl ?_
  refine g_get C fc_X1 9 (by decide) wf_RX1_44 (wL_at0 rfl) rfl dX1_countShapes_5 rfl ?_
  cases hf
  exact g_iret C hKQ dX1_countShapes_8
def f_X1_shapeAt (ss : Nat → Int64) (k : Int32) : Option Int64 := (if inB k 48 = true then some (ss k.toNatClampNeg) else none)
set_option maxHeartbeats 2000000 in
set_option maxRecDepth 20000 in
theorem c_X1_shapeAt {l : Launch} {E : Ex} {n : Nat} {σ : AH} {a : Nat} {ss : Nat → Int64} {ps : Nat → Int64} {hv : Nat → Int64} {oo : Nat → Int64} {cu : Int64} {mm : Int32} {sk : Int32} {pk : Int32} {kw : Int64} {sc : Int32} {pn : Int32} {k : Int32} (res : Int64) (hf : f_X1_shapeAt ss k = some res) : Con l E yX1_shapeAt (.code yX1_shapeAt cX1_shapeAt 2 (some .long) :: TT) ({ frames := 0, cells := 0, slots := 0, locals := 0 } : Room) 0 0 [.ref a, .int k] (wPc σ a ss ps hv oo cu mm sk pk kw sc pn) n (some (.long res)) (wPc σ a ss ps hv oo cu mm sk pk kw sc pn) n := by
  refine con_intro (by decide +kernel) (Nat.le_of_ble_eq_true rfl) ?_
  intro K C hKR hKL hKE hKN hKQ
  subst hKL
  subst hKE
  have C : Cx K RX1 "shapeAt" cX1_shapeAt (some .long) := C
  show G K 0 0 0 [(0, .ref a), (1, .int k)] [] (wPc σ a ss ps hv oo cu mm sk pk kw sc pn) n
  unfold f_X1_shapeAt at hf
  refine g_aload_n C rfl (q := 0) rfl dX1_shapeAt_0 rfl ?_
  refine g_get C fc_X1 0 (by decide) wf_RX1_11 (wL_at0 rfl) rfl dX1_shapeAt_1 rfl ?_
  refine g_iload_n C rfl (q := 1) rfl dX1_shapeAt_4 rfl ?_
  obtain ⟨g1, hf⟩ := gd hf
  refine g_lald C (wL_at 1 rfl) (inB_in g1) dX1_shapeAt_5 rfl ?_
  cases hf
  exact g_lret C hKQ dX1_shapeAt_6
def f_X1_hasShape_8  (l1 : Int64) (l3 : Int32) (ss : Nat → Int64) (sk : Int32) (sc : Int32) : Nat → Int32 → Option ((Int32 × (Nat → Int64) × Int32 × Int32) ⊕ Unit)
  | 0, _ => none
  | fu + 1, l4 => (if l3 ≤ l4 then some (.inr ()) else (if inB l4 48 = true then (if (ss l4.toNatClampNeg) = l1 then some (.inl ((1 : Int32), ss, sk, sc)) else f_X1_hasShape_8 l1 l3 ss sk sc fu (l4 + (1 : Int32))) else none))
def f_X1_hasShape (fu : Nat) (ss : Nat → Int64) (cu : Int64) (mm : Int32) (sk : Int32) (sc : Int32) (set : Int64) : Option (Int32 × (Nat → Int64) × Int32 × Int32) := ((f_X1_countShapes fu ss cu mm sk sc).bind fun q1 => (sumB (f_X1_hasShape_8 set q1.1 q1.2.1 q1.2.2.1 q1.2.2.2 fu (0 : Int32)) id fun t12 => some ((0 : Int32), q1.2.1, q1.2.2.1, q1.2.2.2)))
set_option maxHeartbeats 2000000 in
set_option maxRecDepth 20000 in
theorem g_X1_hasShape_8 {K : KX} {n : Nat} {σ : AH} {a : Nat} {l1 : Int64} {l3 : Int32} {ss : Nat → Int64} {ps : Nat → Int64} {hv : Nat → Int64} {oo : Nat → Int64} {cu : Int64} {mm : Int32} {sk : Int32} {pk : Int32} {kw : Int64} {sc : Int32} {pn : Int32} (C : Cx K RX1 "hasShape" cX1_hasShape (some .boolean)) (hKR : kR K = ({ frames := 5, cells := 0, slots := 0, locals := 116 } : Room)) (hKN : kN K = 5) : ∀ (fu : Nat) (l4 : Int32) (res : ((Int32 × (Nat → Int64) × Int32 × Int32) ⊕ Unit)), f_X1_hasShape_8 l1 l3 ss sk sc fu l4 = some res → (∀ t, res = .inl t → KQ K 0 0 (some (.int t.1)) (wPc σ a t.2.1 ps hv oo cu mm t.2.2.1 pk kw t.2.2.2 pn) n) → (∀ t, res = .inr t → G K 0 0 34 [] [] (wPc σ a ss ps hv oo cu mm sk pk kw sc pn) n) → G K 0 0 8 [(0, .ref a), (1, .long l1), (3, .int l3), (4, .int l4)] [] (wPc σ a ss ps hv oo cu mm sk pk kw sc pn) n := by
  intro fu
  induction fu with
  | zero =>
    intro l4 res hf
    exact absurd hf (by simp [f_X1_hasShape_8])
  | succ fu ih =>
    intro l4 res hf hret hx
    rw [f_X1_hasShape_8] at hf
    refine g_iload C (q := 3) rfl dX1_hasShape_8 rfl ?_
    refine g_iload_n C rfl (q := 2) rfl dX1_hasShape_10 rfl ?_
    refine g_icmp_ge (tgt := 34) C dX1_hasShape_11 (by decide) rfl (fun c8 => ?_) (fun c8 => ?_)
    · replace hf := ift c8 hf
      cases hf
      refine g_sub (lv' := []) [] rfl ?_
      exact hx _ rfl
    · replace hf := iff' c8 hf
      refine g_aload_n C rfl (q := 0) rfl dX1_hasShape_14 rfl ?_
      refine g_get C fc_X1 0 (by decide) wf_RX1_11 (wL_at0 rfl) rfl dX1_hasShape_15 rfl ?_
      refine g_iload C (q := 3) rfl dX1_hasShape_18 rfl ?_
      obtain ⟨g9, hf⟩ := gd hf
      refine g_lald C (wL_at 1 rfl) (inB_in g9) dX1_hasShape_20 rfl ?_
      refine g_lload_n C rfl (q := 1) rfl dX1_hasShape_21 rfl ?_
      refine g_lif_ne (tgt := 28) C dX1_hasShape_22 rfl dX1_hasShape_23 (by decide) rfl (fun c10 => ?_) (fun c10 => ?_)
      · replace hf := iff' c10 hf
        refine g_iinc (v := l4 + (1 : Int32)) (lv' := [(4, .int (l4 + (1 : Int32))), (0, .ref a), (1, .long l1), (3, .int l3)]) (q := 3) C dX1_hasShape_28 rfl rfl rfl (by rw [hKN]; decide) rfl ?_
        refine g_goto (pc' := 8) C dX1_hasShape_31 (by decide) ?_
        refine g_sub (lv' := [(0, .ref a), (1, .long l1), (3, .int l3), (4, .int (l4 + (1 : Int32)))]) [1, 2, 3, 0] rfl ?_
        exact ih _ _ hf hret hx
      · replace hf := ift c10 hf
        refine g_iconst (v := 1) C (by decide) dX1_hasShape_26 rfl ?_
        cases hf
        exact g_zret C rfl (hret _ rfl) dX1_hasShape_27
set_option maxHeartbeats 2000000 in
set_option maxRecDepth 20000 in
theorem c_X1_hasShape {l : Launch} {E : Ex} {n : Nat} {σ : AH} {a : Nat} {ss : Nat → Int64} {ps : Nat → Int64} {hv : Nat → Int64} {oo : Nat → Int64} {cu : Int64} {mm : Int32} {sk : Int32} {pk : Int32} {kw : Int64} {sc : Int32} {pn : Int32} {set : Int64} {fu : Nat} (res : (Int32 × (Nat → Int64) × Int32 × Int32)) (hf : f_X1_hasShape fu ss cu mm sk sc set = some res) : Con l E yX1_hasShape (.code yX1_hasShape cX1_hasShape 5 (some .boolean) :: TT) ({ frames := 5, cells := 0, slots := 0, locals := 116 } : Room) 0 0 [.ref a, .long set] (wPc σ a ss ps hv oo cu mm sk pk kw sc pn) n (some (.int res.1)) (wPc σ a res.2.1 ps hv oo cu mm res.2.2.1 pk kw res.2.2.2 pn) n := by
  refine con_intro (by decide +kernel) (Nat.le_of_ble_eq_true rfl) ?_
  intro K C hKR hKL hKE hKN hKQ
  subst hKL
  subst hKE
  have C : Cx K RX1 "hasShape" cX1_hasShape (some .boolean) := C
  show G K 0 0 0 [(0, .ref a), (1, .long set)] [] (wPc σ a ss ps hv oo cu mm sk pk kw sc pn) n
  unfold f_X1_hasShape at hf
  refine g_aload_n C rfl (q := 0) rfl dX1_hasShape_0 rfl ?_
  obtain ⟨q1, hq1, hf⟩ := bd hf
  refine g_callV0 (st' := []) (as := []) (st2 := [.int q1.1]) (k := 0) C ⟨wm_RX1_48, wn_X1_countShapes, wv_X1_countShapes, wi_RX1, wk_X1_countShapes, by decide +kernel⟩ rfl (wL_at0 rfl) (c_X1_countShapes (l := kL K) (E := kE K)  _ hq1) (by rw [hKR]; exact ⟨rfl, rfl, ⟨by decide, by decide⟩, by decide, by decide⟩) rfl rfl (by simp) rfl dX1_hasShape_1 rfl ?_
  refine g_istore_n (i := 3) (lv' := [(3, .int q1.1), (0, .ref a), (1, .long set)]) C dX1_hasShape_4 rfl rfl (by rw [hKN]; decide) rfl ?_
  refine g_iconst (v := 0) C (by decide) dX1_hasShape_5 rfl ?_
  refine g_istore (i := 4) (lv' := [(4, .int (0 : Int32)), (3, .int q1.1), (0, .ref a), (1, .long set)]) C dX1_hasShape_6 rfl (by rw [hKN]; decide) rfl ?_
  refine g_sub (lv' := [(0, .ref a), (1, .long set), (3, .int q1.1), (4, .int (0 : Int32))]) [2, 3, 1, 0] rfl ?_
  obtain ⟨q11, hq11, hf1, hf2⟩ := sb hf
  refine g_X1_hasShape_8 (l1 := set) (l3 := q1.1) (ss := q1.2.1) (ps := ps) (hv := hv) (oo := oo) (cu := cu) (mm := mm) (sk := q1.2.2.1) (pk := pk) (kw := kw) (sc := q1.2.2.2) (pn := pn) C hKR hKN _ _ q11 hq11 (fun t12 et12 => ?_) (fun t12 et12 => ?_)
  · have e9 := hf1 _ et12
    cases e9
    exact hKQ
  · have hf := hf2 _ et12
    refine g_iconst (v := 0) C (by decide) dX1_hasShape_34 rfl ?_
    cases hf
    exact g_zret C rfl hKQ dX1_hasShape_35
def f_X1_countPlaces (pn : Int32) : Option Int32 := some pn
set_option maxHeartbeats 2000000 in
set_option maxRecDepth 20000 in
theorem c_X1_countPlaces {l : Launch} {E : Ex} {n : Nat} {σ : AH} {a : Nat} {ss : Nat → Int64} {ps : Nat → Int64} {hv : Nat → Int64} {oo : Nat → Int64} {cu : Int64} {mm : Int32} {sk : Int32} {pk : Int32} {kw : Int64} {sc : Int32} {pn : Int32}  (res : Int32) (hf : f_X1_countPlaces pn = some res) : Con l E yX1_countPlaces (.code yX1_countPlaces cX1_countPlaces 1 (some .int) :: TT) ({ frames := 0, cells := 0, slots := 0, locals := 0 } : Room) 0 0 [.ref a] (wPc σ a ss ps hv oo cu mm sk pk kw sc pn) n (some (.int res)) (wPc σ a ss ps hv oo cu mm sk pk kw sc pn) n := by
  refine con_intro (by decide +kernel) (Nat.le_of_ble_eq_true rfl) ?_
  intro K C hKR hKL hKE hKN hKQ
  subst hKL
  subst hKE
  have C : Cx K RX1 "countPlaces" cX1_countPlaces (some .int) := C
  show G K 0 0 0 [(0, .ref a)] [] (wPc σ a ss ps hv oo cu mm sk pk kw sc pn) n
  unfold f_X1_countPlaces at hf
  refine g_aload_n C rfl (q := 0) rfl dX1_countPlaces_0 rfl ?_
  refine g_get C fc_X1 10 (by decide) wf_RX1_52 (wL_at0 rfl) rfl dX1_countPlaces_1 rfl ?_
  cases hf
  exact g_iret C hKQ dX1_countPlaces_4
def f_X1_placeAt (ps : Nat → Int64) (k : Int32) : Option Int64 := (if inB k 896 = true then some (ps k.toNatClampNeg) else none)
set_option maxHeartbeats 2000000 in
set_option maxRecDepth 20000 in
theorem c_X1_placeAt {l : Launch} {E : Ex} {n : Nat} {σ : AH} {a : Nat} {ss : Nat → Int64} {ps : Nat → Int64} {hv : Nat → Int64} {oo : Nat → Int64} {cu : Int64} {mm : Int32} {sk : Int32} {pk : Int32} {kw : Int64} {sc : Int32} {pn : Int32} {k : Int32} (res : Int64) (hf : f_X1_placeAt ps k = some res) : Con l E yX1_placeAt (.code yX1_placeAt cX1_placeAt 2 (some .long) :: TT) ({ frames := 0, cells := 0, slots := 0, locals := 0 } : Room) 0 0 [.ref a, .int k] (wPc σ a ss ps hv oo cu mm sk pk kw sc pn) n (some (.long res)) (wPc σ a ss ps hv oo cu mm sk pk kw sc pn) n := by
  refine con_intro (by decide +kernel) (Nat.le_of_ble_eq_true rfl) ?_
  intro K C hKR hKL hKE hKN hKQ
  subst hKL
  subst hKE
  have C : Cx K RX1 "placeAt" cX1_placeAt (some .long) := C
  show G K 0 0 0 [(0, .ref a), (1, .int k)] [] (wPc σ a ss ps hv oo cu mm sk pk kw sc pn) n
  unfold f_X1_placeAt at hf
  refine g_aload_n C rfl (q := 0) rfl dX1_placeAt_0 rfl ?_
  refine g_get C fc_X1 1 (by decide) wf_RX1_15 (wL_at0 rfl) rfl dX1_placeAt_1 rfl ?_
  refine g_iload_n C rfl (q := 1) rfl dX1_placeAt_4 rfl ?_
  obtain ⟨g1, hf⟩ := gd hf
  refine g_lald C (wL_at 2 rfl) (inB_in g1) dX1_placeAt_5 rfl ?_
  cases hf
  exact g_lret C hKQ dX1_placeAt_6
def f_X1_countWords (pn : Int32) : Option Int32 := some ((pn + (63 : Int32)) / (64 : Int32))
set_option maxHeartbeats 2000000 in
set_option maxRecDepth 20000 in
theorem c_X1_countWords {l : Launch} {E : Ex} {n : Nat} {σ : AH} {a : Nat} {ss : Nat → Int64} {ps : Nat → Int64} {hv : Nat → Int64} {oo : Nat → Int64} {cu : Int64} {mm : Int32} {sk : Int32} {pk : Int32} {kw : Int64} {sc : Int32} {pn : Int32}  (res : Int32) (hf : f_X1_countWords pn = some res) : Con l E yX1_countWords (.code yX1_countWords cX1_countWords 1 (some .int) :: TT) ({ frames := 0, cells := 0, slots := 0, locals := 0 } : Room) 0 0 [.ref a] (wPc σ a ss ps hv oo cu mm sk pk kw sc pn) n (some (.int res)) (wPc σ a ss ps hv oo cu mm sk pk kw sc pn) n := by
  refine con_intro (by decide +kernel) (Nat.le_of_ble_eq_true rfl) ?_
  intro K C hKR hKL hKE hKN hKQ
  subst hKL
  subst hKE
  have C : Cx K RX1 "countWords" cX1_countWords (some .int) := C
  show G K 0 0 0 [(0, .ref a)] [] (wPc σ a ss ps hv oo cu mm sk pk kw sc pn) n
  unfold f_X1_countWords at hf
  refine g_aload_n C rfl (q := 0) rfl dX1_countWords_0 rfl ?_
  refine g_get C fc_X1 10 (by decide) wf_RX1_52 (wL_at0 rfl) rfl dX1_countWords_1 rfl ?_
  refine g_bipush (v := 63) C (by decide) dX1_countWords_4 rfl ?_
  refine g_iadd C dX1_countWords_6 rfl ?_
  refine g_bipush (v := 64) C (by decide) dX1_countWords_7 rfl ?_
  refine g_idiv C (by decide) dX1_countWords_9 rfl ?_
  cases hf
  exact g_iret C hKQ dX1_countWords_10
def f_X1_wordOf (hv : Nat → Int64) (row : Int32) (word : Int32) : Option Int64 := (if inB ((row * (14 : Int32)) + word) 910 = true then some (hv ((row * (14 : Int32)) + word).toNatClampNeg) else none)
set_option maxHeartbeats 2000000 in
set_option maxRecDepth 20000 in
theorem c_X1_wordOf {l : Launch} {E : Ex} {n : Nat} {σ : AH} {a : Nat} {ss : Nat → Int64} {ps : Nat → Int64} {hv : Nat → Int64} {oo : Nat → Int64} {cu : Int64} {mm : Int32} {sk : Int32} {pk : Int32} {kw : Int64} {sc : Int32} {pn : Int32} {row : Int32} {word : Int32} (res : Int64) (hf : f_X1_wordOf hv row word = some res) : Con l E yX1_wordOf (.code yX1_wordOf cX1_wordOf 3 (some .long) :: TT) ({ frames := 0, cells := 0, slots := 0, locals := 0 } : Room) 0 0 [.ref a, .int row, .int word] (wPc σ a ss ps hv oo cu mm sk pk kw sc pn) n (some (.long res)) (wPc σ a ss ps hv oo cu mm sk pk kw sc pn) n := by
  refine con_intro (by decide +kernel) (Nat.le_of_ble_eq_true rfl) ?_
  intro K C hKR hKL hKE hKN hKQ
  subst hKL
  subst hKE
  have C : Cx K RX1 "wordOf" cX1_wordOf (some .long) := C
  show G K 0 0 0 [(0, .ref a), (1, .int row), (2, .int word)] [] (wPc σ a ss ps hv oo cu mm sk pk kw sc pn) n
  unfold f_X1_wordOf at hf
  refine g_aload_n C rfl (q := 0) rfl dX1_wordOf_0 rfl ?_
  refine g_get C fc_X1 2 (by decide) wf_RX1_18 (wL_at0 rfl) rfl dX1_wordOf_1 rfl ?_
  refine g_iload_n C rfl (q := 1) rfl dX1_wordOf_4 rfl ?_
  refine g_bipush (v := 14) C (by decide) dX1_wordOf_5 rfl ?_
  refine g_imul C dX1_wordOf_7 rfl ?_
  refine g_iload_n C rfl (q := 2) rfl dX1_wordOf_8 rfl ?_
  refine g_iadd C dX1_wordOf_9 rfl ?_
  obtain ⟨g1, hf⟩ := gd hf
  refine g_lald C (wL_at 3 rfl) (inB_in g1) dX1_wordOf_10 rfl ?_
  cases hf
  exact g_lret C hKQ dX1_wordOf_11
def f_X1_placeOneShape_53  (l1 : Int64) (l3 : Int64) (l5 : Int32) (l9 : Int32) (l10 : Int32) : Nat → Int32 → Int32 → (Nat → Int64) → Option (Int32 × (Nat → Int64))
  | 0, _, _, _ => none
  | fu + 1, l8, l11, oo => (if l5 < l11 then some (l8, oo) else (if ((l1 <<< (((l11 + ((4 : Int32) * l10)) + ((16 : Int32) * l9)).toInt64 &&& 63)) &&& (l3 ^^^ (-1 : Int64))) = (0 : Int64) then (if inB l8 64 = true then f_X1_placeOneShape_53 l1 l3 l5 l9 l10 fu (l8 + (1 : Int32)) (l11 + (1 : Int32)) (va_up oo l8.toNatClampNeg (l1 <<< (((l11 + ((4 : Int32) * l10)) + ((16 : Int32) * l9)).toInt64 &&& 63))) else none) else f_X1_placeOneShape_53 l1 l3 l5 l9 l10 fu l8 (l11 + (1 : Int32)) oo))
def f_X1_placeOneShape_43  (l1 : Int64) (l3 : Int64) (l5 : Int32) (l6 : Int32) (l9 : Int32) : Nat → Int32 → Int32 → (Nat → Int64) → Option (Int32 × (Nat → Int64))
  | 0, _, _, _ => none
  | fu + 1, l8, l10, oo => (if l6 < l10 then some (l8, oo) else ((f_X1_placeOneShape_53 l1 l3 l5 l9 l10 fu l8 (0 : Int32) oo).bind fun q107 => f_X1_placeOneShape_43 l1 l3 l5 l6 l9 fu q107.1 (l10 + (1 : Int32)) q107.2))
def f_X1_placeOneShape_33  (l1 : Int64) (l3 : Int64) (l5 : Int32) (l6 : Int32) (l7 : Int32) : Nat → Int32 → Int32 → (Nat → Int64) → Option (Int32 × (Nat → Int64))
  | 0, _, _, _ => none
  | fu + 1, l8, l9, oo => (if l7 < l9 then some (l8, oo) else ((f_X1_placeOneShape_43 l1 l3 l5 l6 l9 fu l8 (0 : Int32) oo).bind fun q108 => f_X1_placeOneShape_33 l1 l3 l5 l6 l7 fu q108.1 (l9 + (1 : Int32)) q108.2))
def f_X1_placeOneShape (fu : Nat) (oo : Nat → Int64) (shape : Int64) (within : Int64) : Option (Int32 × (Nat → Int64)) := ((f_X0_greatest fu shape (0 : Int32)).bind fun q1 => ((f_X0_greatest fu shape (1 : Int32)).bind fun q2 => ((f_X0_greatest fu shape (2 : Int32)).bind fun q3 => ((f_X1_placeOneShape_33 shape within ((3 : Int32) - q1) ((3 : Int32) - q2) ((3 : Int32) - q3) fu (0 : Int32) (0 : Int32) oo).bind fun q109 => some (q109.1, q109.2)))))
set_option maxHeartbeats 2000000 in
set_option maxRecDepth 20000 in
theorem g_X1_placeOneShape_53 {K : KX} {n : Nat} {σ : AH} {a : Nat} {l1 : Int64} {l3 : Int64} {l5 : Int32} {l6 : Int32} {l7 : Int32} {l9 : Int32} {l10 : Int32} {ss : Nat → Int64} {ps : Nat → Int64} {hv : Nat → Int64} {cu : Int64} {mm : Int32} {sk : Int32} {pk : Int32} {kw : Int64} {sc : Int32} {pn : Int32} (C : Cx K RX1 "placeOneShape" cX1_placeOneShape (some .int)) (hKR : kR K = ({ frames := 1, cells := 0, slots := 0, locals := 23 } : Room)) (hKN : kN K = 14) : ∀ (fu : Nat) (l8 : Int32) (l11 : Int32) (oo : Nat → Int64) (res : (Int32 × (Nat → Int64))), f_X1_placeOneShape_53 l1 l3 l5 l9 l10 fu l8 l11 oo = some res → G K 0 0 108 [(0, .ref a), (1, .long l1), (3, .long l3), (5, .int l5), (6, .int l6), (7, .int l7), (8, .int res.1), (9, .int l9), (10, .int l10)] [] (wPc σ a ss ps hv res.2 cu mm sk pk kw sc pn) n → G K 0 0 53 [(0, .ref a), (1, .long l1), (3, .long l3), (5, .int l5), (6, .int l6), (7, .int l7), (8, .int l8), (9, .int l9), (10, .int l10), (11, .int l11)] [] (wPc σ a ss ps hv oo cu mm sk pk kw sc pn) n := by
  intro fu
  induction fu with
  | zero =>
    intro l8 l11 oo res hf
    exact absurd hf (by simp [f_X1_placeOneShape_53])
  | succ fu ih =>
    intro l8 l11 oo res hf hx
    rw [f_X1_placeOneShape_53] at hf
    refine g_iload C (q := 9) rfl dX1_placeOneShape_53 rfl ?_
    refine g_iload C (q := 3) rfl dX1_placeOneShape_55 rfl ?_
    refine g_icmp_gt (tgt := 108) C dX1_placeOneShape_57 (by decide) rfl (fun c104 => ?_) (fun c104 => ?_)
    · replace hf := ift c104 hf
      cases hf
      refine g_sub (lv' := [(0, .ref a), (1, .long l1), (3, .long l3), (5, .int l5), (6, .int l6), (7, .int l7), (8, .int l8), (9, .int l9), (10, .int l10)]) [0, 1, 2, 3, 4, 5, 6, 7, 8] rfl ?_
      exact hx
    · replace hf := iff' c104 hf
      refine g_lload_n C rfl (q := 1) rfl dX1_placeOneShape_60 rfl ?_
      refine g_iload C (q := 9) rfl dX1_placeOneShape_61 rfl ?_
      refine g_iconst (v := 4) C (by decide) dX1_placeOneShape_63 rfl ?_
      refine g_iload C (q := 8) rfl dX1_placeOneShape_64 rfl ?_
      refine g_imul C dX1_placeOneShape_66 rfl ?_
      refine g_iadd C dX1_placeOneShape_67 rfl ?_
      refine g_bipush (v := 16) C (by decide) dX1_placeOneShape_68 rfl ?_
      refine g_iload C (q := 7) rfl dX1_placeOneShape_70 rfl ?_
      refine g_imul C dX1_placeOneShape_72 rfl ?_
      refine g_iadd C dX1_placeOneShape_73 rfl ?_
      refine g_lshl C dX1_placeOneShape_74 rfl ?_
      refine g_lstore (i := 12) (lv' := [(12, .long (l1 <<< (((l11 + ((4 : Int32) * l10)) + ((16 : Int32) * l9)).toInt64 &&& 63))), (0, .ref a), (1, .long l1), (3, .long l3), (5, .int l5), (6, .int l6), (7, .int l7), (8, .int l8), (9, .int l9), (10, .int l10), (11, .int l11)]) C dX1_placeOneShape_75 rfl (by rw [hKN]; decide) rfl ?_
      refine g_lload C (q := 0) rfl dX1_placeOneShape_77 rfl ?_
      refine g_lload_n C rfl (q := 3) rfl dX1_placeOneShape_79 rfl ?_
      refine g_ldc2 C wc_RX1_105 dX1_placeOneShape_80 rfl ?_
      refine g_lxor C dX1_placeOneShape_83 rfl ?_
      refine g_land C dX1_placeOneShape_84 rfl ?_
      refine g_lconst (v := 0) C (by decide) dX1_placeOneShape_85 rfl ?_
      refine g_lif_ne (tgt := 102) C dX1_placeOneShape_86 rfl dX1_placeOneShape_87 (by decide) rfl (fun c105 => ?_) (fun c105 => ?_)
      · replace hf := iff' c105 hf
        refine g_iinc (v := l11 + (1 : Int32)) (lv' := [(11, .int (l11 + (1 : Int32))), (12, .long (l1 <<< (((l11 + ((4 : Int32) * l10)) + ((16 : Int32) * l9)).toInt64 &&& 63))), (0, .ref a), (1, .long l1), (3, .long l3), (5, .int l5), (6, .int l6), (7, .int l7), (8, .int l8), (9, .int l9), (10, .int l10)]) (q := 10) C dX1_placeOneShape_102 rfl rfl rfl (by rw [hKN]; decide) rfl ?_
        refine g_goto (pc' := 53) C dX1_placeOneShape_105 (by decide) ?_
        refine g_sub (lv' := [(0, .ref a), (1, .long l1), (3, .long l3), (5, .int l5), (6, .int l6), (7, .int l7), (8, .int l8), (9, .int l9), (10, .int l10), (11, .int (l11 + (1 : Int32)))]) [2, 3, 4, 5, 6, 7, 8, 9, 10, 0] rfl ?_
        exact ih _ _ _ _ hf hx
      · replace hf := ift c105 hf
        refine g_aload_n C rfl (q := 1) rfl dX1_placeOneShape_90 rfl ?_
        refine g_get C fc_X1 3 (by decide) wf_RX1_21 (wL_at0 rfl) rfl dX1_placeOneShape_91 rfl ?_
        refine g_iload C (q := 7) rfl dX1_placeOneShape_94 rfl ?_
        refine g_lload C (q := 0) rfl dX1_placeOneShape_96 rfl ?_
        obtain ⟨g106, hf⟩ := gd hf
        refine g_last (h' := (wPc σ a ss ps hv (va_up oo l8.toNatClampNeg (l1 <<< (((l11 + ((4 : Int32) * l10)) + ((16 : Int32) * l9)).toInt64 &&& 63))) cu mm sk pk kw sc pn)) C (wL_at 4 rfl) (inB_in g106) (wL_up 4 (Nat.le_of_ble_eq_true rfl) rfl) dX1_placeOneShape_98 rfl ?_
        refine g_iinc (v := l8 + (1 : Int32)) (lv' := [(8, .int (l8 + (1 : Int32))), (12, .long (l1 <<< (((l11 + ((4 : Int32) * l10)) + ((16 : Int32) * l9)).toInt64 &&& 63))), (0, .ref a), (1, .long l1), (3, .long l3), (5, .int l5), (6, .int l6), (7, .int l7), (9, .int l9), (10, .int l10), (11, .int l11)]) (q := 7) C dX1_placeOneShape_99 rfl rfl rfl (by rw [hKN]; decide) rfl ?_
        refine g_iinc (v := l11 + (1 : Int32)) (lv' := [(11, .int (l11 + (1 : Int32))), (8, .int (l8 + (1 : Int32))), (12, .long (l1 <<< (((l11 + ((4 : Int32) * l10)) + ((16 : Int32) * l9)).toInt64 &&& 63))), (0, .ref a), (1, .long l1), (3, .long l3), (5, .int l5), (6, .int l6), (7, .int l7), (9, .int l9), (10, .int l10)]) (q := 10) C dX1_placeOneShape_102 rfl rfl rfl (by rw [hKN]; decide) rfl ?_
        refine g_goto (pc' := 53) C dX1_placeOneShape_105 (by decide) ?_
        refine g_sub (lv' := [(0, .ref a), (1, .long l1), (3, .long l3), (5, .int l5), (6, .int l6), (7, .int l7), (8, .int (l8 + (1 : Int32))), (9, .int l9), (10, .int l10), (11, .int (l11 + (1 : Int32)))]) [3, 4, 5, 6, 7, 8, 1, 9, 10, 0] rfl ?_
        exact ih _ _ _ _ hf hx
set_option maxHeartbeats 2000000 in
set_option maxRecDepth 20000 in
theorem g_X1_placeOneShape_43 {K : KX} {n : Nat} {σ : AH} {a : Nat} {l1 : Int64} {l3 : Int64} {l5 : Int32} {l6 : Int32} {l7 : Int32} {l9 : Int32} {ss : Nat → Int64} {ps : Nat → Int64} {hv : Nat → Int64} {cu : Int64} {mm : Int32} {sk : Int32} {pk : Int32} {kw : Int64} {sc : Int32} {pn : Int32} (C : Cx K RX1 "placeOneShape" cX1_placeOneShape (some .int)) (hKR : kR K = ({ frames := 1, cells := 0, slots := 0, locals := 23 } : Room)) (hKN : kN K = 14) : ∀ (fu : Nat) (l8 : Int32) (l10 : Int32) (oo : Nat → Int64) (res : (Int32 × (Nat → Int64))), f_X1_placeOneShape_43 l1 l3 l5 l6 l9 fu l8 l10 oo = some res → G K 0 0 114 [(0, .ref a), (1, .long l1), (3, .long l3), (5, .int l5), (6, .int l6), (7, .int l7), (8, .int res.1), (9, .int l9)] [] (wPc σ a ss ps hv res.2 cu mm sk pk kw sc pn) n → G K 0 0 43 [(0, .ref a), (1, .long l1), (3, .long l3), (5, .int l5), (6, .int l6), (7, .int l7), (8, .int l8), (9, .int l9), (10, .int l10)] [] (wPc σ a ss ps hv oo cu mm sk pk kw sc pn) n := by
  intro fu
  induction fu with
  | zero =>
    intro l8 l10 oo res hf
    exact absurd hf (by simp [f_X1_placeOneShape_43])
  | succ fu ih =>
    intro l8 l10 oo res hf hx
    rw [f_X1_placeOneShape_43] at hf
    refine g_iload C (q := 8) rfl dX1_placeOneShape_43 rfl ?_
    refine g_iload C (q := 4) rfl dX1_placeOneShape_45 rfl ?_
    refine g_icmp_gt (tgt := 114) C dX1_placeOneShape_47 (by decide) rfl (fun c97 => ?_) (fun c97 => ?_)
    · replace hf := ift c97 hf
      cases hf
      refine g_sub (lv' := [(0, .ref a), (1, .long l1), (3, .long l3), (5, .int l5), (6, .int l6), (7, .int l7), (8, .int l8), (9, .int l9)]) [0, 1, 2, 3, 4, 5, 6, 7] rfl ?_
      exact hx
    · replace hf := iff' c97 hf
      refine g_iconst (v := 0) C (by decide) dX1_placeOneShape_50 rfl ?_
      refine g_istore (i := 11) (lv' := [(11, .int (0 : Int32)), (0, .ref a), (1, .long l1), (3, .long l3), (5, .int l5), (6, .int l6), (7, .int l7), (8, .int l8), (9, .int l9), (10, .int l10)]) C dX1_placeOneShape_51 rfl (by rw [hKN]; decide) rfl ?_
      refine g_sub (lv' := [(0, .ref a), (1, .long l1), (3, .long l3), (5, .int l5), (6, .int l6), (7, .int l7), (8, .int l8), (9, .int l9), (10, .int l10), (11, .int (0 : Int32))]) [1, 2, 3, 4, 5, 6, 7, 8, 9, 0] rfl ?_
      obtain ⟨q107, hq107, hf⟩ := bd hf
      refine g_X1_placeOneShape_53 (l1 := l1) (l3 := l3) (l5 := l5) (l6 := l6) (l7 := l7) (l9 := l9) (l10 := l10) (ss := ss) (ps := ps) (hv := hv) (cu := cu) (mm := mm) (sk := sk) (pk := pk) (kw := kw) (sc := sc) (pn := pn) C hKR hKN _ _ _ _ _ hq107 ?_
      refine g_iinc (v := l10 + (1 : Int32)) (lv' := [(10, .int (l10 + (1 : Int32))), (0, .ref a), (1, .long l1), (3, .long l3), (5, .int l5), (6, .int l6), (7, .int l7), (8, .int q107.1), (9, .int l9)]) (q := 8) C dX1_placeOneShape_108 rfl rfl rfl (by rw [hKN]; decide) rfl ?_
      refine g_goto (pc' := 43) C dX1_placeOneShape_111 (by decide) ?_
      refine g_sub (lv' := [(0, .ref a), (1, .long l1), (3, .long l3), (5, .int l5), (6, .int l6), (7, .int l7), (8, .int q107.1), (9, .int l9), (10, .int (l10 + (1 : Int32)))]) [1, 2, 3, 4, 5, 6, 7, 8, 0] rfl ?_
      exact ih _ _ _ _ hf hx
set_option maxHeartbeats 2000000 in
set_option maxRecDepth 20000 in
theorem g_X1_placeOneShape_33 {K : KX} {n : Nat} {σ : AH} {a : Nat} {l1 : Int64} {l3 : Int64} {l5 : Int32} {l6 : Int32} {l7 : Int32} {ss : Nat → Int64} {ps : Nat → Int64} {hv : Nat → Int64} {cu : Int64} {mm : Int32} {sk : Int32} {pk : Int32} {kw : Int64} {sc : Int32} {pn : Int32} (C : Cx K RX1 "placeOneShape" cX1_placeOneShape (some .int)) (hKR : kR K = ({ frames := 1, cells := 0, slots := 0, locals := 23 } : Room)) (hKN : kN K = 14) : ∀ (fu : Nat) (l8 : Int32) (l9 : Int32) (oo : Nat → Int64) (res : (Int32 × (Nat → Int64))), f_X1_placeOneShape_33 l1 l3 l5 l6 l7 fu l8 l9 oo = some res → G K 0 0 120 [(8, .int res.1)] [] (wPc σ a ss ps hv res.2 cu mm sk pk kw sc pn) n → G K 0 0 33 [(0, .ref a), (1, .long l1), (3, .long l3), (5, .int l5), (6, .int l6), (7, .int l7), (8, .int l8), (9, .int l9)] [] (wPc σ a ss ps hv oo cu mm sk pk kw sc pn) n := by
  intro fu
  induction fu with
  | zero =>
    intro l8 l9 oo res hf
    exact absurd hf (by simp [f_X1_placeOneShape_33])
  | succ fu ih =>
    intro l8 l9 oo res hf hx
    rw [f_X1_placeOneShape_33] at hf
    refine g_iload C (q := 7) rfl dX1_placeOneShape_33 rfl ?_
    refine g_iload C (q := 5) rfl dX1_placeOneShape_35 rfl ?_
    refine g_icmp_gt (tgt := 120) C dX1_placeOneShape_37 (by decide) rfl (fun c74 => ?_) (fun c74 => ?_)
    · replace hf := ift c74 hf
      cases hf
      refine g_sub (lv' := [(8, .int l8)]) [6] rfl ?_
      exact hx
    · replace hf := iff' c74 hf
      refine g_iconst (v := 0) C (by decide) dX1_placeOneShape_40 rfl ?_
      refine g_istore (i := 10) (lv' := [(10, .int (0 : Int32)), (0, .ref a), (1, .long l1), (3, .long l3), (5, .int l5), (6, .int l6), (7, .int l7), (8, .int l8), (9, .int l9)]) C dX1_placeOneShape_41 rfl (by rw [hKN]; decide) rfl ?_
      refine g_sub (lv' := [(0, .ref a), (1, .long l1), (3, .long l3), (5, .int l5), (6, .int l6), (7, .int l7), (8, .int l8), (9, .int l9), (10, .int (0 : Int32))]) [1, 2, 3, 4, 5, 6, 7, 8, 0] rfl ?_
      obtain ⟨q108, hq108, hf⟩ := bd hf
      refine g_X1_placeOneShape_43 (l1 := l1) (l3 := l3) (l5 := l5) (l6 := l6) (l7 := l7) (l9 := l9) (ss := ss) (ps := ps) (hv := hv) (cu := cu) (mm := mm) (sk := sk) (pk := pk) (kw := kw) (sc := sc) (pn := pn) C hKR hKN _ _ _ _ _ hq108 ?_
      refine g_iinc (v := l9 + (1 : Int32)) (lv' := [(9, .int (l9 + (1 : Int32))), (0, .ref a), (1, .long l1), (3, .long l3), (5, .int l5), (6, .int l6), (7, .int l7), (8, .int q108.1)]) (q := 7) C dX1_placeOneShape_114 rfl rfl rfl (by rw [hKN]; decide) rfl ?_
      refine g_goto (pc' := 33) C dX1_placeOneShape_117 (by decide) ?_
      refine g_sub (lv' := [(0, .ref a), (1, .long l1), (3, .long l3), (5, .int l5), (6, .int l6), (7, .int l7), (8, .int q108.1), (9, .int (l9 + (1 : Int32)))]) [1, 2, 3, 4, 5, 6, 7, 0] rfl ?_
      exact ih _ _ _ _ hf hx
set_option maxHeartbeats 2000000 in
set_option maxRecDepth 20000 in
theorem c_X1_placeOneShape {l : Launch} {E : Ex} {n : Nat} {σ : AH} {a : Nat} {ss : Nat → Int64} {ps : Nat → Int64} {hv : Nat → Int64} {oo : Nat → Int64} {cu : Int64} {mm : Int32} {sk : Int32} {pk : Int32} {kw : Int64} {sc : Int32} {pn : Int32} {shape : Int64} {within : Int64} {fu : Nat} (res : (Int32 × (Nat → Int64))) (hf : f_X1_placeOneShape fu oo shape within = some res) : Con l E yX1_placeOneShape (.code yX1_placeOneShape cX1_placeOneShape 14 (some .int) :: TT) ({ frames := 1, cells := 0, slots := 0, locals := 23 } : Room) 0 0 [.ref a, .long shape, .long within] (wPc σ a ss ps hv oo cu mm sk pk kw sc pn) n (some (.int res.1)) (wPc σ a ss ps hv res.2 cu mm sk pk kw sc pn) n := by
  refine con_intro (by decide +kernel) (Nat.le_of_ble_eq_true rfl) ?_
  intro K C hKR hKL hKE hKN hKQ
  subst hKL
  subst hKE
  have C : Cx K RX1 "placeOneShape" cX1_placeOneShape (some .int) := C
  show G K 0 0 0 [(0, .ref a), (1, .long shape), (3, .long within)] [] (wPc σ a ss ps hv oo cu mm sk pk kw sc pn) n
  unfold f_X1_placeOneShape at hf
  refine g_iconst (v := 3) C (by decide) dX1_placeOneShape_0 rfl ?_
  refine g_lload_n C rfl (q := 1) rfl dX1_placeOneShape_1 rfl ?_
  refine g_iconst (v := 0) C (by decide) dX1_placeOneShape_2 rfl ?_
  obtain ⟨q1, hq1, hf⟩ := bd hf
  refine g_callS0 (st' := [.int (3 : Int32)]) (as := [.long shape, .int (0 : Int32)]) (st2 := [.int q1, .int (3 : Int32)]) (k := 2) C ⟨wm_RX1_101, ws_X0_greatest, wi_RX0, wk_X0_greatest, by decide +kernel⟩ (c_X0_greatest (l := kL K) (E := kE K)  _ hq1) (by rw [hKR]; exact ⟨rfl, rfl, ⟨by decide, by decide⟩, by decide, by decide⟩) rfl rfl (by simp [Value.category]) rfl dX1_placeOneShape_3 rfl ?_
  refine g_isub C dX1_placeOneShape_6 rfl ?_
  refine g_istore (i := 5) (lv' := [(5, .int ((3 : Int32) - q1)), (0, .ref a), (1, .long shape), (3, .long within)]) C dX1_placeOneShape_7 rfl (by rw [hKN]; decide) rfl ?_
  refine g_iconst (v := 3) C (by decide) dX1_placeOneShape_9 rfl ?_
  refine g_lload_n C rfl (q := 2) rfl dX1_placeOneShape_10 rfl ?_
  refine g_iconst (v := 1) C (by decide) dX1_placeOneShape_11 rfl ?_
  obtain ⟨q2, hq2, hf⟩ := bd hf
  refine g_callS0 (st' := [.int (3 : Int32)]) (as := [.long shape, .int (1 : Int32)]) (st2 := [.int q2, .int (3 : Int32)]) (k := 2) C ⟨wm_RX1_101, ws_X0_greatest, wi_RX0, wk_X0_greatest, by decide +kernel⟩ (c_X0_greatest (l := kL K) (E := kE K)  _ hq2) (by rw [hKR]; exact ⟨rfl, rfl, ⟨by decide, by decide⟩, by decide, by decide⟩) rfl rfl (by simp [Value.category]) rfl dX1_placeOneShape_12 rfl ?_
  refine g_isub C dX1_placeOneShape_15 rfl ?_
  refine g_istore (i := 6) (lv' := [(6, .int ((3 : Int32) - q2)), (5, .int ((3 : Int32) - q1)), (0, .ref a), (1, .long shape), (3, .long within)]) C dX1_placeOneShape_16 rfl (by rw [hKN]; decide) rfl ?_
  refine g_iconst (v := 3) C (by decide) dX1_placeOneShape_18 rfl ?_
  refine g_lload_n C rfl (q := 3) rfl dX1_placeOneShape_19 rfl ?_
  refine g_iconst (v := 2) C (by decide) dX1_placeOneShape_20 rfl ?_
  obtain ⟨q3, hq3, hf⟩ := bd hf
  refine g_callS0 (st' := [.int (3 : Int32)]) (as := [.long shape, .int (2 : Int32)]) (st2 := [.int q3, .int (3 : Int32)]) (k := 2) C ⟨wm_RX1_101, ws_X0_greatest, wi_RX0, wk_X0_greatest, by decide +kernel⟩ (c_X0_greatest (l := kL K) (E := kE K)  _ hq3) (by rw [hKR]; exact ⟨rfl, rfl, ⟨by decide, by decide⟩, by decide, by decide⟩) rfl rfl (by simp [Value.category]) rfl dX1_placeOneShape_21 rfl ?_
  refine g_isub C dX1_placeOneShape_24 rfl ?_
  refine g_istore (i := 7) (lv' := [(7, .int ((3 : Int32) - q3)), (6, .int ((3 : Int32) - q2)), (5, .int ((3 : Int32) - q1)), (0, .ref a), (1, .long shape), (3, .long within)]) C dX1_placeOneShape_25 rfl (by rw [hKN]; decide) rfl ?_
  refine g_iconst (v := 0) C (by decide) dX1_placeOneShape_27 rfl ?_
  refine g_istore (i := 8) (lv' := [(8, .int (0 : Int32)), (7, .int ((3 : Int32) - q3)), (6, .int ((3 : Int32) - q2)), (5, .int ((3 : Int32) - q1)), (0, .ref a), (1, .long shape), (3, .long within)]) C dX1_placeOneShape_28 rfl (by rw [hKN]; decide) rfl ?_
  refine g_iconst (v := 0) C (by decide) dX1_placeOneShape_30 rfl ?_
  refine g_istore (i := 9) (lv' := [(9, .int (0 : Int32)), (8, .int (0 : Int32)), (7, .int ((3 : Int32) - q3)), (6, .int ((3 : Int32) - q2)), (5, .int ((3 : Int32) - q1)), (0, .ref a), (1, .long shape), (3, .long within)]) C dX1_placeOneShape_31 rfl (by rw [hKN]; decide) rfl ?_
  refine g_sub (lv' := [(0, .ref a), (1, .long shape), (3, .long within), (5, .int ((3 : Int32) - q1)), (6, .int ((3 : Int32) - q2)), (7, .int ((3 : Int32) - q3)), (8, .int (0 : Int32)), (9, .int (0 : Int32))]) [5, 6, 7, 4, 3, 2, 1, 0] rfl ?_
  obtain ⟨q109, hq109, hf⟩ := bd hf
  refine g_X1_placeOneShape_33 (l1 := shape) (l3 := within) (l5 := (3 : Int32) - q1) (l6 := (3 : Int32) - q2) (l7 := (3 : Int32) - q3) (ss := ss) (ps := ps) (hv := hv) (cu := cu) (mm := mm) (sk := sk) (pk := pk) (kw := kw) (sc := sc) (pn := pn) C hKR hKN _ _ _ _ _ hq109 ?_
  refine g_iload C (q := 0) rfl dX1_placeOneShape_120 rfl ?_
  cases hf
  exact g_iret C hKQ dX1_placeOneShape_122
def f_X1_mergeIn_42  (oo : Nat → Int64) : Nat → Int32 → Int32 → Int32 → (Nat → Int64) → Option (Nat → Int64)
  | 0, _, _, _, _ => none
  | fu + 1, l2, l3, l4, ps => (if l4 < 0 then some ps else (if l3 < 0 then some ps else (if l2 < 0 then (if inB l3 64 = true then (if inB l4 896 = true then f_X1_mergeIn_42 oo fu l2 (l3 + (-1 : Int32)) (l4 + (-1 : Int32)) (va_up ps l4.toNatClampNeg (oo l3.toNatClampNeg)) else none) else none) else (if inB l3 64 = true then (if inB l2 896 = true then ((f_X0_isBelow (oo l3.toNatClampNeg) (ps l2.toNatClampNeg)).bind fun q35 => (if q35 = 0 then (if inB l3 64 = true then (if inB l4 896 = true then f_X1_mergeIn_42 oo fu l2 (l3 + (-1 : Int32)) (l4 + (-1 : Int32)) (va_up ps l4.toNatClampNeg (oo l3.toNatClampNeg)) else none) else none) else (if inB l2 896 = true then (if inB l4 896 = true then f_X1_mergeIn_42 oo fu (l2 + (-1 : Int32)) l3 (l4 + (-1 : Int32)) (va_up ps l4.toNatClampNeg (ps l2.toNatClampNeg)) else none) else none))) else none) else none))))
def f_X1_mergeIn (fu : Nat) (ps : Nat → Int64) (oo : Nat → Int64) (pn : Int32) (count : Int32) : Option ((Nat → Int64) × Int32) := (if (pn + count) ≤ (896 : Int32) then ((f_X1_mergeIn_42 oo fu (pn - (1 : Int32)) (count - (1 : Int32)) ((pn + count) - (1 : Int32)) ps).bind fun q41 => some (q41, pn + count)) else some (ps, pn))
set_option maxHeartbeats 2000000 in
set_option maxRecDepth 20000 in
theorem g_X1_mergeIn_42 {K : KX} {n : Nat} {σ : AH} {a : Nat} {ss : Nat → Int64} {hv : Nat → Int64} {oo : Nat → Int64} {cu : Int64} {mm : Int32} {sk : Int32} {pk : Int32} {kw : Int64} {sc : Int32} {pn : Int32} (C : Cx K RX1 "mergeIn" cX1_mergeIn none) (hKR : kR K = ({ frames := 1, cells := 0, slots := 0, locals := 23 } : Room)) (hKN : kN K = 5) : ∀ (fu : Nat) (l2 : Int32) (l3 : Int32) (l4 : Int32) (ps : Nat → Int64) (res : (Nat → Int64)), f_X1_mergeIn_42 oo fu l2 l3 l4 ps = some res → G K 0 0 114 [] [] (wPc σ a ss res hv oo cu mm sk pk kw sc pn) n → G K 0 0 42 [(0, .ref a), (2, .int l2), (3, .int l3), (4, .int l4)] [] (wPc σ a ss ps hv oo cu mm sk pk kw sc pn) n := by
  intro fu
  induction fu with
  | zero =>
    intro l2 l3 l4 ps res hf
    exact absurd hf (by simp [f_X1_mergeIn_42])
  | succ fu ih =>
    intro l2 l3 l4 ps res hf hx
    rw [f_X1_mergeIn_42] at hf
    refine g_iload C (q := 3) rfl dX1_mergeIn_42 rfl ?_
    refine g_if_lt (tgt := 114) C dX1_mergeIn_44 (by decide) rfl (fun c28 => ?_) (fun c28 => ?_)
    · replace hf := ift c28 hf
      cases hf
      refine g_sub (lv' := []) [] rfl ?_
      exact hx
    · replace hf := iff' c28 hf
      refine g_iload_n C rfl (q := 2) rfl dX1_mergeIn_47 rfl ?_
      refine g_if_lt (tgt := 114) C dX1_mergeIn_48 (by decide) rfl (fun c29 => ?_) (fun c29 => ?_)
      · replace hf := ift c29 hf
        cases hf
        refine g_sub (lv' := []) [] rfl ?_
        exact hx
      · replace hf := iff' c29 hf
        refine g_iload_n C rfl (q := 1) rfl dX1_mergeIn_51 rfl ?_
        refine g_if_lt (tgt := 92) C dX1_mergeIn_52 (by decide) rfl (fun c30 => ?_) (fun c30 => ?_)
        · replace hf := ift c30 hf
          refine g_aload_n C rfl (q := 0) rfl dX1_mergeIn_92 rfl ?_
          refine g_get C fc_X1 1 (by decide) wf_RX1_15 (wL_at0 rfl) rfl dX1_mergeIn_93 rfl ?_
          refine g_iload C (q := 3) rfl dX1_mergeIn_96 rfl ?_
          refine g_aload_n C rfl (q := 0) rfl dX1_mergeIn_98 rfl ?_
          refine g_get C fc_X1 3 (by decide) wf_RX1_21 (wL_at0 rfl) rfl dX1_mergeIn_99 rfl ?_
          refine g_iload_n C rfl (q := 2) rfl dX1_mergeIn_102 rfl ?_
          obtain ⟨g31, hf⟩ := gd hf
          refine g_lald C (wL_at 4 rfl) (inB_in g31) dX1_mergeIn_103 rfl ?_
          obtain ⟨g32, hf⟩ := gd hf
          refine g_last (h' := (wPc σ a ss (va_up ps l4.toNatClampNeg (oo l3.toNatClampNeg)) hv oo cu mm sk pk kw sc pn)) C (wL_at 2 rfl) (inB_in g32) (wL_up 2 (Nat.le_of_ble_eq_true rfl) rfl) dX1_mergeIn_104 rfl ?_
          refine g_iinc (v := l3 + (-1 : Int32)) (lv' := [(3, .int (l3 + (-1 : Int32))), (0, .ref a), (2, .int l2), (4, .int l4)]) (q := 2) C dX1_mergeIn_105 rfl rfl rfl (by rw [hKN]; decide) rfl ?_
          refine g_iinc (v := l4 + (-1 : Int32)) (lv' := [(4, .int (l4 + (-1 : Int32))), (3, .int (l3 + (-1 : Int32))), (0, .ref a), (2, .int l2)]) (q := 3) C dX1_mergeIn_108 rfl rfl rfl (by rw [hKN]; decide) rfl ?_
          refine g_goto (pc' := 42) C dX1_mergeIn_111 (by decide) ?_
          refine g_sub (lv' := [(0, .ref a), (2, .int l2), (3, .int (l3 + (-1 : Int32))), (4, .int (l4 + (-1 : Int32)))]) [2, 3, 1, 0] rfl ?_
          exact ih _ _ _ _ _ hf hx
        · replace hf := iff' c30 hf
          refine g_aload_n C rfl (q := 0) rfl dX1_mergeIn_55 rfl ?_
          refine g_get C fc_X1 3 (by decide) wf_RX1_21 (wL_at0 rfl) rfl dX1_mergeIn_56 rfl ?_
          refine g_iload_n C rfl (q := 2) rfl dX1_mergeIn_59 rfl ?_
          obtain ⟨g33, hf⟩ := gd hf
          refine g_lald C (wL_at 4 rfl) (inB_in g33) dX1_mergeIn_60 rfl ?_
          refine g_aload_n C rfl (q := 0) rfl dX1_mergeIn_61 rfl ?_
          refine g_get C fc_X1 1 (by decide) wf_RX1_15 (wL_at0 rfl) rfl dX1_mergeIn_62 rfl ?_
          refine g_iload_n C rfl (q := 1) rfl dX1_mergeIn_65 rfl ?_
          obtain ⟨g34, hf⟩ := gd hf
          refine g_lald C (wL_at 2 rfl) (inB_in g34) dX1_mergeIn_66 rfl ?_
          obtain ⟨q35, hq35, hf⟩ := bd hf
          refine g_callS0 (st' := []) (as := [.long (oo l3.toNatClampNeg), .long (ps l2.toNatClampNeg)]) (st2 := [.int q35]) (k := 2) C ⟨wm_RX1_97, ws_X0_isBelow, wi_RX0, wk_X0_isBelow, by decide +kernel⟩ (c_X0_isBelow (l := kL K) (E := kE K)  _ hq35) (by rw [hKR]; exact ⟨rfl, rfl, ⟨by decide, by decide⟩, by decide, by decide⟩) rfl rfl (by simp) rfl dX1_mergeIn_67 rfl ?_
          refine g_if_eq (tgt := 92) C dX1_mergeIn_70 (by decide) rfl (fun c36 => ?_) (fun c36 => ?_)
          · replace hf := ift c36 hf
            refine g_aload_n C rfl (q := 0) rfl dX1_mergeIn_92 rfl ?_
            refine g_get C fc_X1 1 (by decide) wf_RX1_15 (wL_at0 rfl) rfl dX1_mergeIn_93 rfl ?_
            refine g_iload C (q := 3) rfl dX1_mergeIn_96 rfl ?_
            refine g_aload_n C rfl (q := 0) rfl dX1_mergeIn_98 rfl ?_
            refine g_get C fc_X1 3 (by decide) wf_RX1_21 (wL_at0 rfl) rfl dX1_mergeIn_99 rfl ?_
            refine g_iload_n C rfl (q := 2) rfl dX1_mergeIn_102 rfl ?_
            obtain ⟨g37, hf⟩ := gd hf
            refine g_lald C (wL_at 4 rfl) (inB_in g37) dX1_mergeIn_103 rfl ?_
            obtain ⟨g38, hf⟩ := gd hf
            refine g_last (h' := (wPc σ a ss (va_up ps l4.toNatClampNeg (oo l3.toNatClampNeg)) hv oo cu mm sk pk kw sc pn)) C (wL_at 2 rfl) (inB_in g38) (wL_up 2 (Nat.le_of_ble_eq_true rfl) rfl) dX1_mergeIn_104 rfl ?_
            refine g_iinc (v := l3 + (-1 : Int32)) (lv' := [(3, .int (l3 + (-1 : Int32))), (0, .ref a), (2, .int l2), (4, .int l4)]) (q := 2) C dX1_mergeIn_105 rfl rfl rfl (by rw [hKN]; decide) rfl ?_
            refine g_iinc (v := l4 + (-1 : Int32)) (lv' := [(4, .int (l4 + (-1 : Int32))), (3, .int (l3 + (-1 : Int32))), (0, .ref a), (2, .int l2)]) (q := 3) C dX1_mergeIn_108 rfl rfl rfl (by rw [hKN]; decide) rfl ?_
            refine g_goto (pc' := 42) C dX1_mergeIn_111 (by decide) ?_
            refine g_sub (lv' := [(0, .ref a), (2, .int l2), (3, .int (l3 + (-1 : Int32))), (4, .int (l4 + (-1 : Int32)))]) [2, 3, 1, 0] rfl ?_
            exact ih _ _ _ _ _ hf hx
          · replace hf := iff' c36 hf
            refine g_aload_n C rfl (q := 0) rfl dX1_mergeIn_73 rfl ?_
            refine g_get C fc_X1 1 (by decide) wf_RX1_15 (wL_at0 rfl) rfl dX1_mergeIn_74 rfl ?_
            refine g_iload C (q := 3) rfl dX1_mergeIn_77 rfl ?_
            refine g_aload_n C rfl (q := 0) rfl dX1_mergeIn_79 rfl ?_
            refine g_get C fc_X1 1 (by decide) wf_RX1_15 (wL_at0 rfl) rfl dX1_mergeIn_80 rfl ?_
            refine g_iload_n C rfl (q := 1) rfl dX1_mergeIn_83 rfl ?_
            obtain ⟨g39, hf⟩ := gd hf
            refine g_lald C (wL_at 2 rfl) (inB_in g39) dX1_mergeIn_84 rfl ?_
            obtain ⟨g40, hf⟩ := gd hf
            refine g_last (h' := (wPc σ a ss (va_up ps l4.toNatClampNeg (ps l2.toNatClampNeg)) hv oo cu mm sk pk kw sc pn)) C (wL_at 2 rfl) (inB_in g40) (wL_up 2 (Nat.le_of_ble_eq_true rfl) rfl) dX1_mergeIn_85 rfl ?_
            refine g_iinc (v := l2 + (-1 : Int32)) (lv' := [(2, .int (l2 + (-1 : Int32))), (0, .ref a), (3, .int l3), (4, .int l4)]) (q := 1) C dX1_mergeIn_86 rfl rfl rfl (by rw [hKN]; decide) rfl ?_
            refine g_goto (pc' := 108) C dX1_mergeIn_89 (by decide) ?_
            refine g_iinc (v := l4 + (-1 : Int32)) (lv' := [(4, .int (l4 + (-1 : Int32))), (2, .int (l2 + (-1 : Int32))), (0, .ref a), (3, .int l3)]) (q := 3) C dX1_mergeIn_108 rfl rfl rfl (by rw [hKN]; decide) rfl ?_
            refine g_goto (pc' := 42) C dX1_mergeIn_111 (by decide) ?_
            refine g_sub (lv' := [(0, .ref a), (2, .int (l2 + (-1 : Int32))), (3, .int l3), (4, .int (l4 + (-1 : Int32)))]) [2, 1, 3, 0] rfl ?_
            exact ih _ _ _ _ _ hf hx
set_option maxHeartbeats 2000000 in
set_option maxRecDepth 20000 in
theorem c_X1_mergeIn {l : Launch} {E : Ex} {n : Nat} {σ : AH} {a : Nat} {ss : Nat → Int64} {ps : Nat → Int64} {hv : Nat → Int64} {oo : Nat → Int64} {cu : Int64} {mm : Int32} {sk : Int32} {pk : Int32} {kw : Int64} {sc : Int32} {pn : Int32} {count : Int32} {fu : Nat} (res : ((Nat → Int64) × Int32)) (hf : f_X1_mergeIn fu ps oo pn count = some res) : Con l E yX1_mergeIn (.code yX1_mergeIn cX1_mergeIn 5 none :: TT) ({ frames := 1, cells := 0, slots := 0, locals := 23 } : Room) 0 0 [.ref a, .int count] (wPc σ a ss ps hv oo cu mm sk pk kw sc pn) n none (wPc σ a ss res.1 hv oo cu mm sk pk kw sc res.2) n := by
  refine con_intro (by decide +kernel) (Nat.le_of_ble_eq_true rfl) ?_
  intro K C hKR hKL hKE hKN hKQ
  subst hKL
  subst hKE
  have C : Cx K RX1 "mergeIn" cX1_mergeIn none := C
  show G K 0 0 0 [(0, .ref a), (1, .int count)] [] (wPc σ a ss ps hv oo cu mm sk pk kw sc pn) n
  unfold f_X1_mergeIn at hf
  refine g_aload_n C rfl (q := 0) rfl dX1_mergeIn_0 rfl ?_
  refine g_get C fc_X1 10 (by decide) wf_RX1_52 (wL_at0 rfl) rfl dX1_mergeIn_1 rfl ?_
  refine g_iload_n C rfl (q := 1) rfl dX1_mergeIn_4 rfl ?_
  refine g_iadd C dX1_mergeIn_5 rfl ?_
  refine g_sipush (v := 896) C (by decide) dX1_mergeIn_6 rfl ?_
  refine g_icmp_le (tgt := 13) C dX1_mergeIn_9 (by decide) rfl (fun c1 => ?_) (fun c1 => ?_)
  · replace hf := ift c1 hf
    refine g_aload_n C rfl (q := 0) rfl dX1_mergeIn_13 rfl ?_
    refine g_get C fc_X1 10 (by decide) wf_RX1_52 (wL_at0 rfl) rfl dX1_mergeIn_14 rfl ?_
    refine g_iconst (v := 1) C (by decide) dX1_mergeIn_17 rfl ?_
    refine g_isub C dX1_mergeIn_18 rfl ?_
    refine g_istore_n (i := 2) (lv' := [(2, .int (pn - (1 : Int32))), (0, .ref a), (1, .int count)]) C dX1_mergeIn_19 rfl rfl (by rw [hKN]; decide) rfl ?_
    refine g_iload_n C rfl (q := 2) rfl dX1_mergeIn_20 rfl ?_
    refine g_iconst (v := 1) C (by decide) dX1_mergeIn_21 rfl ?_
    refine g_isub C dX1_mergeIn_22 rfl ?_
    refine g_istore_n (i := 3) (lv' := [(3, .int (count - (1 : Int32))), (2, .int (pn - (1 : Int32))), (0, .ref a), (1, .int count)]) C dX1_mergeIn_23 rfl rfl (by rw [hKN]; decide) rfl ?_
    refine g_aload_n C rfl (q := 2) rfl dX1_mergeIn_24 rfl ?_
    refine g_dup C rfl dX1_mergeIn_25 rfl ?_
    refine g_get C fc_X1 10 (by decide) wf_RX1_52 (wL_at0 rfl) rfl dX1_mergeIn_26 rfl ?_
    refine g_iload_n C rfl (q := 3) rfl dX1_mergeIn_29 rfl ?_
    refine g_iadd C dX1_mergeIn_30 rfl ?_
    refine g_put (h' := (wPc σ a ss ps hv oo cu mm sk pk kw sc (pn + count))) C fc_X1 10 (by decide) wf_RX1_52 rfl rfl rfl (Nat.le_of_ble_eq_true rfl) (wL_at0 rfl) (wL_up0 (Nat.le_of_ble_eq_true rfl) rfl) dX1_mergeIn_31 rfl ?_
    refine g_aload_n C rfl (q := 2) rfl dX1_mergeIn_34 rfl ?_
    refine g_get C fc_X1 10 (by decide) wf_RX1_52 (wL_at0 rfl) rfl dX1_mergeIn_35 rfl ?_
    refine g_iconst (v := 1) C (by decide) dX1_mergeIn_38 rfl ?_
    refine g_isub C dX1_mergeIn_39 rfl ?_
    refine g_istore (i := 4) (lv' := [(4, .int ((pn + count) - (1 : Int32))), (3, .int (count - (1 : Int32))), (2, .int (pn - (1 : Int32))), (0, .ref a), (1, .int count)]) C dX1_mergeIn_40 rfl (by rw [hKN]; decide) rfl ?_
    refine g_sub (lv' := [(0, .ref a), (2, .int (pn - (1 : Int32))), (3, .int (count - (1 : Int32))), (4, .int ((pn + count) - (1 : Int32)))]) [3, 2, 1, 0] rfl ?_
    obtain ⟨q41, hq41, hf⟩ := bd hf
    refine g_X1_mergeIn_42 (ss := ss) (hv := hv) (oo := oo) (cu := cu) (mm := mm) (sk := sk) (pk := pk) (kw := kw) (sc := sc) (pn := pn + count) C hKR hKN _ _ _ _ _ _ hq41 ?_
    cases hf
    exact g_vret C hKQ dX1_mergeIn_114
  · replace hf := iff' c1 hf
    cases hf
    exact g_vret C hKQ dX1_mergeIn_12
def f_X1_indexPlaces_52  (l2 : Int32) (l3 : Int64) : Nat → Int64 → (Nat → Int64) → Option (Nat → Int64)
  | 0, _, _ => none
  | fu + 1, l5, hv => (if l5 = (0 : Int64) then some hv else ((f_X0_lowest l5).bind fun q49 => (if inB ((q49 * (14 : Int32)) + l2) 910 = true then (if inB ((q49 * (14 : Int32)) + l2) 910 = true then f_X1_indexPlaces_52 l2 l3 fu (l5 &&& (l5 - (1 : Int64))) (va_up hv ((q49 * (14 : Int32)) + l2).toNatClampNeg ((hv ((q49 * (14 : Int32)) + l2).toNatClampNeg) ||| l3)) else none) else none)))
def f_X1_indexPlaces_10  (ps : Nat → Int64) (pn : Int32) : Nat → Int32 → (Nat → Int64) → Option (Nat → Int64)
  | 0, _, _ => none
  | fu + 1, l1, hv => (if pn ≤ l1 then some hv else (if inB ((896 : Int32) + (l1 / (64 : Int32))) 910 = true then (if inB ((896 : Int32) + (l1 / (64 : Int32))) 910 = true then (if inB l1 896 = true then ((f_X1_indexPlaces_52 (l1 / (64 : Int32)) ((1 : Int64) <<< ((l1 - l1 / (64 : Int32) * (64 : Int32)).toInt64 &&& 63)) fu (ps l1.toNatClampNeg) (va_up hv ((896 : Int32) + (l1 / (64 : Int32))).toNatClampNeg ((hv ((896 : Int32) + (l1 / (64 : Int32))).toNatClampNeg) ||| ((1 : Int64) <<< ((l1 - l1 / (64 : Int32) * (64 : Int32)).toInt64 &&& 63))))).bind fun q52 => f_X1_indexPlaces_10 ps pn fu (l1 + (1 : Int32)) q52) else none) else none) else none))
def f_X1_indexPlaces (fu : Nat) (ps : Nat → Int64) (hv : Nat → Int64) (pn : Int32) : Option (Nat → Int64) := ((f_J7_fill_d0a16 fu 910 hv (0 : Int64)).bind fun q1 => ((f_X1_indexPlaces_10 ps pn fu (0 : Int32) q1).bind fun q53 => some q53))
set_option maxHeartbeats 2000000 in
set_option maxRecDepth 20000 in
theorem g_X1_indexPlaces_52 {K : KX} {n : Nat} {σ : AH} {a : Nat} {l1 : Int32} {l2 : Int32} {l3 : Int64} {ss : Nat → Int64} {ps : Nat → Int64} {oo : Nat → Int64} {cu : Int64} {mm : Int32} {sk : Int32} {pk : Int32} {kw : Int64} {sc : Int32} {pn : Int32} (C : Cx K RX1 "indexPlaces" cX1_indexPlaces none) (hKR : kR K = ({ frames := 2, cells := 0, slots := 0, locals := 42 } : Room)) (hKN : kN K = 7) : ∀ (fu : Nat) (l5 : Int64) (hv : Nat → Int64) (res : (Nat → Int64)), f_X1_indexPlaces_52 l2 l3 fu l5 hv = some res → G K 0 0 90 [(0, .ref a), (1, .int l1)] [] (wPc σ a ss ps res oo cu mm sk pk kw sc pn) n → G K 0 0 52 [(0, .ref a), (1, .int l1), (2, .int l2), (3, .long l3), (5, .long l5)] [] (wPc σ a ss ps hv oo cu mm sk pk kw sc pn) n := by
  intro fu
  induction fu with
  | zero =>
    intro l5 hv res hf
    exact absurd hf (by simp [f_X1_indexPlaces_52])
  | succ fu ih =>
    intro l5 hv res hf hx
    rw [f_X1_indexPlaces_52] at hf
    refine g_lload C (q := 4) rfl dX1_indexPlaces_52 rfl ?_
    refine g_lconst (v := 0) C (by decide) dX1_indexPlaces_54 rfl ?_
    refine g_lif_eq (tgt := 90) C dX1_indexPlaces_55 rfl dX1_indexPlaces_56 (by decide) rfl (fun c48 => ?_) (fun c48 => ?_)
    · replace hf := ift c48 hf
      cases hf
      refine g_sub (lv' := [(0, .ref a), (1, .int l1)]) [0, 1] rfl ?_
      exact hx
    · replace hf := iff' c48 hf
      refine g_aload_n C rfl (q := 0) rfl dX1_indexPlaces_59 rfl ?_
      refine g_get C fc_X1 2 (by decide) wf_RX1_18 (wL_at0 rfl) rfl dX1_indexPlaces_60 rfl ?_
      refine g_lload C (q := 4) rfl dX1_indexPlaces_63 rfl ?_
      obtain ⟨q49, hq49, hf⟩ := bd hf
      refine g_callS0 (st' := [.ref (a + 3)]) (as := [.long l5]) (st2 := [.int q49, .ref (a + 3)]) (k := 1) C ⟨wm_RX1_113, ws_X0_lowest, wi_RX0, wk_X0_lowest, by decide +kernel⟩ (c_X0_lowest (l := kL K) (E := kE K)  _ hq49) (by rw [hKR]; exact ⟨rfl, rfl, ⟨by decide, by decide⟩, by decide, by decide⟩) rfl rfl (by simp [Value.category]) rfl dX1_indexPlaces_65 rfl ?_
      refine g_bipush (v := 14) C (by decide) dX1_indexPlaces_68 rfl ?_
      refine g_imul C dX1_indexPlaces_70 rfl ?_
      refine g_iload_n C rfl (q := 2) rfl dX1_indexPlaces_71 rfl ?_
      refine g_iadd C dX1_indexPlaces_72 rfl ?_
      refine g_dup2 C rfl rfl dX1_indexPlaces_73 rfl ?_
      obtain ⟨g50, hf⟩ := gd hf
      refine g_lald C (wL_at 3 rfl) (inB_in g50) dX1_indexPlaces_74 rfl ?_
      refine g_lload_n C rfl (q := 3) rfl dX1_indexPlaces_75 rfl ?_
      refine g_lor C dX1_indexPlaces_76 rfl ?_
      obtain ⟨g51, hf⟩ := gd hf
      refine g_last (h' := (wPc σ a ss ps (va_up hv ((q49 * (14 : Int32)) + l2).toNatClampNeg ((hv ((q49 * (14 : Int32)) + l2).toNatClampNeg) ||| l3)) oo cu mm sk pk kw sc pn)) C (wL_at 3 rfl) (inB_in g51) (wL_up 3 (Nat.le_of_ble_eq_true rfl) rfl) dX1_indexPlaces_77 rfl ?_
      refine g_lload C (q := 4) rfl dX1_indexPlaces_78 rfl ?_
      refine g_lload C (q := 4) rfl dX1_indexPlaces_80 rfl ?_
      refine g_lconst (v := 1) C (by decide) dX1_indexPlaces_82 rfl ?_
      refine g_lsub C dX1_indexPlaces_83 rfl ?_
      refine g_land C dX1_indexPlaces_84 rfl ?_
      refine g_lstore (i := 5) (lv' := [(5, .long (l5 &&& (l5 - (1 : Int64)))), (0, .ref a), (1, .int l1), (2, .int l2), (3, .long l3)]) C dX1_indexPlaces_85 rfl (by rw [hKN]; decide) rfl ?_
      refine g_goto (pc' := 52) C dX1_indexPlaces_87 (by decide) ?_
      refine g_sub (lv' := [(0, .ref a), (1, .int l1), (2, .int l2), (3, .long l3), (5, .long (l5 &&& (l5 - (1 : Int64))))]) [1, 2, 3, 4, 0] rfl ?_
      exact ih _ _ _ hf hx
set_option maxHeartbeats 2000000 in
set_option maxRecDepth 20000 in
theorem g_X1_indexPlaces_10 {K : KX} {n : Nat} {σ : AH} {a : Nat} {ss : Nat → Int64} {ps : Nat → Int64} {oo : Nat → Int64} {cu : Int64} {mm : Int32} {sk : Int32} {pk : Int32} {kw : Int64} {sc : Int32} {pn : Int32} (C : Cx K RX1 "indexPlaces" cX1_indexPlaces none) (hKR : kR K = ({ frames := 2, cells := 0, slots := 0, locals := 42 } : Room)) (hKN : kN K = 7) : ∀ (fu : Nat) (l1 : Int32) (hv : Nat → Int64) (res : (Nat → Int64)), f_X1_indexPlaces_10 ps pn fu l1 hv = some res → G K 0 0 96 [] [] (wPc σ a ss ps res oo cu mm sk pk kw sc pn) n → G K 0 0 10 [(0, .ref a), (1, .int l1)] [] (wPc σ a ss ps hv oo cu mm sk pk kw sc pn) n := by
  intro fu
  induction fu with
  | zero =>
    intro l1 hv res hf
    exact absurd hf (by simp [f_X1_indexPlaces_10])
  | succ fu ih =>
    intro l1 hv res hf hx
    rw [f_X1_indexPlaces_10] at hf
    refine g_iload_n C rfl (q := 1) rfl dX1_indexPlaces_10 rfl ?_
    refine g_aload_n C rfl (q := 0) rfl dX1_indexPlaces_11 rfl ?_
    refine g_get C fc_X1 10 (by decide) wf_RX1_52 (wL_at0 rfl) rfl dX1_indexPlaces_12 rfl ?_
    refine g_icmp_ge (tgt := 96) C dX1_indexPlaces_15 (by decide) rfl (fun c36 => ?_) (fun c36 => ?_)
    · replace hf := ift c36 hf
      cases hf
      refine g_sub (lv' := []) [] rfl ?_
      exact hx
    · replace hf := iff' c36 hf
      refine g_iload_n C rfl (q := 1) rfl dX1_indexPlaces_18 rfl ?_
      refine g_bipush (v := 64) C (by decide) dX1_indexPlaces_19 rfl ?_
      refine g_idiv C (by decide) dX1_indexPlaces_21 rfl ?_
      refine g_istore_n (i := 2) (lv' := [(2, .int (l1 / (64 : Int32))), (0, .ref a), (1, .int l1)]) C dX1_indexPlaces_22 rfl rfl (by rw [hKN]; decide) rfl ?_
      refine g_lconst (v := 1) C (by decide) dX1_indexPlaces_23 rfl ?_
      refine g_iload_n C rfl (q := 2) rfl dX1_indexPlaces_24 rfl ?_
      refine g_bipush (v := 64) C (by decide) dX1_indexPlaces_25 rfl ?_
      refine g_irem C (by decide) dX1_indexPlaces_27 rfl ?_
      refine g_lshl C dX1_indexPlaces_28 rfl ?_
      refine g_lstore_n (i := 3) (lv' := [(3, .long ((1 : Int64) <<< ((l1 - l1 / (64 : Int32) * (64 : Int32)).toInt64 &&& 63))), (2, .int (l1 / (64 : Int32))), (0, .ref a), (1, .int l1)]) C dX1_indexPlaces_29 rfl rfl (by rw [hKN]; decide) rfl ?_
      refine g_aload_n C rfl (q := 2) rfl dX1_indexPlaces_30 rfl ?_
      refine g_get C fc_X1 2 (by decide) wf_RX1_18 (wL_at0 rfl) rfl dX1_indexPlaces_31 rfl ?_
      refine g_sipush (v := 896) C (by decide) dX1_indexPlaces_34 rfl ?_
      refine g_iload_n C rfl (q := 1) rfl dX1_indexPlaces_37 rfl ?_
      refine g_iadd C dX1_indexPlaces_38 rfl ?_
      refine g_dup2 C rfl rfl dX1_indexPlaces_39 rfl ?_
      obtain ⟨g37, hf⟩ := gd hf
      refine g_lald C (wL_at 3 rfl) (inB_in g37) dX1_indexPlaces_40 rfl ?_
      refine g_lload_n C rfl (q := 0) rfl dX1_indexPlaces_41 rfl ?_
      refine g_lor C dX1_indexPlaces_42 rfl ?_
      obtain ⟨g38, hf⟩ := gd hf
      refine g_last (h' := (wPc σ a ss ps (va_up hv ((896 : Int32) + (l1 / (64 : Int32))).toNatClampNeg ((hv ((896 : Int32) + (l1 / (64 : Int32))).toNatClampNeg) ||| ((1 : Int64) <<< ((l1 - l1 / (64 : Int32) * (64 : Int32)).toInt64 &&& 63)))) oo cu mm sk pk kw sc pn)) C (wL_at 3 rfl) (inB_in g38) (wL_up 3 (Nat.le_of_ble_eq_true rfl) rfl) dX1_indexPlaces_43 rfl ?_
      refine g_aload_n C rfl (q := 2) rfl dX1_indexPlaces_44 rfl ?_
      refine g_get C fc_X1 1 (by decide) wf_RX1_15 (wL_at0 rfl) rfl dX1_indexPlaces_45 rfl ?_
      refine g_iload_n C rfl (q := 3) rfl dX1_indexPlaces_48 rfl ?_
      obtain ⟨g39, hf⟩ := gd hf
      refine g_lald C (wL_at 2 rfl) (inB_in g39) dX1_indexPlaces_49 rfl ?_
      refine g_lstore (i := 5) (lv' := [(5, .long (ps l1.toNatClampNeg)), (3, .long ((1 : Int64) <<< ((l1 - l1 / (64 : Int32) * (64 : Int32)).toInt64 &&& 63))), (2, .int (l1 / (64 : Int32))), (0, .ref a), (1, .int l1)]) C dX1_indexPlaces_50 rfl (by rw [hKN]; decide) rfl ?_
      refine g_sub (lv' := [(0, .ref a), (1, .int l1), (2, .int (l1 / (64 : Int32))), (3, .long ((1 : Int64) <<< ((l1 - l1 / (64 : Int32) * (64 : Int32)).toInt64 &&& 63))), (5, .long (ps l1.toNatClampNeg))]) [3, 4, 2, 1, 0] rfl ?_
      obtain ⟨q52, hq52, hf⟩ := bd hf
      refine g_X1_indexPlaces_52 (l1 := l1) (l2 := l1 / (64 : Int32)) (l3 := (1 : Int64) <<< ((l1 - l1 / (64 : Int32) * (64 : Int32)).toInt64 &&& 63)) (ss := ss) (ps := ps) (oo := oo) (cu := cu) (mm := mm) (sk := sk) (pk := pk) (kw := kw) (sc := sc) (pn := pn) C hKR hKN _ _ _ _ hq52 ?_
      refine g_iinc (v := l1 + (1 : Int32)) (lv' := [(1, .int (l1 + (1 : Int32))), (0, .ref a)]) (q := 1) C dX1_indexPlaces_90 rfl rfl rfl (by rw [hKN]; decide) rfl ?_
      refine g_goto (pc' := 10) C dX1_indexPlaces_93 (by decide) ?_
      refine g_sub (lv' := [(0, .ref a), (1, .int (l1 + (1 : Int32)))]) [1, 0] rfl ?_
      exact ih _ _ _ hf hx
set_option maxHeartbeats 2000000 in
set_option maxRecDepth 20000 in
theorem c_X1_indexPlaces {l : Launch} {E : Ex} {n : Nat} {σ : AH} {a : Nat} {ss : Nat → Int64} {ps : Nat → Int64} {hv : Nat → Int64} {oo : Nat → Int64} {cu : Int64} {mm : Int32} {sk : Int32} {pk : Int32} {kw : Int64} {sc : Int32} {pn : Int32}  {fu : Nat} (res : (Nat → Int64)) (hf : f_X1_indexPlaces fu ps hv pn = some res) : Con l E yX1_indexPlaces (.code yX1_indexPlaces cX1_indexPlaces 7 none :: TT) ({ frames := 2, cells := 0, slots := 0, locals := 42 } : Room) 0 0 [.ref a] (wPc σ a ss ps hv oo cu mm sk pk kw sc pn) n none (wPc σ a ss ps res oo cu mm sk pk kw sc pn) n := by
  refine con_intro (by decide +kernel) (Nat.le_of_ble_eq_true rfl) ?_
  intro K C hKR hKL hKE hKN hKQ
  subst hKL
  subst hKE
  have C : Cx K RX1 "indexPlaces" cX1_indexPlaces none := C
  show G K 0 0 0 [(0, .ref a)] [] (wPc σ a ss ps hv oo cu mm sk pk kw sc pn) n
  unfold f_X1_indexPlaces at hf
  refine g_aload_n C rfl (q := 0) rfl dX1_indexPlaces_0 rfl ?_
  refine g_get C fc_X1 2 (by decide) wf_RX1_18 (wL_at0 rfl) rfl dX1_indexPlaces_1 rfl ?_
  refine g_lconst (v := 0) C (by decide) dX1_indexPlaces_4 rfl ?_
  obtain ⟨q1, hq1, hf⟩ := bd hf
  refine g_heap (wA_self (z := 910) (wL_at 3 rfl)) ?_
  refine g_callS0 (st' := []) (as := [.ref (a + 3), .long (0 : Int64)]) (st2 := []) (k := 2) C ⟨wm_RX1_107, ws_J7_fill_d0a16, wi_RJ7, wk_J7_fill_d0a16, by decide +kernel⟩ (c_J7_fill_d0a16 (l := kL K) (E := kE K) (σ := (wPc σ a ss ps hv oo cu mm sk pk kw sc pn)) (a := a + 3) (z := 910) _ hq1) (by rw [hKR]; exact ⟨rfl, rfl, ⟨by decide, by decide⟩, by decide, by decide⟩) rfl rfl (by simp) rfl dX1_indexPlaces_5 rfl ?_
  refine g_heap (h' := (wPc σ a ss ps q1 oo cu mm sk pk kw sc pn)) (wA_up (wL_up 3 (Nat.le_of_ble_eq_true rfl) rfl)) ?_
  refine g_iconst (v := 0) C (by decide) dX1_indexPlaces_8 rfl ?_
  refine g_istore_n (i := 1) (lv' := [(1, .int (0 : Int32)), (0, .ref a)]) C dX1_indexPlaces_9 rfl rfl (by rw [hKN]; decide) rfl ?_
  refine g_sub (lv' := [(0, .ref a), (1, .int (0 : Int32))]) [1, 0] rfl ?_
  obtain ⟨q53, hq53, hf⟩ := bd hf
  refine g_X1_indexPlaces_10 (ss := ss) (ps := ps) (oo := oo) (cu := cu) (mm := mm) (sk := sk) (pk := pk) (kw := kw) (sc := sc) (pn := pn) C hKR hKN _ _ _ _ hq53 ?_
  cases hf
  exact g_vret C hKQ dX1_indexPlaces_96
def f_X1_learnPlaces_28  (l1 : Int64) (ss : Nat → Int64) (sc : Int32) : Nat → Int32 → (Nat → Int64) → (Nat → Int64) → Int32 → Option ((Nat → Int64) × (Nat → Int64) × Int32)
  | 0, _, _, _, _ => none
  | fu + 1, l3, ps, oo, pn => (if sc ≤ l3 then some (ps, oo, pn) else (if inB l3 48 = true then ((f_X1_placeOneShape fu oo (ss l3.toNatClampNeg) l1).bind fun q13 => ((f_X1_mergeIn fu ps q13.2 pn q13.1).bind fun q14 => f_X1_learnPlaces_28 l1 ss sc fu (l3 + (1 : Int32)) q14.1 q13.2 q14.2)) else none))
def f_X1_learnPlaces (fu : Nat) (ss : Nat → Int64) (ps : Nat → Int64) (hv : Nat → Int64) (oo : Nat → Int64) (cu : Int64) (mm : Int32) (sk : Int32) (pk : Int32) (kw : Int64) (sc : Int32) (pn : Int32) (within : Int64) : Option ((Nat → Int64) × (Nat → Int64) × (Nat → Int64) × (Nat → Int64) × Int32 × Int32 × Int64 × Int32 × Int32) := ((f_X1_learnShapes fu ss cu mm sk sc).bind fun q1 => (if pk = 0 then ((f_X1_learnPlaces_28 within q1.1 q1.2.2 fu (0 : Int32) ps oo (0 : Int32)).bind fun q15 => ((f_X1_indexPlaces fu q15.1 hv q15.2.2).bind fun q16 => some (q1.1, q15.1, q16, q15.2.1, q1.2.1, (1 : Int32), within, q1.2.2, q15.2.2))) else (if kw = within then some (q1.1, ps, hv, oo, q1.2.1, pk, kw, q1.2.2, pn) else ((f_X1_learnPlaces_28 within q1.1 q1.2.2 fu (0 : Int32) ps oo (0 : Int32)).bind fun q18 => ((f_X1_indexPlaces fu q18.1 hv q18.2.2).bind fun q19 => some (q1.1, q18.1, q19, q18.2.1, q1.2.1, (1 : Int32), within, q1.2.2, q18.2.2))))))
set_option maxHeartbeats 2000000 in
set_option maxRecDepth 20000 in
theorem g_X1_learnPlaces_28 {K : KX} {n : Nat} {σ : AH} {a : Nat} {l1 : Int64} {ss : Nat → Int64} {hv : Nat → Int64} {cu : Int64} {mm : Int32} {sk : Int32} {pk : Int32} {kw : Int64} {sc : Int32} (C : Cx K RX1 "learnPlaces" cX1_learnPlaces none) (hKR : kR K = ({ frames := 4, cells := 0, slots := 0, locals := 96 } : Room)) (hKN : kN K = 4) : ∀ (fu : Nat) (l3 : Int32) (ps : Nat → Int64) (oo : Nat → Int64) (pn : Int32) (res : ((Nat → Int64) × (Nat → Int64) × Int32)), f_X1_learnPlaces_28 l1 ss sc fu l3 ps oo pn = some res → G K 0 0 57 [(0, .ref a), (1, .long l1)] [] (wPc σ a ss res.1 hv res.2.1 cu mm sk pk kw sc res.2.2) n → G K 0 0 28 [(0, .ref a), (1, .long l1), (3, .int l3)] [] (wPc σ a ss ps hv oo cu mm sk pk kw sc pn) n := by
  intro fu
  induction fu with
  | zero =>
    intro l3 ps oo pn res hf
    exact absurd hf (by simp [f_X1_learnPlaces_28])
  | succ fu ih =>
    intro l3 ps oo pn res hf hx
    rw [f_X1_learnPlaces_28] at hf
    refine g_iload_n C rfl (q := 2) rfl dX1_learnPlaces_28 rfl ?_
    refine g_aload_n C rfl (q := 0) rfl dX1_learnPlaces_29 rfl ?_
    refine g_get C fc_X1 9 (by decide) wf_RX1_44 (wL_at0 rfl) rfl dX1_learnPlaces_30 rfl ?_
    refine g_icmp_ge (tgt := 57) C dX1_learnPlaces_33 (by decide) rfl (fun c11 => ?_) (fun c11 => ?_)
    · replace hf := ift c11 hf
      cases hf
      refine g_sub (lv' := [(0, .ref a), (1, .long l1)]) [0, 1] rfl ?_
      exact hx
    · replace hf := iff' c11 hf
      refine g_aload_n C rfl (q := 0) rfl dX1_learnPlaces_36 rfl ?_
      refine g_aload_n C rfl (q := 0) rfl dX1_learnPlaces_37 rfl ?_
      refine g_aload_n C rfl (q := 0) rfl dX1_learnPlaces_38 rfl ?_
      refine g_get C fc_X1 0 (by decide) wf_RX1_11 (wL_at0 rfl) rfl dX1_learnPlaces_39 rfl ?_
      refine g_iload_n C rfl (q := 2) rfl dX1_learnPlaces_42 rfl ?_
      obtain ⟨g12, hf⟩ := gd hf
      refine g_lald C (wL_at 1 rfl) (inB_in g12) dX1_learnPlaces_43 rfl ?_
      refine g_lload_n C rfl (q := 1) rfl dX1_learnPlaces_44 rfl ?_
      obtain ⟨q13, hq13, hf⟩ := bd hf
      refine g_callV0 (st' := [.ref a]) (as := [.long (ss l3.toNatClampNeg), .long l1]) (st2 := [.int q13.1, .ref a]) (k := 2) C ⟨wm_RX1_61, wn_X1_placeOneShape, wv_X1_placeOneShape, wi_RX1, wk_X1_placeOneShape, by decide +kernel⟩ rfl (wL_at0 rfl) (c_X1_placeOneShape (l := kL K) (E := kE K)  _ hq13) (by rw [hKR]; exact ⟨rfl, rfl, ⟨by decide, by decide⟩, by decide, by decide⟩) rfl rfl (by simp [Value.category]) rfl dX1_learnPlaces_45 rfl ?_
      obtain ⟨q14, hq14, hf⟩ := bd hf
      refine g_callV0 (st' := []) (as := [.int q13.1]) (st2 := []) (k := 1) C ⟨wm_RX1_65, wn_X1_mergeIn, wv_X1_mergeIn, wi_RX1, wk_X1_mergeIn, by decide +kernel⟩ rfl (wL_at0 rfl) (c_X1_mergeIn (l := kL K) (E := kE K)  _ hq14) (by rw [hKR]; exact ⟨rfl, rfl, ⟨by decide, by decide⟩, by decide, by decide⟩) rfl rfl (by simp) rfl dX1_learnPlaces_48 rfl ?_
      refine g_iinc (v := l3 + (1 : Int32)) (lv' := [(3, .int (l3 + (1 : Int32))), (0, .ref a), (1, .long l1)]) (q := 2) C dX1_learnPlaces_51 rfl rfl rfl (by rw [hKN]; decide) rfl ?_
      refine g_goto (pc' := 28) C dX1_learnPlaces_54 (by decide) ?_
      refine g_sub (lv' := [(0, .ref a), (1, .long l1), (3, .int (l3 + (1 : Int32)))]) [1, 2, 0] rfl ?_
      exact ih _ _ _ _ _ hf hx
set_option maxHeartbeats 2000000 in
set_option maxRecDepth 20000 in
theorem c_X1_learnPlaces {l : Launch} {E : Ex} {n : Nat} {σ : AH} {a : Nat} {ss : Nat → Int64} {ps : Nat → Int64} {hv : Nat → Int64} {oo : Nat → Int64} {cu : Int64} {mm : Int32} {sk : Int32} {pk : Int32} {kw : Int64} {sc : Int32} {pn : Int32} {within : Int64} {fu : Nat} (res : ((Nat → Int64) × (Nat → Int64) × (Nat → Int64) × (Nat → Int64) × Int32 × Int32 × Int64 × Int32 × Int32)) (hf : f_X1_learnPlaces fu ss ps hv oo cu mm sk pk kw sc pn within = some res) : Con l E yX1_learnPlaces (.code yX1_learnPlaces cX1_learnPlaces 4 none :: TT) ({ frames := 4, cells := 0, slots := 0, locals := 96 } : Room) 0 0 [.ref a, .long within] (wPc σ a ss ps hv oo cu mm sk pk kw sc pn) n none (wPc σ a res.1 res.2.1 res.2.2.1 res.2.2.2.1 cu mm res.2.2.2.2.1 res.2.2.2.2.2.1 res.2.2.2.2.2.2.1 res.2.2.2.2.2.2.2.1 res.2.2.2.2.2.2.2.2) n := by
  refine con_intro (by decide +kernel) (Nat.le_of_ble_eq_true rfl) ?_
  intro K C hKR hKL hKE hKN hKQ
  subst hKL
  subst hKE
  have C : Cx K RX1 "learnPlaces" cX1_learnPlaces none := C
  show G K 0 0 0 [(0, .ref a), (1, .long within)] [] (wPc σ a ss ps hv oo cu mm sk pk kw sc pn) n
  unfold f_X1_learnPlaces at hf
  refine g_aload_n C rfl (q := 0) rfl dX1_learnPlaces_0 rfl ?_
  obtain ⟨q1, hq1, hf⟩ := bd hf
  refine g_callV0 (st' := []) (as := []) (st2 := []) (k := 0) C ⟨wm_RX1_41, wn_X1_learnShapes, wv_X1_learnShapes, wi_RX1, wk_X1_learnShapes, by decide +kernel⟩ rfl (wL_at0 rfl) (c_X1_learnShapes (l := kL K) (E := kE K)  _ hq1) (by rw [hKR]; exact ⟨rfl, rfl, ⟨by decide, by decide⟩, by decide, by decide⟩) rfl rfl (by simp) rfl dX1_learnPlaces_1 rfl ?_
  refine g_aload_n C rfl (q := 0) rfl dX1_learnPlaces_4 rfl ?_
  refine g_get C fc_X1 7 (by decide) wf_RX1_55 (wL_at0 rfl) rfl dX1_learnPlaces_5 rfl ?_
  refine g_if_eq (tgt := 21) C dX1_learnPlaces_8 (by decide) rfl (fun c2 => ?_) (fun c2 => ?_)
  · replace hf := ift c2 hf
    refine g_aload_n C rfl (q := 0) rfl dX1_learnPlaces_21 rfl ?_
    refine g_iconst (v := 0) C (by decide) dX1_learnPlaces_22 rfl ?_
    refine g_put (h' := (wPc σ a q1.1 ps hv oo cu mm q1.2.1 pk kw q1.2.2 (0 : Int32))) C fc_X1 10 (by decide) wf_RX1_52 rfl rfl rfl (Nat.le_of_ble_eq_true rfl) (wL_at0 rfl) (wL_up0 (Nat.le_of_ble_eq_true rfl) rfl) dX1_learnPlaces_23 rfl ?_
    refine g_iconst (v := 0) C (by decide) dX1_learnPlaces_26 rfl ?_
    refine g_istore_n (i := 3) (lv' := [(3, .int (0 : Int32)), (0, .ref a), (1, .long within)]) C dX1_learnPlaces_27 rfl rfl (by rw [hKN]; decide) rfl ?_
    refine g_sub (lv' := [(0, .ref a), (1, .long within), (3, .int (0 : Int32))]) [1, 2, 0] rfl ?_
    obtain ⟨q15, hq15, hf⟩ := bd hf
    refine g_X1_learnPlaces_28 (l1 := within) (ss := q1.1) (hv := hv) (cu := cu) (mm := mm) (sk := q1.2.1) (pk := pk) (kw := kw) (sc := q1.2.2) C hKR hKN _ _ _ _ _ _ hq15 ?_
    refine g_aload_n C rfl (q := 0) rfl dX1_learnPlaces_57 rfl ?_
    obtain ⟨q16, hq16, hf⟩ := bd hf
    refine g_callV0 (st' := []) (as := []) (st2 := []) (k := 0) C ⟨wm_RX1_69, wn_X1_indexPlaces, wv_X1_indexPlaces, wi_RX1, wk_X1_indexPlaces, by decide +kernel⟩ rfl (wL_at0 rfl) (c_X1_indexPlaces (l := kL K) (E := kE K)  _ hq16) (by rw [hKR]; exact ⟨rfl, rfl, ⟨by decide, by decide⟩, by decide, by decide⟩) rfl rfl (by simp) rfl dX1_learnPlaces_58 rfl ?_
    refine g_aload_n C rfl (q := 0) rfl dX1_learnPlaces_61 rfl ?_
    refine g_lload_n C rfl (q := 1) rfl dX1_learnPlaces_62 rfl ?_
    refine g_put (h' := (wPc σ a q1.1 q15.1 q16 q15.2.1 cu mm q1.2.1 pk within q1.2.2 q15.2.2)) C fc_X1 8 (by decide) wf_RX1_58 rfl rfl rfl (Nat.le_of_ble_eq_true rfl) (wL_at0 rfl) (wL_up0 (Nat.le_of_ble_eq_true rfl) rfl) dX1_learnPlaces_63 rfl ?_
    refine g_aload_n C rfl (q := 0) rfl dX1_learnPlaces_66 rfl ?_
    refine g_iconst (v := 1) C (by decide) dX1_learnPlaces_67 rfl ?_
    refine g_put (h' := (wPc σ a q1.1 q15.1 q16 q15.2.1 cu mm q1.2.1 (1 : Int32) within q1.2.2 q15.2.2)) C fc_X1 7 (by decide) wf_RX1_55 rfl rfl rfl (Nat.le_of_ble_eq_true rfl) (wL_at0 rfl) (wL_up0 (Nat.le_of_ble_eq_true rfl) rfl) dX1_learnPlaces_68 rfl ?_
    cases hf
    exact g_vret C hKQ dX1_learnPlaces_71
  · replace hf := iff' c2 hf
    refine g_aload_n C rfl (q := 0) rfl dX1_learnPlaces_11 rfl ?_
    refine g_get C fc_X1 8 (by decide) wf_RX1_58 (wL_at0 rfl) rfl dX1_learnPlaces_12 rfl ?_
    refine g_lload_n C rfl (q := 1) rfl dX1_learnPlaces_15 rfl ?_
    refine g_lif_ne (tgt := 21) C dX1_learnPlaces_16 rfl dX1_learnPlaces_17 (by decide) rfl (fun c17 => ?_) (fun c17 => ?_)
    · replace hf := iff' c17 hf
      refine g_aload_n C rfl (q := 0) rfl dX1_learnPlaces_21 rfl ?_
      refine g_iconst (v := 0) C (by decide) dX1_learnPlaces_22 rfl ?_
      refine g_put (h' := (wPc σ a q1.1 ps hv oo cu mm q1.2.1 pk kw q1.2.2 (0 : Int32))) C fc_X1 10 (by decide) wf_RX1_52 rfl rfl rfl (Nat.le_of_ble_eq_true rfl) (wL_at0 rfl) (wL_up0 (Nat.le_of_ble_eq_true rfl) rfl) dX1_learnPlaces_23 rfl ?_
      refine g_iconst (v := 0) C (by decide) dX1_learnPlaces_26 rfl ?_
      refine g_istore_n (i := 3) (lv' := [(3, .int (0 : Int32)), (0, .ref a), (1, .long within)]) C dX1_learnPlaces_27 rfl rfl (by rw [hKN]; decide) rfl ?_
      refine g_sub (lv' := [(0, .ref a), (1, .long within), (3, .int (0 : Int32))]) [1, 2, 0] rfl ?_
      obtain ⟨q18, hq18, hf⟩ := bd hf
      refine g_X1_learnPlaces_28 (l1 := within) (ss := q1.1) (hv := hv) (cu := cu) (mm := mm) (sk := q1.2.1) (pk := pk) (kw := kw) (sc := q1.2.2) C hKR hKN _ _ _ _ _ _ hq18 ?_
      refine g_aload_n C rfl (q := 0) rfl dX1_learnPlaces_57 rfl ?_
      obtain ⟨q19, hq19, hf⟩ := bd hf
      refine g_callV0 (st' := []) (as := []) (st2 := []) (k := 0) C ⟨wm_RX1_69, wn_X1_indexPlaces, wv_X1_indexPlaces, wi_RX1, wk_X1_indexPlaces, by decide +kernel⟩ rfl (wL_at0 rfl) (c_X1_indexPlaces (l := kL K) (E := kE K)  _ hq19) (by rw [hKR]; exact ⟨rfl, rfl, ⟨by decide, by decide⟩, by decide, by decide⟩) rfl rfl (by simp) rfl dX1_learnPlaces_58 rfl ?_
      refine g_aload_n C rfl (q := 0) rfl dX1_learnPlaces_61 rfl ?_
      refine g_lload_n C rfl (q := 1) rfl dX1_learnPlaces_62 rfl ?_
      refine g_put (h' := (wPc σ a q1.1 q18.1 q19 q18.2.1 cu mm q1.2.1 pk within q1.2.2 q18.2.2)) C fc_X1 8 (by decide) wf_RX1_58 rfl rfl rfl (Nat.le_of_ble_eq_true rfl) (wL_at0 rfl) (wL_up0 (Nat.le_of_ble_eq_true rfl) rfl) dX1_learnPlaces_63 rfl ?_
      refine g_aload_n C rfl (q := 0) rfl dX1_learnPlaces_66 rfl ?_
      refine g_iconst (v := 1) C (by decide) dX1_learnPlaces_67 rfl ?_
      refine g_put (h' := (wPc σ a q1.1 q18.1 q19 q18.2.1 cu mm q1.2.1 (1 : Int32) within q1.2.2 q18.2.2)) C fc_X1 7 (by decide) wf_RX1_55 rfl rfl rfl (Nat.le_of_ble_eq_true rfl) (wL_at0 rfl) (wL_up0 (Nat.le_of_ble_eq_true rfl) rfl) dX1_learnPlaces_68 rfl ?_
      cases hf
      exact g_vret C hKQ dX1_learnPlaces_71
    · replace hf := ift c17 hf
      cases hf
      exact g_vret C hKQ dX1_learnPlaces_20
end
