/-- a stretch of an int array copied within it -/
theorem g_copyi {K : KX} {own nm : String} {cc : ByteArray} {ret : Option FieldType} {cells slots pc pc' : Nat} {lv : List (Nat × Value)} {st : List Value} {h h' : AH} {n ix : Nat} (C : Cx K own nm cc ret) (w1 : Cond.methodLink own ix arraycopyName ∈ TT) (w2 : Cond.native arraycopyName ∈ TT) (w3 : Cond.static arraycopyName ∈ TT) (w4 : Cond.initialized "java/lang/System" ∈ TT)
    {a z : Nat} {f : Nat → Int32} (ha : h a = some (.inl (0, z, .inl f))) {sp dp k : Int32} (h1 : ¬ sp < 0) (h2 : ¬ dp < 0) (h3 : ¬ k < 0) (h4 : sp.toNatClampNeg + k.toNatClampNeg ≤ z) (h5 : dp.toNatClampNeg + k.toNatClampNeg ≤ z) (hfr : 1 ≤ (kR K).frames) (hcat : (st.map fun v => v.category).sum + (nativeFrameWords "java/lang/System" "arraycopy" 5 + 11) ≤ (kR K).locals)
    (he : hU h a (.inl (0, z, .inl (va_cpy f f sp.toNatClampNeg dp.toNatClampNeg k.toNatClampNeg))) = h') (d : decode cc pc = .ok (.invokestatic ix, 3)) (hp : pc + 3 = pc') (kk : G K cells slots pc' lv st h' n) : G K cells slots pc lv (.int k :: .int dp :: .ref a :: .int sp :: .ref a :: st) h n := by
  obtain ⟨p, l, e, R, s, m, args, below, meth, c, nL, E, Q⟩ := K
  intro ls H locs hl hR0 hn hS
  subst hp
  subst he
  have hts : ∀ x ∈ TT, x.before args s = true := C.2.2.2.2.1
  obtain ⟨hat, h0⟩ := hR0 a _ ha
  have hK := C.2.2.2.2.2.1.1
  have hcat : (st.map fun v => v.category).sum + (nativeFrameWords "java/lang/System" "arraycopy" 5 + 11) ≤ R.locals := hcat
  have nn : ∀ y : Int32, ¬ y < 0 → y.toInt = (y.toNatClampNeg : Int) := by
    intro y hy
    have hy0 : (0 : Int) ≤ y.toInt := by
      have := Int32.not_lt.mp hy
      simpa using Int32.le_iff_toInt_le.mp this
    show y.toInt = ((y.toInt.toNat : Nat) : Int)
    omega
  intro T hT X
  have hc1 : H[a]? = some (vp_cell (E.2.1 0) (z, .inl f)) := hat
  obtain ⟨-, k0, hk0, cm0, hkk0⟩ := (hK.2 0 _ rfl).1 z (fun j => .int (f j))
  obtain ⟨vm', X', step⟩ := X.arraycopy C.1 C.2.2.2.1 (hts _ w1) (hts _ w2) (hts _ w3) (hts _ w4) (src := a) (dst := a) (cs := vp_cell (E.2.1 0) (z, .inl f)) (cd := vp_cell (E.2.1 0) (z, .inl f)) (srcPos := sp) (destPos := dp) (n := k) (by rw [hT]; exact hc1) (by rw [hT]; exact hc1)
    (fun _ h => by cases h) (fun _ h => by cases h) (fun h => by cases h) (fun h => by cases h) hk0 hk0 hkk0 hkk0 (by simp [refKind]) h1 h2 h3
    (by rw [nn sp h1, nn k h3]; show ¬ _ > ((arrV (E.2.1 0) z (fun j => .int (f j))).slots.size : Int); rw [arrV_size]; omega)
    (by rw [nn dp h2, nn k h3]; show ¬ _ > ((arrV (E.2.1 0) z (fun j => .int (f j))).slots.size : Int); rw [arrV_size]; omega)
    (fun vm₁ _ i hi => by
      have e : (vp_cell (E.2.1 0) (z, .inl f)).slots.getD (sp.toNatClampNeg + i) .null = .int (f (sp.toNatClampNeg + i)) := by
        show (arrV (E.2.1 0) z (fun j => .int (f j))).slots.getD _ _ = _
        rw [Array.getD_eq_getD_getElem?, arrV_read _ _ (by omega)]
        rfl
      refine ⟨?_, ?_⟩
      · rw [e]; rfl
      · rw [e]; exact trivial)
    (g := F0 m pc ls (.int k :: .int dp :: .ref a :: .int sp :: .ref a :: st)) rfl (by rw [C.2.2.1]; exact hl.1) (rest := st) rfl (by rw [C.2.1]; exact d) hfr (by show 2 * 0 + _ + _ ≤ _; omega)
  have e1 : copied (vp_cell (E.2.1 0) (z, .inl f)) (vp_cell (E.2.1 0) (z, .inl f)) sp dp k = vp_cell (E.2.1 0) (z, .inl (va_cpy f f sp.toNatClampNeg dp.toNatClampNeg k.toNatClampNeg)) := va_copied (fun z => .int z) (E.2.1 0) (E.2.1 0) f f h4
  rw [e1] at X' step
  have hla : a < H.size := (Array.getElem?_eq_some_iff.mp hc1).1
  have hheap : ((T.setVm vm').setCell a (vp_cell (E.2.1 0) (z, .inl (va_cpy f f sp.toNatClampNeg dp.toNatClampNeg k.toNatClampNeg)))).heap = H.setIfInBounds a (vp_cell (E.2.1 0) (z, .inl (va_cpy f f sp.toNatClampNeg dp.toNatClampNeg k.toNatClampNeg))) := by rw [← hT]; rfl
  have oq : ∀ q : Nat, q ≠ a → (H.setIfInBounds a (vp_cell (E.2.1 0) (z, .inl (va_cpy f f sp.toNatClampNeg dp.toNatClampNeg k.toNatClampNeg))))[q]? = H[q]? := fun q hq => by simp [Array.getElem?_setIfInBounds, Ne.symm hq]
  obtain ⟨t, a1, b1⟩ := kk ls _ _ hl (hR0.set (e := .inl (0, z, .inl (va_cpy f f sp.toNatClampNeg dp.toNatClampNeg k.toNatClampNeg))) h0 (show (H.setIfInBounds a _)[a]? = some _ by simp [Array.getElem?_setIfInBounds, hla, ceE]) oq) (by simp; exact hn) ⟨by simp; exact hS.1, fun q g1 g2 => by
      rw [oq q (fun e => g2 (by rw [e]; exact h0))]
      exact hS.2.1 q g1 g2, fun q hq => by
      rcases List.mem_append.mp hq with h | h
      · exact hS.2.2 q h
      · obtain ⟨z, -, hz⟩ := List.mem_map.mp h
        rw [← hz]
        exact h0⟩ _ hheap X'
  exact ⟨t, step t a1, b1⟩
theorem wL_mid {σ : AH} {a : Nat} (pr B po B' : List CE) (k : Nat) (hl : B.length = B'.length) (hk : pr.length = k) : wL (wL σ a (pr ++ (B ++ po))) (a + k) B' = wL σ a (pr ++ (B' ++ po)) := by
  subst hk
  funext b
  unfold wL
  simp only [List.length_append]
  by_cases h1 : a + pr.length ≤ b ∧ b < a + pr.length + B'.length
  · rw [if_pos h1, if_pos ⟨by omega, by omega⟩, List.getElem?_append_right (by omega), List.getElem?_append_left (by omega)]
    congr 1
    omega
  · rw [if_neg h1]
    by_cases h2 : a ≤ b ∧ b < a + (pr.length + (B'.length + po.length))
    · rw [if_pos (by omega), if_pos h2]
      by_cases h3 : b - a < pr.length
      · rw [List.getElem?_append_left h3, List.getElem?_append_left h3]
      · rw [List.getElem?_append_right (by omega), List.getElem?_append_right (by omega), List.getElem?_append_right (by omega), List.getElem?_append_right (by omega)]
        congr 1
        omega
    · rw [if_neg (by omega), if_neg h2]
theorem wL_mids {σ : AH} {a : Nat} (pr B po : List CE) (k : Nat) (hk : pr.length = k) : wL σ a (pr ++ (B ++ po)) = wL (wL σ a (pr ++ (B ++ po))) (a + k) B := (wL_mid pr B po B k rfl hk).symm
def cpyB (sp dp k : Int32) (z : Nat) : Bool := decide (¬ sp < 0 ∧ ¬ dp < 0 ∧ ¬ k < 0 ∧ sp.toNatClampNeg + k.toNatClampNeg ≤ z ∧ dp.toNatClampNeg + k.toNatClampNeg ≤ z)
theorem cpyB_ok {sp dp k : Int32} {z : Nat} (h : cpyB sp dp k z = true) : ¬ sp < 0 ∧ ¬ dp < 0 ∧ ¬ k < 0 ∧ sp.toNatClampNeg + k.toNatClampNeg ≤ z ∧ dp.toNatClampNeg + k.toNatClampNeg ≤ z := of_decide_eq_true h
def wCv (σ : AH) (a b c z : Nat) (lo hi : Nat → Int32) (em : Int32) (lo2 hi2 : Nat → Int32) (em2 : Int32) (row : Nat → Int32) : AH := wL (wL (wL σ c [.inl (0, z, .inl row)]) b (cSp b lo2 hi2 em2)) a (cSp a lo hi em)
def wAp (σ : AH) (a b : Nat) (lo hi : Nat → Int32) (em : Int32) (lo2 hi2 : Nat → Int32) (em2 : Int32) : AH := wL (wL σ b (cSp b lo2 hi2 em2)) a (cSp a lo hi em)
theorem wf_RX4_30 : Cond.fieldLink RX4 30 (TX4 6).1 (TX4 6).2.1 (TX4 6).2.2.1 ∈ TT := tt_mem 155 (by decide +kernel) (by decide +kernel)
theorem wf_RX4_11 : Cond.fieldLink RX4 11 (TX4 0).1 (TX4 0).2.1 (TX4 0).2.2.1 ∈ TT := tt_mem 149 (by decide +kernel) (by decide +kernel)
theorem wf_RX4_21 : Cond.fieldLink RX4 21 (TX4 3).1 (TX4 3).2.1 (TX4 3).2.2.1 ∈ TT := tt_mem 152 (by decide +kernel) (by decide +kernel)
theorem wf_RX4_15 : Cond.fieldLink RX4 15 (TX4 1).1 (TX4 1).2.1 (TX4 1).2.2.1 ∈ TT := tt_mem 150 (by decide +kernel) (by decide +kernel)
theorem wf_RX4_18 : Cond.fieldLink RX4 18 (TX4 2).1 (TX4 2).2.1 (TX4 2).2.2.1 ∈ TT := tt_mem 151 (by decide +kernel) (by decide +kernel)
theorem wf_RX4_27 : Cond.fieldLink RX4 27 (TX4 5).1 (TX4 5).2.1 (TX4 5).2.2.1 ∈ TT := tt_mem 154 (by decide +kernel) (by decide +kernel)
theorem wf_RX4_24 : Cond.fieldLink RX4 24 (TX4 4).1 (TX4 4).2.1 (TX4 4).2.2.1 ∈ TT := tt_mem 153 (by decide +kernel) (by decide +kernel)
theorem wk_X4_hashOfDraft : Cond.code yX4_hashOfDraft cX4_hashOfDraft 3 (some .int) ∈ TT := tt_mem 666 (by decide +kernel) (by decide +kernel)
theorem wi_RX4 : Cond.initialized RX4 ∈ TT := tt_mem 38 (by decide +kernel) (by decide +kernel)
theorem wm_RX4_54 : Cond.methodLink RX4 54 yX4_hashOfDraft ∈ TT := tt_mem 663 (by decide +kernel) (by decide +kernel)
theorem wn_X4_hashOfDraft : Cond.instanceMethod yX4_hashOfDraft ∈ TT := tt_mem 665 (by decide +kernel) (by decide +kernel)
theorem wv_X4_hashOfDraft : Cond.selects yX4_hashOfDraft.cls yX4_hashOfDraft yX4_hashOfDraft ∈ TT := tt_mem 11 (by decide +kernel) (by decide +kernel)
theorem wk_X4_add : Cond.code yX4_add cX4_add 4 none ∈ TT := tt_mem 662 (by decide +kernel) (by decide +kernel)
theorem wm_RX4_40 : Cond.methodLink RX4 40 yX4_add ∈ TT := tt_mem 659 (by decide +kernel) (by decide +kernel)
theorem wn_X4_add : Cond.instanceMethod yX4_add ∈ TT := tt_mem 660 (by decide +kernel) (by decide +kernel)
theorem wv_X4_add : Cond.selects yX4_add.cls yX4_add yX4_add ∈ TT := tt_mem 661 (by decide +kernel) (by decide +kernel)
theorem wk_J7_fill_53178 : Cond.code yJ7_fill_53178 cJ7_fill_53178 4 none ∈ TT := tt_mem 658 (by decide +kernel) (by decide +kernel)
theorem ws_J7_fill_53178 : Cond.static yJ7_fill_53178 ∈ TT := tt_mem 657 (by decide +kernel) (by decide +kernel)
theorem wm_RX4_34 : Cond.methodLink RX4 34 yJ7_fill_53178 ∈ TT := tt_mem 656 (by decide +kernel) (by decide +kernel)
theorem wk_X4_rowOf : Cond.code yX4_rowOf cX4_rowOf 3 (some .int) ∈ TT := tt_mem 690 (by decide +kernel) (by decide +kernel)
theorem wm_RX4_50 : Cond.methodLink RX4 50 yX4_rowOf ∈ TT := tt_mem 751 (by decide +kernel) (by decide +kernel)
theorem wn_X4_rowOf : Cond.instanceMethod yX4_rowOf ∈ TT := tt_mem 688 (by decide +kernel) (by decide +kernel)
theorem wv_X4_rowOf : Cond.selects yX4_rowOf.cls yX4_rowOf yX4_rowOf ∈ TT := tt_mem 689 (by decide +kernel) (by decide +kernel)
theorem wm_RX4_44 : Cond.methodLink RX4 44 arraycopyName ∈ TT := tt_mem 748 (by decide +kernel) (by decide +kernel)
theorem wq_copy : Cond.native arraycopyName ∈ TT := tt_mem 750 (by decide +kernel) (by decide +kernel)
theorem ws_copy : Cond.static arraycopyName ∈ TT := tt_mem 749 (by decide +kernel) (by decide +kernel)
theorem wi_System : Cond.initialized "java/lang/System" ∈ TT := tt_mem 52 (by decide +kernel) (by decide +kernel)
theorem wk_X4_isDraft : Cond.code yX4_isDraft cX4_isDraft 3 (some .boolean) ∈ TT := tt_mem 759 (by decide +kernel) (by decide +kernel)
theorem wm_RX4_58 : Cond.methodLink RX4 58 yX4_isDraft ∈ TT := tt_mem 756 (by decide +kernel) (by decide +kernel)
theorem wn_X4_isDraft : Cond.instanceMethod yX4_isDraft ∈ TT := tt_mem 758 (by decide +kernel) (by decide +kernel)
theorem wv_X4_isDraft : Cond.selects yX4_isDraft.cls yX4_isDraft yX4_isDraft ∈ TT := tt_mem 20 (by decide +kernel) (by decide +kernel)
theorem wf_RX3_18 : Cond.fieldLink RX3 18 (TX3 2).1 (TX3 2).2.1 (TX3 2).2.2.1 ∈ TT := tt_mem 181 (by decide +kernel) (by decide +kernel)
theorem wf_RX3_9 : Cond.fieldLink RX3 9 (TX3 0).1 (TX3 0).2.1 (TX3 0).2.2.1 ∈ TT := tt_mem 179 (by decide +kernel) (by decide +kernel)
theorem wf_RX3_15 : Cond.fieldLink RX3 15 (TX3 1).1 (TX3 1).2.1 (TX3 1).2.2.1 ∈ TT := tt_mem 180 (by decide +kernel) (by decide +kernel)
theorem wm_RX3_37 : Cond.methodLink RX3 37 yX0_greatest ∈ TT := tt_mem 651 (by decide +kernel) (by decide +kernel)
theorem wm_RX3_31 : Cond.methodLink RX3 31 yX0_least ∈ TT := tt_mem 650 (by decide +kernel) (by decide +kernel)
theorem wm_RX3_28 : Cond.methodLink RX3 28 Lib.Math.max.name ∈ TT := tt_mem 713 (by decide +kernel) (by decide +kernel)
theorem ws_Math_max : Cond.static Lib.Math.max.name ∈ TT := tt_mem 693 (by decide +kernel) (by decide +kernel)
theorem wi_Math : Cond.initialized "java/lang/Math" ∈ TT := tt_mem 51 (by decide +kernel) (by decide +kernel)
theorem wk_Math_max : Cond.code Lib.Math.max.name Lib.Math.max.code 2 (some .int) ∈ TT := tt_mem 694 (by decide +kernel) (by decide +kernel)
theorem wm_RX3_22 : Cond.methodLink RX3 22 Lib.Math.min.name ∈ TT := tt_mem 710 (by decide +kernel) (by decide +kernel)
theorem ws_Math_min : Cond.static Lib.Math.min.name ∈ TT := tt_mem 711 (by decide +kernel) (by decide +kernel)
theorem wk_Math_min : Cond.code Lib.Math.min.name Lib.Math.min.code 2 (some .int) ∈ TT := tt_mem 712 (by decide +kernel) (by decide +kernel)
def f_X4_size (ct : Int32) : Option Int32 := some ct
set_option maxHeartbeats 2000000 in
set_option maxRecDepth 20000 in
theorem c_X4_size {l : Launch} {E : Ex} {n : Nat} {σ : AH} {a : Nat}  {at' : Nat → Int32} {pa : Nat → Int32} {mo : Nat → Int32} {le : Nat → Int32} {hd : Nat → Int32} {nt : Nat → Int32} {ct : Int32}  (res : Int32) (hf : f_X4_size ct = some res) : Con l E yX4_size (.code yX4_size cX4_size 1 (some .int) :: TT) ({ frames := 0, cells := 0, slots := 0, locals := 0 } : Room) 0 0 [.ref a] (wBk σ a at' pa mo le hd nt ct) n (some (.int res)) (wBk σ a at' pa mo le hd nt ct) n := by
  refine con_intro (by decide +kernel) (Nat.le_of_ble_eq_true rfl) ?_
  intro K C hKR hKL hKE hKN hKQ
  subst hKL
  subst hKE
  have C : Cx K RX4 "size" cX4_size (some .int) := C
  show G K 0 0 0 [(0, .ref a)] [] (wBk σ a at' pa mo le hd nt ct) n
  unfold f_X4_size at hf
  refine g_aload_n C rfl (q := 0) rfl dX4_size_0 rfl ?_
  refine g_get C fc_X4 6 (by decide) wf_RX4_30 (wL_at0 rfl) rfl dX4_size_1 rfl ?_
  obtain rfl := Option.some.inj hf
  exact g_iret C hKQ dX4_size_4
def f_X4_offsets  : Option Unit := some ()
set_option maxHeartbeats 2000000 in
set_option maxRecDepth 20000 in
theorem c_X4_offsets {l : Launch} {E : Ex} {n : Nat} {σ : AH} {a : Nat}  {at' : Nat → Int32} {pa : Nat → Int32} {mo : Nat → Int32} {le : Nat → Int32} {hd : Nat → Int32} {nt : Nat → Int32} {ct : Int32}  (res : Unit) (hf : f_X4_offsets  = some res) : Con l E yX4_offsets (.code yX4_offsets cX4_offsets 1 (some (.array .int)) :: TT) ({ frames := 0, cells := 0, slots := 0, locals := 0 } : Room) 0 0 [.ref a] (wBk σ a at' pa mo le hd nt ct) n (some (.ref (a + 1))) (wBk σ a at' pa mo le hd nt ct) n := by
  refine con_intro (by decide +kernel) (Nat.le_of_ble_eq_true rfl) ?_
  intro K C hKR hKL hKE hKN hKQ
  subst hKL
  subst hKE
  have C : Cx K RX4 "offsets" cX4_offsets (some (.array .int)) := C
  show G K 0 0 0 [(0, .ref a)] [] (wBk σ a at' pa mo le hd nt ct) n
  unfold f_X4_offsets at hf
  refine g_aload_n C rfl (q := 0) rfl dX4_offsets_0 rfl ?_
  refine g_get C fc_X4 0 (by decide) wf_RX4_11 (wL_at0 rfl) rfl dX4_offsets_1 rfl ?_
  obtain rfl := Option.some.inj hf
  exact g_aret C (Or.inr ⟨_, rfl⟩) hKQ dX4_offsets_4
def f_X4_rowOf (state : Int32) (piece : Int32) : Option Int32 := some ((state * (18 : Int32)) + (piece * (3 : Int32)))
set_option maxHeartbeats 2000000 in
set_option maxRecDepth 20000 in
theorem c_X4_rowOf {l : Launch} {E : Ex} {n : Nat} {σ : AH} {a : Nat}  {at' : Nat → Int32} {pa : Nat → Int32} {mo : Nat → Int32} {le : Nat → Int32} {hd : Nat → Int32} {nt : Nat → Int32} {ct : Int32} {state : Int32} {piece : Int32} (res : Int32) (hf : f_X4_rowOf state piece = some res) : Con l E yX4_rowOf (.code yX4_rowOf cX4_rowOf 3 (some .int) :: TT) ({ frames := 0, cells := 0, slots := 0, locals := 0 } : Room) 0 0 [.ref a, .int state, .int piece] (wBk σ a at' pa mo le hd nt ct) n (some (.int res)) (wBk σ a at' pa mo le hd nt ct) n := by
  refine con_intro (by decide +kernel) (Nat.le_of_ble_eq_true rfl) ?_
  intro K C hKR hKL hKE hKN hKQ
  subst hKL
  subst hKE
  have C : Cx K RX4 "rowOf" cX4_rowOf (some .int) := C
  show G K 0 0 0 [(0, .ref a), (1, .int state), (2, .int piece)] [] (wBk σ a at' pa mo le hd nt ct) n
  unfold f_X4_rowOf at hf
  refine g_iload_n C rfl (q := 1) rfl dX4_rowOf_0 rfl ?_
  refine g_bipush (v := 18) C (by decide) dX4_rowOf_1 rfl ?_
  refine g_imul C dX4_rowOf_3 rfl ?_
  refine g_iload_n C rfl (q := 2) rfl dX4_rowOf_4 rfl ?_
  refine g_iconst (v := 3) C (by decide) dX4_rowOf_5 rfl ?_
  refine g_imul C dX4_rowOf_6 rfl ?_
  refine g_iadd C dX4_rowOf_7 rfl ?_
  obtain rfl := Option.some.inj hf
  exact g_iret C hKQ dX4_rowOf_8
def f_X4_levelOf (le : Nat → Int32) (state : Int32) : Option Int32 := (if inB state 300 = true then some (le state.toNatClampNeg) else none)
set_option maxHeartbeats 2000000 in
set_option maxRecDepth 20000 in
theorem c_X4_levelOf {l : Launch} {E : Ex} {n : Nat} {σ : AH} {a : Nat}  {at' : Nat → Int32} {pa : Nat → Int32} {mo : Nat → Int32} {le : Nat → Int32} {hd : Nat → Int32} {nt : Nat → Int32} {ct : Int32} {state : Int32} (res : Int32) (hf : f_X4_levelOf le state = some res) : Con l E yX4_levelOf (.code yX4_levelOf cX4_levelOf 2 (some .int) :: TT) ({ frames := 0, cells := 0, slots := 0, locals := 0 } : Room) 0 0 [.ref a, .int state] (wBk σ a at' pa mo le hd nt ct) n (some (.int res)) (wBk σ a at' pa mo le hd nt ct) n := by
  refine con_intro (by decide +kernel) (Nat.le_of_ble_eq_true rfl) ?_
  intro K C hKR hKL hKE hKN hKQ
  subst hKL
  subst hKE
  have C : Cx K RX4 "levelOf" cX4_levelOf (some .int) := C
  show G K 0 0 0 [(0, .ref a), (1, .int state)] [] (wBk σ a at' pa mo le hd nt ct) n
  unfold f_X4_levelOf at hf
  refine g_aload_n C rfl (q := 0) rfl dX4_levelOf_0 rfl ?_
  refine g_get C fc_X4 3 (by decide) wf_RX4_21 (wL_at0 rfl) rfl dX4_levelOf_1 rfl ?_
  refine g_iload_n C rfl (q := 1) rfl dX4_levelOf_4 rfl ?_
  obtain ⟨g1, hf⟩ := gd hf
  refine g_iald C (wL_at 4 rfl) (inB_in g1) dX4_levelOf_5 rfl ?_
  obtain rfl := Option.some.inj hf
  exact g_iret C hKQ dX4_levelOf_6
def f_X4_parentOf (pa : Nat → Int32) (state : Int32) : Option Int32 := (if inB state 300 = true then some (pa state.toNatClampNeg) else none)
set_option maxHeartbeats 2000000 in
set_option maxRecDepth 20000 in
theorem c_X4_parentOf {l : Launch} {E : Ex} {n : Nat} {σ : AH} {a : Nat}  {at' : Nat → Int32} {pa : Nat → Int32} {mo : Nat → Int32} {le : Nat → Int32} {hd : Nat → Int32} {nt : Nat → Int32} {ct : Int32} {state : Int32} (res : Int32) (hf : f_X4_parentOf pa state = some res) : Con l E yX4_parentOf (.code yX4_parentOf cX4_parentOf 2 (some .int) :: TT) ({ frames := 0, cells := 0, slots := 0, locals := 0 } : Room) 0 0 [.ref a, .int state] (wBk σ a at' pa mo le hd nt ct) n (some (.int res)) (wBk σ a at' pa mo le hd nt ct) n := by
  refine con_intro (by decide +kernel) (Nat.le_of_ble_eq_true rfl) ?_
  intro K C hKR hKL hKE hKN hKQ
  subst hKL
  subst hKE
  have C : Cx K RX4 "parentOf" cX4_parentOf (some .int) := C
  show G K 0 0 0 [(0, .ref a), (1, .int state)] [] (wBk σ a at' pa mo le hd nt ct) n
  unfold f_X4_parentOf at hf
  refine g_aload_n C rfl (q := 0) rfl dX4_parentOf_0 rfl ?_
  refine g_get C fc_X4 1 (by decide) wf_RX4_15 (wL_at0 rfl) rfl dX4_parentOf_1 rfl ?_
  refine g_iload_n C rfl (q := 1) rfl dX4_parentOf_4 rfl ?_
  obtain ⟨g1, hf⟩ := gd hf
  refine g_iald C (wL_at 2 rfl) (inB_in g1) dX4_parentOf_5 rfl ?_
  obtain rfl := Option.some.inj hf
  exact g_iret C hKQ dX4_parentOf_6
def f_X4_moveTo (mo : Nat → Int32) (state : Int32) : Option Int32 := (if inB state 300 = true then some (mo state.toNatClampNeg) else none)
set_option maxHeartbeats 2000000 in
set_option maxRecDepth 20000 in
theorem c_X4_moveTo {l : Launch} {E : Ex} {n : Nat} {σ : AH} {a : Nat}  {at' : Nat → Int32} {pa : Nat → Int32} {mo : Nat → Int32} {le : Nat → Int32} {hd : Nat → Int32} {nt : Nat → Int32} {ct : Int32} {state : Int32} (res : Int32) (hf : f_X4_moveTo mo state = some res) : Con l E yX4_moveTo (.code yX4_moveTo cX4_moveTo 2 (some .int) :: TT) ({ frames := 0, cells := 0, slots := 0, locals := 0 } : Room) 0 0 [.ref a, .int state] (wBk σ a at' pa mo le hd nt ct) n (some (.int res)) (wBk σ a at' pa mo le hd nt ct) n := by
  refine con_intro (by decide +kernel) (Nat.le_of_ble_eq_true rfl) ?_
  intro K C hKR hKL hKE hKN hKQ
  subst hKL
  subst hKE
  have C : Cx K RX4 "moveTo" cX4_moveTo (some .int) := C
  show G K 0 0 0 [(0, .ref a), (1, .int state)] [] (wBk σ a at' pa mo le hd nt ct) n
  unfold f_X4_moveTo at hf
  refine g_aload_n C rfl (q := 0) rfl dX4_moveTo_0 rfl ?_
  refine g_get C fc_X4 2 (by decide) wf_RX4_18 (wL_at0 rfl) rfl dX4_moveTo_1 rfl ?_
  refine g_iload_n C rfl (q := 1) rfl dX4_moveTo_4 rfl ?_
  obtain ⟨g1, hf⟩ := gd hf
  refine g_iald C (wL_at 3 rfl) (inB_in g1) dX4_moveTo_5 rfl ?_
  obtain rfl := Option.some.inj hf
  exact g_iret C hKQ dX4_moveTo_6
def f_X4_hashOfDraft_4  (at' : Nat → Int32) (ct : Int32) : Nat → Int32 → Int32 → Option Int32
  | 0, _, _ => none
  | fu + 1, l1, l2 => (if (18 : Int32) ≤ l2 then some l1 else (if inB ((ct * (18 : Int32)) + l2) 5418 = true then f_X4_hashOfDraft_4 at' ct fu ((l1 * (31 : Int32)) + (at' ((ct * (18 : Int32)) + l2).toNatClampNeg)) (l2 + (1 : Int32)) else none))
def f_X4_hashOfDraft (fu : Nat) (at' : Nat → Int32) (ct : Int32) : Option Int32 := ((f_X4_hashOfDraft_4 at' ct fu (0 : Int32) (0 : Int32)).bind fun q7 => some ((q7 ^^^ ((q7.toUInt32 >>> ((9 : Int32).toUInt32 &&& Int32.toUInt32 31)).toInt32)) &&& (511 : Int32)))
set_option maxHeartbeats 2000000 in
set_option maxRecDepth 20000 in
theorem g_X4_hashOfDraft_4 {K : KX} {n : Nat} {σ : AH} {a : Nat}  {at' : Nat → Int32} {pa : Nat → Int32} {mo : Nat → Int32} {le : Nat → Int32} {hd : Nat → Int32} {nt : Nat → Int32} {ct : Int32} (C : Cx K RX4 "hashOfDraft" cX4_hashOfDraft (some .int)) (hKR : kR K = ({ frames := 0, cells := 0, slots := 0, locals := 0 } : Room)) (hKN : kN K = 3) : ∀ (fu : Nat) (l1 : Int32) (l2 : Int32) (res : Int32), f_X4_hashOfDraft_4 at' ct fu l1 l2 = some res → G K 0 0 36 [(1, .int res)] [] (wBk σ a at' pa mo le hd nt ct) n → G K 0 0 4 [(0, .ref a), (1, .int l1), (2, .int l2)] [] (wBk σ a at' pa mo le hd nt ct) n := by
  intro fu
  induction fu with
  | zero =>
    intro l1 l2 res hf
    exact absurd hf (by simp [f_X4_hashOfDraft_4])
  | succ fu ih =>
    intro l1 l2 res hf hx
    rw [f_X4_hashOfDraft_4] at hf
    refine g_iload_n C rfl (q := 2) rfl dX4_hashOfDraft_4 rfl ?_
    refine g_bipush (v := 18) C (by decide) dX4_hashOfDraft_5 rfl ?_
    refine g_icmp_ge (tgt := 36) C dX4_hashOfDraft_7 (by decide) rfl (fun c5 => ?_) (fun c5 => ?_)
    · replace hf := ift c5 hf
      obtain rfl := Option.some.inj hf
      refine g_sub (lv' := [(1, .int l1)]) [1] rfl ?_
      exact hx
    · replace hf := iff' c5 hf
      refine g_iload_n C rfl (q := 1) rfl dX4_hashOfDraft_10 rfl ?_
      refine g_bipush (v := 31) C (by decide) dX4_hashOfDraft_11 rfl ?_
      refine g_imul C dX4_hashOfDraft_13 rfl ?_
      refine g_aload_n C rfl (q := 0) rfl dX4_hashOfDraft_14 rfl ?_
      refine g_get C fc_X4 0 (by decide) wf_RX4_11 (wL_at0 rfl) rfl dX4_hashOfDraft_15 rfl ?_
      refine g_aload_n C rfl (q := 0) rfl dX4_hashOfDraft_18 rfl ?_
      refine g_get C fc_X4 6 (by decide) wf_RX4_30 (wL_at0 rfl) rfl dX4_hashOfDraft_19 rfl ?_
      refine g_bipush (v := 18) C (by decide) dX4_hashOfDraft_22 rfl ?_
      refine g_imul C dX4_hashOfDraft_24 rfl ?_
      refine g_iload_n C rfl (q := 2) rfl dX4_hashOfDraft_25 rfl ?_
      refine g_iadd C dX4_hashOfDraft_26 rfl ?_
      obtain ⟨g6, hf⟩ := gd hf
      refine g_iald C (wL_at 1 rfl) (inB_in g6) dX4_hashOfDraft_27 rfl ?_
      refine g_iadd C dX4_hashOfDraft_28 rfl ?_
      refine g_istore_n (i := 1) (lv' := [(1, .int ((l1 * (31 : Int32)) + (at' ((ct * (18 : Int32)) + l2).toNatClampNeg))), (0, .ref a), (2, .int l2)]) C dX4_hashOfDraft_29 rfl rfl (by rw [hKN]; decide) rfl ?_
      refine g_iinc (v := l2 + (1 : Int32)) (lv' := [(2, .int (l2 + (1 : Int32))), (1, .int ((l1 * (31 : Int32)) + (at' ((ct * (18 : Int32)) + l2).toNatClampNeg))), (0, .ref a)]) (q := 2) C dX4_hashOfDraft_30 rfl rfl rfl (by rw [hKN]; decide) rfl ?_
      refine g_goto (pc' := 4) C dX4_hashOfDraft_33 (by decide) ?_
      refine g_sub (lv' := [(0, .ref a), (1, .int ((l1 * (31 : Int32)) + (at' ((ct * (18 : Int32)) + l2).toNatClampNeg))), (2, .int (l2 + (1 : Int32)))]) [2, 1, 0] rfl ?_
      exact ih _ _ _ hf hx
set_option maxHeartbeats 2000000 in
set_option maxRecDepth 20000 in
theorem c_X4_hashOfDraft {l : Launch} {E : Ex} {n : Nat} {σ : AH} {a : Nat}  {at' : Nat → Int32} {pa : Nat → Int32} {mo : Nat → Int32} {le : Nat → Int32} {hd : Nat → Int32} {nt : Nat → Int32} {ct : Int32}  {fu : Nat} (res : Int32) (hf : f_X4_hashOfDraft fu at' ct = some res) : Con l E yX4_hashOfDraft (.code yX4_hashOfDraft cX4_hashOfDraft 3 (some .int) :: TT) ({ frames := 0, cells := 0, slots := 0, locals := 0 } : Room) 0 0 [.ref a] (wBk σ a at' pa mo le hd nt ct) n (some (.int res)) (wBk σ a at' pa mo le hd nt ct) n := by
  refine con_intro (by decide +kernel) (Nat.le_of_ble_eq_true rfl) ?_
  intro K C hKR hKL hKE hKN hKQ
  subst hKL
  subst hKE
  have C : Cx K RX4 "hashOfDraft" cX4_hashOfDraft (some .int) := C
  show G K 0 0 0 [(0, .ref a)] [] (wBk σ a at' pa mo le hd nt ct) n
  unfold f_X4_hashOfDraft at hf
  refine g_iconst (v := 0) C (by decide) dX4_hashOfDraft_0 rfl ?_
  refine g_istore_n (i := 1) (lv' := [(1, .int (0 : Int32)), (0, .ref a)]) C dX4_hashOfDraft_1 rfl rfl (by rw [hKN]; decide) rfl ?_
  refine g_iconst (v := 0) C (by decide) dX4_hashOfDraft_2 rfl ?_
  refine g_istore_n (i := 2) (lv' := [(2, .int (0 : Int32)), (1, .int (0 : Int32)), (0, .ref a)]) C dX4_hashOfDraft_3 rfl rfl (by rw [hKN]; decide) rfl ?_
  refine g_sub (lv' := [(0, .ref a), (1, .int (0 : Int32)), (2, .int (0 : Int32))]) [2, 1, 0] rfl ?_
  obtain ⟨q7, hq7, hf⟩ := bd hf
  refine g_X4_hashOfDraft_4 (at' := at') (pa := pa) (mo := mo) (le := le) (hd := hd) (nt := nt) (ct := ct) C hKR hKN _ _ _ _ hq7 ?_
  refine g_iload_n C rfl (q := 0) rfl dX4_hashOfDraft_36 rfl ?_
  refine g_iload_n C rfl (q := 0) rfl dX4_hashOfDraft_37 rfl ?_
  refine g_bipush (v := 9) C (by decide) dX4_hashOfDraft_38 rfl ?_
  refine g_iushr C dX4_hashOfDraft_40 rfl ?_
  refine g_ixor C dX4_hashOfDraft_41 rfl ?_
  refine g_sipush (v := 511) C (by decide) dX4_hashOfDraft_42 rfl ?_
  refine g_iand C dX4_hashOfDraft_45 rfl ?_
  obtain rfl := Option.some.inj hf
  exact g_iret C hKQ dX4_hashOfDraft_46
def f_X4_isDraft_2  (l1 : Int32) (at' : Nat → Int32) (ct : Int32) : Nat → Int32 → Option (Int32 ⊕ Unit)
  | 0, _ => none
  | fu + 1, l2 => (if (18 : Int32) ≤ l2 then some (.inr ()) else (if inB ((l1 * (18 : Int32)) + l2) 5418 = true then (if inB ((ct * (18 : Int32)) + l2) 5418 = true then (if (at' ((l1 * (18 : Int32)) + l2).toNatClampNeg) = (at' ((ct * (18 : Int32)) + l2).toNatClampNeg) then f_X4_isDraft_2 l1 at' ct fu (l2 + (1 : Int32)) else some (.inl (0 : Int32))) else none) else none))
def f_X4_isDraft (fu : Nat) (at' : Nat → Int32) (ct : Int32) (state : Int32) : Option Int32 := (sumB (f_X4_isDraft_2 state at' ct fu (0 : Int32)) id fun t14 => some (1 : Int32))
set_option maxHeartbeats 2000000 in
set_option maxRecDepth 20000 in
theorem g_X4_isDraft_2 {K : KX} {n : Nat} {σ : AH} {a : Nat}  {l1 : Int32} {at' : Nat → Int32} {pa : Nat → Int32} {mo : Nat → Int32} {le : Nat → Int32} {hd : Nat → Int32} {nt : Nat → Int32} {ct : Int32} (C : Cx K RX4 "isDraft" cX4_isDraft (some .boolean)) (hKR : kR K = ({ frames := 0, cells := 0, slots := 0, locals := 0 } : Room)) (hKN : kN K = 3) : ∀ (fu : Nat) (l2 : Int32) (res : (Int32 ⊕ Unit)), f_X4_isDraft_2 l1 at' ct fu l2 = some res → (∀ t, res = .inl t → KQ K 0 0 (some (.int t)) (wBk σ a at' pa mo le hd nt ct) n) → (∀ t, res = .inr t → G K 0 0 44 [] [] (wBk σ a at' pa mo le hd nt ct) n) → G K 0 0 2 [(0, .ref a), (1, .int l1), (2, .int l2)] [] (wBk σ a at' pa mo le hd nt ct) n := by
  intro fu
  induction fu with
  | zero =>
    intro l2 res hf
    exact absurd hf (by simp [f_X4_isDraft_2])
  | succ fu ih =>
    intro l2 res hf hret hx
    rw [f_X4_isDraft_2] at hf
    refine g_iload_n C rfl (q := 2) rfl dX4_isDraft_2 rfl ?_
    refine g_bipush (v := 18) C (by decide) dX4_isDraft_3 rfl ?_
    refine g_icmp_ge (tgt := 44) C dX4_isDraft_5 (by decide) rfl (fun c9 => ?_) (fun c9 => ?_)
    · replace hf := ift c9 hf
      obtain rfl := Option.some.inj hf
      refine g_sub (lv' := []) [] rfl ?_
      exact hx () rfl
    · replace hf := iff' c9 hf
      refine g_aload_n C rfl (q := 0) rfl dX4_isDraft_8 rfl ?_
      refine g_get C fc_X4 0 (by decide) wf_RX4_11 (wL_at0 rfl) rfl dX4_isDraft_9 rfl ?_
      refine g_iload_n C rfl (q := 1) rfl dX4_isDraft_12 rfl ?_
      refine g_bipush (v := 18) C (by decide) dX4_isDraft_13 rfl ?_
      refine g_imul C dX4_isDraft_15 rfl ?_
      refine g_iload_n C rfl (q := 2) rfl dX4_isDraft_16 rfl ?_
      refine g_iadd C dX4_isDraft_17 rfl ?_
      obtain ⟨g10, hf⟩ := gd hf
      refine g_iald C (wL_at 1 rfl) (inB_in g10) dX4_isDraft_18 rfl ?_
      refine g_aload_n C rfl (q := 0) rfl dX4_isDraft_19 rfl ?_
      refine g_get C fc_X4 0 (by decide) wf_RX4_11 (wL_at0 rfl) rfl dX4_isDraft_20 rfl ?_
      refine g_aload_n C rfl (q := 0) rfl dX4_isDraft_23 rfl ?_
      refine g_get C fc_X4 6 (by decide) wf_RX4_30 (wL_at0 rfl) rfl dX4_isDraft_24 rfl ?_
      refine g_bipush (v := 18) C (by decide) dX4_isDraft_27 rfl ?_
      refine g_imul C dX4_isDraft_29 rfl ?_
      refine g_iload_n C rfl (q := 2) rfl dX4_isDraft_30 rfl ?_
      refine g_iadd C dX4_isDraft_31 rfl ?_
      obtain ⟨g11, hf⟩ := gd hf
      refine g_iald C (wL_at 1 rfl) (inB_in g11) dX4_isDraft_32 rfl ?_
      refine g_icmp_eq (tgt := 38) C dX4_isDraft_33 (by decide) rfl (fun c12 => ?_) (fun c12 => ?_)
      · replace hf := ift c12 hf
        refine g_iinc (v := l2 + (1 : Int32)) (lv' := [(2, .int (l2 + (1 : Int32))), (0, .ref a), (1, .int l1)]) (q := 2) C dX4_isDraft_38 rfl rfl rfl (by rw [hKN]; decide) rfl ?_
        refine g_goto (pc' := 2) C dX4_isDraft_41 (by decide) ?_
        refine g_sub (lv' := [(0, .ref a), (1, .int l1), (2, .int (l2 + (1 : Int32)))]) [1, 2, 0] rfl ?_
        exact ih _ _ hf hret hx
      · replace hf := iff' c12 hf
        refine g_iconst (v := 0) C (by decide) dX4_isDraft_36 rfl ?_
        obtain rfl := Option.some.inj hf
        exact g_zret C rfl (hret (0 : Int32) rfl) dX4_isDraft_37
set_option maxHeartbeats 2000000 in
set_option maxRecDepth 20000 in
theorem c_X4_isDraft {l : Launch} {E : Ex} {n : Nat} {σ : AH} {a : Nat}  {at' : Nat → Int32} {pa : Nat → Int32} {mo : Nat → Int32} {le : Nat → Int32} {hd : Nat → Int32} {nt : Nat → Int32} {ct : Int32} {state : Int32} {fu : Nat} (res : Int32) (hf : f_X4_isDraft fu at' ct state = some res) : Con l E yX4_isDraft (.code yX4_isDraft cX4_isDraft 3 (some .boolean) :: TT) ({ frames := 0, cells := 0, slots := 0, locals := 0 } : Room) 0 0 [.ref a, .int state] (wBk σ a at' pa mo le hd nt ct) n (some (.int res)) (wBk σ a at' pa mo le hd nt ct) n := by
  refine con_intro (by decide +kernel) (Nat.le_of_ble_eq_true rfl) ?_
  intro K C hKR hKL hKE hKN hKQ
  subst hKL
  subst hKE
  have C : Cx K RX4 "isDraft" cX4_isDraft (some .boolean) := C
  show G K 0 0 0 [(0, .ref a), (1, .int state)] [] (wBk σ a at' pa mo le hd nt ct) n
  unfold f_X4_isDraft at hf
  refine g_iconst (v := 0) C (by decide) dX4_isDraft_0 rfl ?_
  refine g_istore_n (i := 2) (lv' := [(2, .int (0 : Int32)), (0, .ref a), (1, .int state)]) C dX4_isDraft_1 rfl rfl (by rw [hKN]; decide) rfl ?_
  refine g_sub (lv' := [(0, .ref a), (1, .int state), (2, .int (0 : Int32))]) [1, 2, 0] rfl ?_
  obtain ⟨q13, hq13, hf1, hf2⟩ := sb hf
  refine g_X4_isDraft_2 (l1 := state) (at' := at') (pa := pa) (mo := mo) (le := le) (hd := hd) (nt := nt) (ct := ct) C hKR hKN _ _ q13 hq13 (fun t14 et14 => ?_) (fun t14 et14 => ?_)
  · obtain rfl := hf1 _ et14
    exact hKQ
  · have hf := hf2 _ et14
    refine g_iconst (v := 1) C (by decide) dX4_isDraft_44 rfl ?_
    obtain rfl := Option.some.inj hf
    exact g_zret C rfl hKQ dX4_isDraft_45
def f_X4_add (fu : Nat) (at' : Nat → Int32) (pa : Nat → Int32) (mo : Nat → Int32) (le : Nat → Int32) (hd : Nat → Int32) (nt : Nat → Int32) (ct : Int32) (parent : Int32) (byMove : Int32) : Option ((Nat → Int32) × (Nat → Int32) × (Nat → Int32) × (Nat → Int32) × (Nat → Int32) × Int32) := (if ct < (300 : Int32) then ((f_X4_hashOfDraft fu at' ct).bind fun q2 => (if inB ct 300 = true then (if inB ct 300 = true then (if parent = (-1 : Int32) then (if inB ct 300 = true then (if inB q2 512 = true then (if inB ct 300 = true then (if inB q2 512 = true then some (va_up pa ct.toNatClampNeg parent, va_up mo ct.toNatClampNeg byMove, va_up le ct.toNatClampNeg (0 : Int32), va_up hd q2.toNatClampNeg ct, va_up nt ct.toNatClampNeg (hd q2.toNatClampNeg), ct + (1 : Int32)) else none) else none) else none) else none) else (if inB parent 300 = true then (if inB ct 300 = true then (if inB q2 512 = true then (if inB ct 300 = true then (if inB q2 512 = true then some (va_up pa ct.toNatClampNeg parent, va_up mo ct.toNatClampNeg byMove, va_up le ct.toNatClampNeg ((le parent.toNatClampNeg) + (1 : Int32)), va_up hd q2.toNatClampNeg ct, va_up nt ct.toNatClampNeg (hd q2.toNatClampNeg), ct + (1 : Int32)) else none) else none) else none) else none) else none)) else none) else none)) else some (pa, mo, le, hd, nt, ct))
set_option maxHeartbeats 2000000 in
set_option maxRecDepth 20000 in
theorem c_X4_add {l : Launch} {E : Ex} {n : Nat} {σ : AH} {a : Nat}  {at' : Nat → Int32} {pa : Nat → Int32} {mo : Nat → Int32} {le : Nat → Int32} {hd : Nat → Int32} {nt : Nat → Int32} {ct : Int32} {parent : Int32} {byMove : Int32} {fu : Nat} (res : ((Nat → Int32) × (Nat → Int32) × (Nat → Int32) × (Nat → Int32) × (Nat → Int32) × Int32)) (hf : f_X4_add fu at' pa mo le hd nt ct parent byMove = some res) : Con l E yX4_add (.code yX4_add cX4_add 4 none :: TT) ({ frames := 1, cells := 0, slots := 0, locals := 22 } : Room) 0 0 [.ref a, .int parent, .int byMove] (wBk σ a at' pa mo le hd nt ct) n none (wBk σ a at' res.1 res.2.1 res.2.2.1 res.2.2.2.1 res.2.2.2.2.1 res.2.2.2.2.2) n := by
  refine con_intro (by decide +kernel) (Nat.le_of_ble_eq_true rfl) ?_
  intro K C hKR hKL hKE hKN hKQ
  subst hKL
  subst hKE
  have C : Cx K RX4 "add" cX4_add none := C
  show G K 0 0 0 [(0, .ref a), (1, .int parent), (2, .int byMove)] [] (wBk σ a at' pa mo le hd nt ct) n
  unfold f_X4_add at hf
  refine g_aload_n C rfl (q := 0) rfl dX4_add_0 rfl ?_
  refine g_get C fc_X4 6 (by decide) wf_RX4_30 (wL_at0 rfl) rfl dX4_add_1 rfl ?_
  refine g_sipush (v := 300) C (by decide) dX4_add_4 rfl ?_
  refine g_icmp_lt (tgt := 11) C dX4_add_7 (by decide) rfl (fun c1 => ?_) (fun c1 => ?_)
  · replace hf := ift c1 hf
    refine g_aload_n C rfl (q := 0) rfl dX4_add_11 rfl ?_
    obtain ⟨q2, hq2, hf⟩ := bd hf
    refine g_callV0 (st' := []) (as := []) (st2 := [.int q2]) (k := 0) C ⟨wm_RX4_54, wn_X4_hashOfDraft, wv_X4_hashOfDraft, wi_RX4, wk_X4_hashOfDraft, by decide +kernel⟩ rfl (wL_at0 rfl) (c_X4_hashOfDraft (l := kL K) (E := kE K)  _ hq2) (by rw [hKR]; exact ⟨rfl, rfl, ⟨by decide, by decide⟩, Nat.le_refl _, Nat.le_refl _⟩) rfl rfl (by simp) rfl dX4_add_12 rfl ?_
    refine g_istore_n (i := 3) (lv' := [(3, .int q2), (0, .ref a), (1, .int parent), (2, .int byMove)]) C dX4_add_15 rfl rfl (by rw [hKN]; decide) rfl ?_
    refine g_aload_n C rfl (q := 1) rfl dX4_add_16 rfl ?_
    refine g_get C fc_X4 1 (by decide) wf_RX4_15 (wL_at0 rfl) rfl dX4_add_17 rfl ?_
    refine g_aload_n C rfl (q := 1) rfl dX4_add_20 rfl ?_
    refine g_get C fc_X4 6 (by decide) wf_RX4_30 (wL_at0 rfl) rfl dX4_add_21 rfl ?_
    refine g_iload_n C rfl (q := 2) rfl dX4_add_24 rfl ?_
    obtain ⟨g3, hf⟩ := gd hf
    refine g_iast (h' := (wBk σ a at' (va_up pa ct.toNatClampNeg parent) mo le hd nt ct)) C (wL_at 2 rfl) (inB_in g3) (wL_up 2 (Nat.le_of_ble_eq_true rfl) rfl) dX4_add_25 rfl ?_
    refine g_aload_n C rfl (q := 1) rfl dX4_add_26 rfl ?_
    refine g_get C fc_X4 2 (by decide) wf_RX4_18 (wL_at0 rfl) rfl dX4_add_27 rfl ?_
    refine g_aload_n C rfl (q := 1) rfl dX4_add_30 rfl ?_
    refine g_get C fc_X4 6 (by decide) wf_RX4_30 (wL_at0 rfl) rfl dX4_add_31 rfl ?_
    refine g_iload_n C rfl (q := 3) rfl dX4_add_34 rfl ?_
    obtain ⟨g4, hf⟩ := gd hf
    refine g_iast (h' := (wBk σ a at' (va_up pa ct.toNatClampNeg parent) (va_up mo ct.toNatClampNeg byMove) le hd nt ct)) C (wL_at 3 rfl) (inB_in g4) (wL_up 3 (Nat.le_of_ble_eq_true rfl) rfl) dX4_add_35 rfl ?_
    refine g_aload_n C rfl (q := 1) rfl dX4_add_36 rfl ?_
    refine g_get C fc_X4 3 (by decide) wf_RX4_21 (wL_at0 rfl) rfl dX4_add_37 rfl ?_
    refine g_aload_n C rfl (q := 1) rfl dX4_add_40 rfl ?_
    refine g_get C fc_X4 6 (by decide) wf_RX4_30 (wL_at0 rfl) rfl dX4_add_41 rfl ?_
    refine g_iload_n C rfl (q := 2) rfl dX4_add_44 rfl ?_
    refine g_iconst (v := (-1)) C (by decide) dX4_add_45 rfl ?_
    refine g_icmp_ne (tgt := 53) C dX4_add_46 (by decide) rfl (fun c5 => ?_) (fun c5 => ?_)
    · replace hf := iff' c5 hf
      refine g_aload_n C rfl (q := 1) rfl dX4_add_53 rfl ?_
      refine g_get C fc_X4 3 (by decide) wf_RX4_21 (wL_at0 rfl) rfl dX4_add_54 rfl ?_
      refine g_iload_n C rfl (q := 2) rfl dX4_add_57 rfl ?_
      obtain ⟨g6, hf⟩ := gd hf
      refine g_iald C (wL_at 4 rfl) (inB_in g6) dX4_add_58 rfl ?_
      refine g_iconst (v := 1) C (by decide) dX4_add_59 rfl ?_
      refine g_iadd C dX4_add_60 rfl ?_
      obtain ⟨g7, hf⟩ := gd hf
      refine g_iast (h' := (wBk σ a at' (va_up pa ct.toNatClampNeg parent) (va_up mo ct.toNatClampNeg byMove) (va_up le ct.toNatClampNeg ((le parent.toNatClampNeg) + (1 : Int32))) hd nt ct)) C (wL_at 4 rfl) (inB_in g7) (wL_up 4 (Nat.le_of_ble_eq_true rfl) rfl) dX4_add_61 rfl ?_
      refine g_aload_n C rfl (q := 1) rfl dX4_add_62 rfl ?_
      refine g_get C fc_X4 5 (by decide) wf_RX4_27 (wL_at0 rfl) rfl dX4_add_63 rfl ?_
      refine g_aload_n C rfl (q := 1) rfl dX4_add_66 rfl ?_
      refine g_get C fc_X4 6 (by decide) wf_RX4_30 (wL_at0 rfl) rfl dX4_add_67 rfl ?_
      refine g_aload_n C rfl (q := 1) rfl dX4_add_70 rfl ?_
      refine g_get C fc_X4 4 (by decide) wf_RX4_24 (wL_at0 rfl) rfl dX4_add_71 rfl ?_
      refine g_iload_n C rfl (q := 0) rfl dX4_add_74 rfl ?_
      obtain ⟨g8, hf⟩ := gd hf
      refine g_iald C (wL_at 5 rfl) (inB_in g8) dX4_add_75 rfl ?_
      obtain ⟨g9, hf⟩ := gd hf
      refine g_iast (h' := (wBk σ a at' (va_up pa ct.toNatClampNeg parent) (va_up mo ct.toNatClampNeg byMove) (va_up le ct.toNatClampNeg ((le parent.toNatClampNeg) + (1 : Int32))) hd (va_up nt ct.toNatClampNeg (hd q2.toNatClampNeg)) ct)) C (wL_at 6 rfl) (inB_in g9) (wL_up 6 (Nat.le_of_ble_eq_true rfl) rfl) dX4_add_76 rfl ?_
      refine g_aload_n C rfl (q := 1) rfl dX4_add_77 rfl ?_
      refine g_get C fc_X4 4 (by decide) wf_RX4_24 (wL_at0 rfl) rfl dX4_add_78 rfl ?_
      refine g_iload_n C rfl (q := 0) rfl dX4_add_81 rfl ?_
      refine g_aload_n C rfl (q := 1) rfl dX4_add_82 rfl ?_
      refine g_get C fc_X4 6 (by decide) wf_RX4_30 (wL_at0 rfl) rfl dX4_add_83 rfl ?_
      obtain ⟨g10, hf⟩ := gd hf
      refine g_iast (h' := (wBk σ a at' (va_up pa ct.toNatClampNeg parent) (va_up mo ct.toNatClampNeg byMove) (va_up le ct.toNatClampNeg ((le parent.toNatClampNeg) + (1 : Int32))) (va_up hd q2.toNatClampNeg ct) (va_up nt ct.toNatClampNeg (hd q2.toNatClampNeg)) ct)) C (wL_at 5 rfl) (inB_in g10) (wL_up 5 (Nat.le_of_ble_eq_true rfl) rfl) dX4_add_86 rfl ?_
      refine g_aload_n C rfl (q := 1) rfl dX4_add_87 rfl ?_
      refine g_dup C rfl dX4_add_88 rfl ?_
      refine g_get C fc_X4 6 (by decide) wf_RX4_30 (wL_at0 rfl) rfl dX4_add_89 rfl ?_
      refine g_iconst (v := 1) C (by decide) dX4_add_92 rfl ?_
      refine g_iadd C dX4_add_93 rfl ?_
      refine g_put (h' := (wBk σ a at' (va_up pa ct.toNatClampNeg parent) (va_up mo ct.toNatClampNeg byMove) (va_up le ct.toNatClampNeg ((le parent.toNatClampNeg) + (1 : Int32))) (va_up hd q2.toNatClampNeg ct) (va_up nt ct.toNatClampNeg (hd q2.toNatClampNeg)) (ct + (1 : Int32)))) C fc_X4 6 (by decide) wf_RX4_30 rfl rfl rfl (Nat.le_of_ble_eq_true rfl) (wL_at0 rfl) (wL_up0 (Nat.le_of_ble_eq_true rfl) rfl) dX4_add_94 rfl ?_
      obtain rfl := Option.some.inj hf
      exact g_vret C hKQ dX4_add_97
    · replace hf := ift c5 hf
      refine g_iconst (v := 0) C (by decide) dX4_add_49 rfl ?_
      refine g_goto (pc' := 61) C dX4_add_50 (by decide) ?_
      obtain ⟨g11, hf⟩ := gd hf
      refine g_iast (h' := (wBk σ a at' (va_up pa ct.toNatClampNeg parent) (va_up mo ct.toNatClampNeg byMove) (va_up le ct.toNatClampNeg (0 : Int32)) hd nt ct)) C (wL_at 4 rfl) (inB_in g11) (wL_up 4 (Nat.le_of_ble_eq_true rfl) rfl) dX4_add_61 rfl ?_
      refine g_aload_n C rfl (q := 1) rfl dX4_add_62 rfl ?_
      refine g_get C fc_X4 5 (by decide) wf_RX4_27 (wL_at0 rfl) rfl dX4_add_63 rfl ?_
      refine g_aload_n C rfl (q := 1) rfl dX4_add_66 rfl ?_
      refine g_get C fc_X4 6 (by decide) wf_RX4_30 (wL_at0 rfl) rfl dX4_add_67 rfl ?_
      refine g_aload_n C rfl (q := 1) rfl dX4_add_70 rfl ?_
      refine g_get C fc_X4 4 (by decide) wf_RX4_24 (wL_at0 rfl) rfl dX4_add_71 rfl ?_
      refine g_iload_n C rfl (q := 0) rfl dX4_add_74 rfl ?_
      obtain ⟨g12, hf⟩ := gd hf
      refine g_iald C (wL_at 5 rfl) (inB_in g12) dX4_add_75 rfl ?_
      obtain ⟨g13, hf⟩ := gd hf
      refine g_iast (h' := (wBk σ a at' (va_up pa ct.toNatClampNeg parent) (va_up mo ct.toNatClampNeg byMove) (va_up le ct.toNatClampNeg (0 : Int32)) hd (va_up nt ct.toNatClampNeg (hd q2.toNatClampNeg)) ct)) C (wL_at 6 rfl) (inB_in g13) (wL_up 6 (Nat.le_of_ble_eq_true rfl) rfl) dX4_add_76 rfl ?_
      refine g_aload_n C rfl (q := 1) rfl dX4_add_77 rfl ?_
      refine g_get C fc_X4 4 (by decide) wf_RX4_24 (wL_at0 rfl) rfl dX4_add_78 rfl ?_
      refine g_iload_n C rfl (q := 0) rfl dX4_add_81 rfl ?_
      refine g_aload_n C rfl (q := 1) rfl dX4_add_82 rfl ?_
      refine g_get C fc_X4 6 (by decide) wf_RX4_30 (wL_at0 rfl) rfl dX4_add_83 rfl ?_
      obtain ⟨g14, hf⟩ := gd hf
      refine g_iast (h' := (wBk σ a at' (va_up pa ct.toNatClampNeg parent) (va_up mo ct.toNatClampNeg byMove) (va_up le ct.toNatClampNeg (0 : Int32)) (va_up hd q2.toNatClampNeg ct) (va_up nt ct.toNatClampNeg (hd q2.toNatClampNeg)) ct)) C (wL_at 5 rfl) (inB_in g14) (wL_up 5 (Nat.le_of_ble_eq_true rfl) rfl) dX4_add_86 rfl ?_
      refine g_aload_n C rfl (q := 1) rfl dX4_add_87 rfl ?_
      refine g_dup C rfl dX4_add_88 rfl ?_
      refine g_get C fc_X4 6 (by decide) wf_RX4_30 (wL_at0 rfl) rfl dX4_add_89 rfl ?_
      refine g_iconst (v := 1) C (by decide) dX4_add_92 rfl ?_
      refine g_iadd C dX4_add_93 rfl ?_
      refine g_put (h' := (wBk σ a at' (va_up pa ct.toNatClampNeg parent) (va_up mo ct.toNatClampNeg byMove) (va_up le ct.toNatClampNeg (0 : Int32)) (va_up hd q2.toNatClampNeg ct) (va_up nt ct.toNatClampNeg (hd q2.toNatClampNeg)) (ct + (1 : Int32)))) C fc_X4 6 (by decide) wf_RX4_30 rfl rfl rfl (Nat.le_of_ble_eq_true rfl) (wL_at0 rfl) (wL_up0 (Nat.le_of_ble_eq_true rfl) rfl) dX4_add_94 rfl ?_
      obtain rfl := Option.some.inj hf
      exact g_vret C hKQ dX4_add_97
  · replace hf := iff' c1 hf
    obtain rfl := Option.some.inj hf
    exact g_vret C hKQ dX4_add_10
def f_X4_start_15   : Nat → Int32 → (Nat → Int32) → Option (Nat → Int32)
  | 0, _, _ => none
  | fu + 1, l1, at' => (if (18 : Int32) ≤ l1 then some at' else (if inB l1 5418 = true then f_X4_start_15  fu (l1 + (1 : Int32)) (va_up at' l1.toNatClampNeg (0 : Int32)) else none))
def f_X4_start (fu : Nat) (at' : Nat → Int32) (pa : Nat → Int32) (mo : Nat → Int32) (le : Nat → Int32) (hd : Nat → Int32) (nt : Nat → Int32) : Option ((Nat → Int32) × (Nat → Int32) × (Nat → Int32) × (Nat → Int32) × (Nat → Int32) × (Nat → Int32) × Int32) := ((f_J7_fill_53178 fu 512 hd (-1 : Int32)).bind fun q1 => ((f_X4_start_15  fu (0 : Int32) at').bind fun q8 => ((f_X4_add fu q8 pa mo le q1 nt (0 : Int32) (-1 : Int32) (0 : Int32)).bind fun q9 => some (q8, q9.1, q9.2.1, q9.2.2.1, q9.2.2.2.1, q9.2.2.2.2.1, q9.2.2.2.2.2))))
set_option maxHeartbeats 2000000 in
set_option maxRecDepth 20000 in
theorem g_X4_start_15 {K : KX} {n : Nat} {σ : AH} {a : Nat}  {pa : Nat → Int32} {mo : Nat → Int32} {le : Nat → Int32} {hd : Nat → Int32} {nt : Nat → Int32} {ct : Int32} (C : Cx K RX4 "start" cX4_start none) (hKR : kR K = ({ frames := 2, cells := 0, slots := 0, locals := 45 } : Room)) (hKN : kN K = 2) : ∀ (fu : Nat) (l1 : Int32) (at' : Nat → Int32) (res : (Nat → Int32)), f_X4_start_15  fu l1 at' = some res → G K 0 0 34 [(0, .ref a)] [] (wBk σ a res pa mo le hd nt ct) n → G K 0 0 15 [(0, .ref a), (1, .int l1)] [] (wBk σ a at' pa mo le hd nt ct) n := by
  intro fu
  induction fu with
  | zero =>
    intro l1 at' res hf
    exact absurd hf (by simp [f_X4_start_15])
  | succ fu ih =>
    intro l1 at' res hf hx
    rw [f_X4_start_15] at hf
    refine g_iload_n C rfl (q := 1) rfl dX4_start_15 rfl ?_
    refine g_bipush (v := 18) C (by decide) dX4_start_16 rfl ?_
    refine g_icmp_ge (tgt := 34) C dX4_start_18 (by decide) rfl (fun c6 => ?_) (fun c6 => ?_)
    · replace hf := ift c6 hf
      obtain rfl := Option.some.inj hf
      refine g_sub (lv' := [(0, .ref a)]) [0] rfl ?_
      exact hx
    · replace hf := iff' c6 hf
      refine g_aload_n C rfl (q := 0) rfl dX4_start_21 rfl ?_
      refine g_get C fc_X4 0 (by decide) wf_RX4_11 (wL_at0 rfl) rfl dX4_start_22 rfl ?_
      refine g_iload_n C rfl (q := 1) rfl dX4_start_25 rfl ?_
      refine g_iconst (v := 0) C (by decide) dX4_start_26 rfl ?_
      obtain ⟨g7, hf⟩ := gd hf
      refine g_iast (h' := (wBk σ a (va_up at' l1.toNatClampNeg (0 : Int32)) pa mo le hd nt ct)) C (wL_at 1 rfl) (inB_in g7) (wL_up 1 (Nat.le_of_ble_eq_true rfl) rfl) dX4_start_27 rfl ?_
      refine g_iinc (v := l1 + (1 : Int32)) (lv' := [(1, .int (l1 + (1 : Int32))), (0, .ref a)]) (q := 1) C dX4_start_28 rfl rfl rfl (by rw [hKN]; decide) rfl ?_
      refine g_goto (pc' := 15) C dX4_start_31 (by decide) ?_
      refine g_sub (lv' := [(0, .ref a), (1, .int (l1 + (1 : Int32)))]) [1, 0] rfl ?_
      exact ih _ _ _ hf hx
set_option maxHeartbeats 2000000 in
set_option maxRecDepth 20000 in
theorem c_X4_start {l : Launch} {E : Ex} {n : Nat} {σ : AH} {a : Nat}  {at' : Nat → Int32} {pa : Nat → Int32} {mo : Nat → Int32} {le : Nat → Int32} {hd : Nat → Int32} {nt : Nat → Int32} {ct : Int32}  {fu : Nat} (res : ((Nat → Int32) × (Nat → Int32) × (Nat → Int32) × (Nat → Int32) × (Nat → Int32) × (Nat → Int32) × Int32)) (hf : f_X4_start fu at' pa mo le hd nt = some res) : Con l E yX4_start (.code yX4_start cX4_start 2 none :: TT) ({ frames := 2, cells := 0, slots := 0, locals := 45 } : Room) 0 0 [.ref a] (wBk σ a at' pa mo le hd nt ct) n none (wBk σ a res.1 res.2.1 res.2.2.1 res.2.2.2.1 res.2.2.2.2.1 res.2.2.2.2.2.1 res.2.2.2.2.2.2) n := by
  refine con_intro (by decide +kernel) (Nat.le_of_ble_eq_true rfl) ?_
  intro K C hKR hKL hKE hKN hKQ
  subst hKL
  subst hKE
  have C : Cx K RX4 "start" cX4_start none := C
  show G K 0 0 0 [(0, .ref a)] [] (wBk σ a at' pa mo le hd nt ct) n
  unfold f_X4_start at hf
  refine g_aload_n C rfl (q := 0) rfl dX4_start_0 rfl ?_
  refine g_get C fc_X4 4 (by decide) wf_RX4_24 (wL_at0 rfl) rfl dX4_start_1 rfl ?_
  refine g_iconst (v := (-1)) C (by decide) dX4_start_4 rfl ?_
  obtain ⟨q1, hq1, hf⟩ := bd hf
  refine g_heap (wAI_self (z := 512) (wL_at 5 rfl)) ?_
  refine g_callS0 (st' := []) (as := [.ref (a + 5), .int (-1 : Int32)]) (st2 := []) (k := 2) C ⟨wm_RX4_34, ws_J7_fill_53178, wi_RJ7, wk_J7_fill_53178, by decide +kernel⟩ (c_J7_fill_53178 (l := kL K) (E := kE K) (σ := (wBk σ a at' pa mo le hd nt ct)) (a := a + 5) (z := 512) _ hq1) (by rw [hKR]; exact ⟨rfl, rfl, ⟨by decide, by decide⟩, Nat.le_refl _, Nat.le_refl _⟩) rfl rfl (by simp) rfl dX4_start_5 rfl ?_
  refine g_heap (h' := (wBk σ a at' pa mo le q1 nt ct)) (wAI_up (wL_up 5 (Nat.le_of_ble_eq_true rfl) rfl)) ?_
  refine g_aload_n C rfl (q := 0) rfl dX4_start_8 rfl ?_
  refine g_iconst (v := 0) C (by decide) dX4_start_9 rfl ?_
  refine g_put (h' := (wBk σ a at' pa mo le q1 nt (0 : Int32))) C fc_X4 6 (by decide) wf_RX4_30 rfl rfl rfl (Nat.le_of_ble_eq_true rfl) (wL_at0 rfl) (wL_up0 (Nat.le_of_ble_eq_true rfl) rfl) dX4_start_10 rfl ?_
  refine g_iconst (v := 0) C (by decide) dX4_start_13 rfl ?_
  refine g_istore_n (i := 1) (lv' := [(1, .int (0 : Int32)), (0, .ref a)]) C dX4_start_14 rfl rfl (by rw [hKN]; decide) rfl ?_
  refine g_sub (lv' := [(0, .ref a), (1, .int (0 : Int32))]) [1, 0] rfl ?_
  obtain ⟨q8, hq8, hf⟩ := bd hf
  refine g_X4_start_15 (pa := pa) (mo := mo) (le := le) (hd := q1) (nt := nt) (ct := (0 : Int32)) C hKR hKN _ _ _ _ hq8 ?_
  refine g_aload_n C rfl (q := 0) rfl dX4_start_34 rfl ?_
  refine g_iconst (v := (-1)) C (by decide) dX4_start_35 rfl ?_
  refine g_iconst (v := 0) C (by decide) dX4_start_36 rfl ?_
  obtain ⟨q9, hq9, hf⟩ := bd hf
  refine g_callV0 (st' := []) (as := [.int (-1 : Int32), .int (0 : Int32)]) (st2 := []) (k := 2) C ⟨wm_RX4_40, wn_X4_add, wv_X4_add, wi_RX4, wk_X4_add, by decide +kernel⟩ rfl (wL_at0 rfl) (c_X4_add (l := kL K) (E := kE K)  _ hq9) (by rw [hKR]; exact ⟨rfl, rfl, ⟨by decide, by decide⟩, Nat.le_refl _, Nat.le_refl _⟩) rfl rfl (by simp) rfl dX4_start_37 rfl ?_
  obtain rfl := Option.some.inj hf
  exact g_vret C hKQ dX4_start_40
def f_X4_draft_27  (l2 : Int32) (l3 : Int32) (l4 : Int32) (ct : Int32) : Nat → Int32 → (Nat → Int32) → Option (Nat → Int32)
  | 0, _, _ => none
  | fu + 1, l5, at' => (if (6 : Int32) ≤ l5 then some at' else (if ((l2 >>> (l5 &&& 31)) &&& (1 : Int32)) = 0 then f_X4_draft_27 l2 l3 l4 ct fu (l5 + (1 : Int32)) at' else ((f_X4_rowOf ct l5).bind fun q13 => (if inB (q13 + l3) 5418 = true then (if inB (q13 + l3) 5418 = true then f_X4_draft_27 l2 l3 l4 ct fu (l5 + (1 : Int32)) (va_up at' (q13 + l3).toNatClampNeg ((at' (q13 + l3).toNatClampNeg) + l4)) else none) else none))))
def f_X4_draft (fu : Nat) (at' : Nat → Int32) (ct : Int32) (frm0 : Int32) (group : Int32) (axis : Int32) (by0 : Int32) : Option (Nat → Int32) := (if cpyB (frm0 * (18 : Int32)) (ct * (18 : Int32)) (18 : Int32) 5418 = true then ((f_X4_draft_27 group axis by0 ct fu (0 : Int32) (va_cpy at' at' (frm0 * (18 : Int32)).toNatClampNeg (ct * (18 : Int32)).toNatClampNeg (18 : Int32).toNatClampNeg)).bind fun q16 => some q16) else none)
set_option maxHeartbeats 2000000 in
set_option maxRecDepth 20000 in
theorem g_X4_draft_27 {K : KX} {n : Nat} {σ : AH} {a : Nat}  {l2 : Int32} {l3 : Int32} {l4 : Int32} {pa : Nat → Int32} {mo : Nat → Int32} {le : Nat → Int32} {hd : Nat → Int32} {nt : Nat → Int32} {ct : Int32} (C : Cx K RX4 "draft" cX4_draft none) (hKR : kR K = ({ frames := 1, cells := 0, slots := 0, locals := 120 } : Room)) (hKN : kN K = 6) : ∀ (fu : Nat) (l5 : Int32) (at' : Nat → Int32) (res : (Nat → Int32)), f_X4_draft_27 l2 l3 l4 ct fu l5 at' = some res → G K 0 0 71 [] [] (wBk σ a res pa mo le hd nt ct) n → G K 0 0 27 [(0, .ref a), (2, .int l2), (3, .int l3), (4, .int l4), (5, .int l5)] [] (wBk σ a at' pa mo le hd nt ct) n := by
  intro fu
  induction fu with
  | zero =>
    intro l5 at' res hf
    exact absurd hf (by simp [f_X4_draft_27])
  | succ fu ih =>
    intro l5 at' res hf hx
    rw [f_X4_draft_27] at hf
    refine g_iload C (q := 4) rfl dX4_draft_27 rfl ?_
    refine g_bipush (v := 6) C (by decide) dX4_draft_29 rfl ?_
    refine g_icmp_ge (tgt := 71) C dX4_draft_31 (by decide) rfl (fun c11 => ?_) (fun c11 => ?_)
    · replace hf := ift c11 hf
      obtain rfl := Option.some.inj hf
      refine g_sub (lv' := []) [] rfl ?_
      exact hx
    · replace hf := iff' c11 hf
      refine g_iload_n C rfl (q := 1) rfl dX4_draft_34 rfl ?_
      refine g_iload C (q := 4) rfl dX4_draft_35 rfl ?_
      refine g_ishr C dX4_draft_37 rfl ?_
      refine g_iconst (v := 1) C (by decide) dX4_draft_38 rfl ?_
      refine g_iand C dX4_draft_39 rfl ?_
      refine g_if_eq (tgt := 65) C dX4_draft_40 (by decide) rfl (fun c12 => ?_) (fun c12 => ?_)
      · replace hf := ift c12 hf
        refine g_iinc (v := l5 + (1 : Int32)) (lv' := [(5, .int (l5 + (1 : Int32))), (0, .ref a), (2, .int l2), (3, .int l3), (4, .int l4)]) (q := 4) C dX4_draft_65 rfl rfl rfl (by rw [hKN]; decide) rfl ?_
        refine g_goto (pc' := 27) C dX4_draft_68 (by decide) ?_
        refine g_sub (lv' := [(0, .ref a), (2, .int l2), (3, .int l3), (4, .int l4), (5, .int (l5 + (1 : Int32)))]) [1, 2, 3, 4, 0] rfl ?_
        exact ih _ _ _ hf hx
      · replace hf := iff' c12 hf
        refine g_aload_n C rfl (q := 0) rfl dX4_draft_43 rfl ?_
        refine g_get C fc_X4 0 (by decide) wf_RX4_11 (wL_at0 rfl) rfl dX4_draft_44 rfl ?_
        refine g_aload_n C rfl (q := 0) rfl dX4_draft_47 rfl ?_
        refine g_aload_n C rfl (q := 0) rfl dX4_draft_48 rfl ?_
        refine g_get C fc_X4 6 (by decide) wf_RX4_30 (wL_at0 rfl) rfl dX4_draft_49 rfl ?_
        refine g_iload C (q := 4) rfl dX4_draft_52 rfl ?_
        obtain ⟨q13, hq13, hf⟩ := bd hf
        refine g_callV0 (st' := [.ref (a + 1)]) (as := [.int ct, .int l5]) (st2 := [.int q13, .ref (a + 1)]) (k := 2) C ⟨wm_RX4_50, wn_X4_rowOf, wv_X4_rowOf, wi_RX4, wk_X4_rowOf, by decide +kernel⟩ rfl (wL_at0 rfl) (c_X4_rowOf (l := kL K) (E := kE K)  _ hq13) (by rw [hKR]; exact ⟨rfl, rfl, ⟨by decide, by decide⟩, Nat.le_refl _, Nat.le_refl _⟩) rfl rfl (by simp [Value.category]) rfl dX4_draft_54 rfl ?_
        refine g_iload_n C rfl (q := 2) rfl dX4_draft_57 rfl ?_
        refine g_iadd C dX4_draft_58 rfl ?_
        refine g_dup2 C rfl rfl dX4_draft_59 rfl ?_
        obtain ⟨g14, hf⟩ := gd hf
        refine g_iald C (wL_at 1 rfl) (inB_in g14) dX4_draft_60 rfl ?_
        refine g_iload C (q := 3) rfl dX4_draft_61 rfl ?_
        refine g_iadd C dX4_draft_63 rfl ?_
        obtain ⟨g15, hf⟩ := gd hf
        refine g_iast (h' := (wBk σ a (va_up at' (q13 + l3).toNatClampNeg ((at' (q13 + l3).toNatClampNeg) + l4)) pa mo le hd nt ct)) C (wL_at 1 rfl) (inB_in g15) (wL_up 1 (Nat.le_of_ble_eq_true rfl) rfl) dX4_draft_64 rfl ?_
        refine g_iinc (v := l5 + (1 : Int32)) (lv' := [(5, .int (l5 + (1 : Int32))), (0, .ref a), (2, .int l2), (3, .int l3), (4, .int l4)]) (q := 4) C dX4_draft_65 rfl rfl rfl (by rw [hKN]; decide) rfl ?_
        refine g_goto (pc' := 27) C dX4_draft_68 (by decide) ?_
        refine g_sub (lv' := [(0, .ref a), (2, .int l2), (3, .int l3), (4, .int l4), (5, .int (l5 + (1 : Int32)))]) [1, 2, 3, 4, 0] rfl ?_
        exact ih _ _ _ hf hx
set_option maxHeartbeats 2000000 in
set_option maxRecDepth 20000 in
theorem c_X4_draft {l : Launch} {E : Ex} {n : Nat} {σ : AH} {a : Nat}  {at' : Nat → Int32} {pa : Nat → Int32} {mo : Nat → Int32} {le : Nat → Int32} {hd : Nat → Int32} {nt : Nat → Int32} {ct : Int32} {frm0 : Int32} {group : Int32} {axis : Int32} {by0 : Int32} {fu : Nat} (res : (Nat → Int32)) (hf : f_X4_draft fu at' ct frm0 group axis by0 = some res) : Con l E yX4_draft (.code yX4_draft cX4_draft 6 none :: TT) ({ frames := 1, cells := 0, slots := 0, locals := 120 } : Room) 0 0 [.ref a, .int frm0, .int group, .int axis, .int by0] (wBk σ a at' pa mo le hd nt ct) n none (wBk σ a res pa mo le hd nt ct) n := by
  refine con_intro (by decide +kernel) (Nat.le_of_ble_eq_true rfl) ?_
  intro K C hKR hKL hKE hKN hKQ
  subst hKL
  subst hKE
  have C : Cx K RX4 "draft" cX4_draft none := C
  show G K 0 0 0 [(0, .ref a), (1, .int frm0), (2, .int group), (3, .int axis), (4, .int by0)] [] (wBk σ a at' pa mo le hd nt ct) n
  unfold f_X4_draft at hf
  refine g_aload_n C rfl (q := 0) rfl dX4_draft_0 rfl ?_
  refine g_get C fc_X4 0 (by decide) wf_RX4_11 (wL_at0 rfl) rfl dX4_draft_1 rfl ?_
  refine g_iload_n C rfl (q := 1) rfl dX4_draft_4 rfl ?_
  refine g_bipush (v := 18) C (by decide) dX4_draft_5 rfl ?_
  refine g_imul C dX4_draft_7 rfl ?_
  refine g_aload_n C rfl (q := 0) rfl dX4_draft_8 rfl ?_
  refine g_get C fc_X4 0 (by decide) wf_RX4_11 (wL_at0 rfl) rfl dX4_draft_9 rfl ?_
  refine g_aload_n C rfl (q := 0) rfl dX4_draft_12 rfl ?_
  refine g_get C fc_X4 6 (by decide) wf_RX4_30 (wL_at0 rfl) rfl dX4_draft_13 rfl ?_
  refine g_bipush (v := 18) C (by decide) dX4_draft_16 rfl ?_
  refine g_imul C dX4_draft_18 rfl ?_
  refine g_bipush (v := 18) C (by decide) dX4_draft_19 rfl ?_
  obtain ⟨g17, hf⟩ := gd hf
  have g9 := cpyB_ok g17
  refine g_copyi (h' := (wBk σ a (va_cpy at' at' (frm0 * (18 : Int32)).toNatClampNeg (ct * (18 : Int32)).toNatClampNeg (18 : Int32).toNatClampNeg) pa mo le hd nt ct)) C wm_RX4_44 wq_copy ws_copy wi_System (wL_at 1 rfl) g9.1 g9.2.1 g9.2.2.1 g9.2.2.2.1 g9.2.2.2.2 (by rw [hKR]; decide) (by rw [hKR]; decide) (wL_up 1 (Nat.le_of_ble_eq_true rfl) rfl) dX4_draft_21 rfl ?_
  refine g_iconst (v := 0) C (by decide) dX4_draft_24 rfl ?_
  refine g_istore (i := 5) (lv' := [(5, .int (0 : Int32)), (0, .ref a), (1, .int frm0), (2, .int group), (3, .int axis), (4, .int by0)]) C dX4_draft_25 rfl (by rw [hKN]; decide) rfl ?_
  refine g_sub (lv' := [(0, .ref a), (2, .int group), (3, .int axis), (4, .int by0), (5, .int (0 : Int32))]) [1, 3, 4, 5, 0] rfl ?_
  obtain ⟨q16, hq16, hf⟩ := bd hf
  refine g_X4_draft_27 (l2 := group) (l3 := axis) (l4 := by0) (pa := pa) (mo := mo) (le := le) (hd := hd) (nt := nt) (ct := ct) C hKR hKN _ _ _ _ hq16 ?_
  obtain rfl := Option.some.inj hf
  exact g_vret C hKQ dX4_draft_71
def f_X4_knowsDraft_12  (at' : Nat → Int32) (nt : Nat → Int32) (ct : Int32) : Nat → Int32 → Int32 → Option (Int32 ⊕ Unit)
  | 0, _, _ => none
  | fu + 1, l1, l2 => (if (300 : Int32) ≤ l2 then some (.inr ()) else (if l1 = (-1 : Int32) then some (.inr ()) else ((f_X4_isDraft fu at' ct l1).bind fun q15 => (if q15 = 0 then (if inB l1 300 = true then f_X4_knowsDraft_12 at' nt ct fu (nt l1.toNatClampNeg) (l2 + (1 : Int32)) else none) else some (.inl (1 : Int32))))))
def f_X4_knowsDraft (fu : Nat) (at' : Nat → Int32) (hd : Nat → Int32) (nt : Nat → Int32) (ct : Int32) : Option Int32 := ((f_X4_hashOfDraft fu at' ct).bind fun q1 => (if inB q1 512 = true then (sumB (f_X4_knowsDraft_12 at' nt ct fu (hd q1.toNatClampNeg) (0 : Int32)) id fun t19 => some (0 : Int32)) else none))
set_option maxHeartbeats 2000000 in
set_option maxRecDepth 20000 in
theorem g_X4_knowsDraft_12 {K : KX} {n : Nat} {σ : AH} {a : Nat}  {at' : Nat → Int32} {pa : Nat → Int32} {mo : Nat → Int32} {le : Nat → Int32} {hd : Nat → Int32} {nt : Nat → Int32} {ct : Int32} (C : Cx K RX4 "knowsDraft" cX4_knowsDraft (some .boolean)) (hKR : kR K = ({ frames := 1, cells := 0, slots := 0, locals := 22 } : Room)) (hKN : kN K = 3) : ∀ (fu : Nat) (l1 : Int32) (l2 : Int32) (res : (Int32 ⊕ Unit)), f_X4_knowsDraft_12 at' nt ct fu l1 l2 = some res → (∀ t, res = .inl t → KQ K 0 0 (some (.int t)) (wBk σ a at' pa mo le hd nt ct) n) → (∀ t, res = .inr t → G K 0 0 47 [] [] (wBk σ a at' pa mo le hd nt ct) n) → G K 0 0 12 [(0, .ref a), (1, .int l1), (2, .int l2)] [] (wBk σ a at' pa mo le hd nt ct) n := by
  intro fu
  induction fu with
  | zero =>
    intro l1 l2 res hf
    exact absurd hf (by simp [f_X4_knowsDraft_12])
  | succ fu ih =>
    intro l1 l2 res hf hret hx
    rw [f_X4_knowsDraft_12] at hf
    refine g_iload_n C rfl (q := 2) rfl dX4_knowsDraft_12 rfl ?_
    refine g_sipush (v := 300) C (by decide) dX4_knowsDraft_13 rfl ?_
    refine g_icmp_ge (tgt := 47) C dX4_knowsDraft_16 (by decide) rfl (fun c13 => ?_) (fun c13 => ?_)
    · replace hf := ift c13 hf
      obtain rfl := Option.some.inj hf
      refine g_sub (lv' := []) [] rfl ?_
      exact hx () rfl
    · replace hf := iff' c13 hf
      refine g_iload_n C rfl (q := 1) rfl dX4_knowsDraft_19 rfl ?_
      refine g_iconst (v := (-1)) C (by decide) dX4_knowsDraft_20 rfl ?_
      refine g_icmp_eq (tgt := 47) C dX4_knowsDraft_21 (by decide) rfl (fun c14 => ?_) (fun c14 => ?_)
      · replace hf := ift c14 hf
        obtain rfl := Option.some.inj hf
        refine g_sub (lv' := []) [] rfl ?_
        exact hx () rfl
      · replace hf := iff' c14 hf
        refine g_aload_n C rfl (q := 0) rfl dX4_knowsDraft_24 rfl ?_
        refine g_iload_n C rfl (q := 1) rfl dX4_knowsDraft_25 rfl ?_
        obtain ⟨q15, hq15, hf⟩ := bd hf
        refine g_callV0 (st' := []) (as := [.int l1]) (st2 := [.int q15]) (k := 1) C ⟨wm_RX4_58, wn_X4_isDraft, wv_X4_isDraft, wi_RX4, wk_X4_isDraft, by decide +kernel⟩ rfl (wL_at0 rfl) (c_X4_isDraft (l := kL K) (E := kE K)  _ hq15) (by rw [hKR]; exact ⟨rfl, rfl, ⟨by decide, by decide⟩, Nat.le_refl _, Nat.le_refl _⟩) rfl rfl (by simp) rfl dX4_knowsDraft_26 rfl ?_
        refine g_if_eq (tgt := 34) C dX4_knowsDraft_29 (by decide) rfl (fun c16 => ?_) (fun c16 => ?_)
        · replace hf := ift c16 hf
          refine g_aload_n C rfl (q := 0) rfl dX4_knowsDraft_34 rfl ?_
          refine g_get C fc_X4 5 (by decide) wf_RX4_27 (wL_at0 rfl) rfl dX4_knowsDraft_35 rfl ?_
          refine g_iload_n C rfl (q := 1) rfl dX4_knowsDraft_38 rfl ?_
          obtain ⟨g17, hf⟩ := gd hf
          refine g_iald C (wL_at 6 rfl) (inB_in g17) dX4_knowsDraft_39 rfl ?_
          refine g_istore_n (i := 1) (lv' := [(1, .int (nt l1.toNatClampNeg)), (0, .ref a), (2, .int l2)]) C dX4_knowsDraft_40 rfl rfl (by rw [hKN]; decide) rfl ?_
          refine g_iinc (v := l2 + (1 : Int32)) (lv' := [(2, .int (l2 + (1 : Int32))), (1, .int (nt l1.toNatClampNeg)), (0, .ref a)]) (q := 2) C dX4_knowsDraft_41 rfl rfl rfl (by rw [hKN]; decide) rfl ?_
          refine g_goto (pc' := 12) C dX4_knowsDraft_44 (by decide) ?_
          refine g_sub (lv' := [(0, .ref a), (1, .int (nt l1.toNatClampNeg)), (2, .int (l2 + (1 : Int32)))]) [2, 1, 0] rfl ?_
          exact ih _ _ _ hf hret hx
        · replace hf := iff' c16 hf
          refine g_iconst (v := 1) C (by decide) dX4_knowsDraft_32 rfl ?_
          obtain rfl := Option.some.inj hf
          exact g_zret C rfl (hret (1 : Int32) rfl) dX4_knowsDraft_33
set_option maxHeartbeats 2000000 in
set_option maxRecDepth 20000 in
theorem c_X4_knowsDraft {l : Launch} {E : Ex} {n : Nat} {σ : AH} {a : Nat}  {at' : Nat → Int32} {pa : Nat → Int32} {mo : Nat → Int32} {le : Nat → Int32} {hd : Nat → Int32} {nt : Nat → Int32} {ct : Int32}  {fu : Nat} (res : Int32) (hf : f_X4_knowsDraft fu at' hd nt ct = some res) : Con l E yX4_knowsDraft (.code yX4_knowsDraft cX4_knowsDraft 3 (some .boolean) :: TT) ({ frames := 1, cells := 0, slots := 0, locals := 22 } : Room) 0 0 [.ref a] (wBk σ a at' pa mo le hd nt ct) n (some (.int res)) (wBk σ a at' pa mo le hd nt ct) n := by
  refine con_intro (by decide +kernel) (Nat.le_of_ble_eq_true rfl) ?_
  intro K C hKR hKL hKE hKN hKQ
  subst hKL
  subst hKE
  have C : Cx K RX4 "knowsDraft" cX4_knowsDraft (some .boolean) := C
  show G K 0 0 0 [(0, .ref a)] [] (wBk σ a at' pa mo le hd nt ct) n
  unfold f_X4_knowsDraft at hf
  refine g_aload_n C rfl (q := 0) rfl dX4_knowsDraft_0 rfl ?_
  refine g_get C fc_X4 4 (by decide) wf_RX4_24 (wL_at0 rfl) rfl dX4_knowsDraft_1 rfl ?_
  refine g_aload_n C rfl (q := 0) rfl dX4_knowsDraft_4 rfl ?_
  obtain ⟨q1, hq1, hf⟩ := bd hf
  refine g_callV0 (st' := [.ref (a + 5)]) (as := []) (st2 := [.int q1, .ref (a + 5)]) (k := 0) C ⟨wm_RX4_54, wn_X4_hashOfDraft, wv_X4_hashOfDraft, wi_RX4, wk_X4_hashOfDraft, by decide +kernel⟩ rfl (wL_at0 rfl) (c_X4_hashOfDraft (l := kL K) (E := kE K)  _ hq1) (by rw [hKR]; exact ⟨rfl, rfl, ⟨by decide, by decide⟩, Nat.le_refl _, Nat.le_refl _⟩) rfl rfl (by simp [Value.category]) rfl dX4_knowsDraft_5 rfl ?_
  obtain ⟨g2, hf⟩ := gd hf
  refine g_iald C (wL_at 5 rfl) (inB_in g2) dX4_knowsDraft_8 rfl ?_
  refine g_istore_n (i := 1) (lv' := [(1, .int (hd q1.toNatClampNeg)), (0, .ref a)]) C dX4_knowsDraft_9 rfl rfl (by rw [hKN]; decide) rfl ?_
  refine g_iconst (v := 0) C (by decide) dX4_knowsDraft_10 rfl ?_
  refine g_istore_n (i := 2) (lv' := [(2, .int (0 : Int32)), (1, .int (hd q1.toNatClampNeg)), (0, .ref a)]) C dX4_knowsDraft_11 rfl rfl (by rw [hKN]; decide) rfl ?_
  refine g_sub (lv' := [(0, .ref a), (1, .int (hd q1.toNatClampNeg)), (2, .int (0 : Int32))]) [2, 1, 0] rfl ?_
  obtain ⟨q18, hq18, hf1, hf2⟩ := sb hf
  refine g_X4_knowsDraft_12 (at' := at') (pa := pa) (mo := mo) (le := le) (hd := hd) (nt := nt) (ct := ct) C hKR hKN _ _ _ q18 hq18 (fun t19 et19 => ?_) (fun t19 et19 => ?_)
  · obtain rfl := hf1 _ et19
    exact hKQ
  · have hf := hf2 _ et19
    refine g_iconst (v := 0) C (by decide) dX4_knowsDraft_47 rfl ?_
    obtain rfl := Option.some.inj hf
    exact g_zret C rfl hKQ dX4_knowsDraft_48
def f_X3_clear  : Option Int32 := some (1 : Int32)
set_option maxHeartbeats 2000000 in
set_option maxRecDepth 20000 in
theorem c_X3_clear {l : Launch} {E : Ex} {n : Nat} {σ : AH} {a : Nat}  {lo : Nat → Int32} {hi : Nat → Int32} {em : Int32}  (res : Int32) (hf : f_X3_clear  = some res) : Con l E yX3_clear (.code yX3_clear cX3_clear 1 none :: TT) ({ frames := 0, cells := 0, slots := 0, locals := 0 } : Room) 0 0 [.ref a] (wSp σ a lo hi em) n none (wSp σ a lo hi res) n := by
  refine con_intro (by decide +kernel) (Nat.le_of_ble_eq_true rfl) ?_
  intro K C hKR hKL hKE hKN hKQ
  subst hKL
  subst hKE
  have C : Cx K RX3 "clear" cX3_clear none := C
  show G K 0 0 0 [(0, .ref a)] [] (wSp σ a lo hi em) n
  unfold f_X3_clear at hf
  refine g_aload_n C rfl (q := 0) rfl dX3_clear_0 rfl ?_
  refine g_iconst (v := 1) C (by decide) dX3_clear_1 rfl ?_
  refine g_put (h' := (wSp σ a lo hi (1 : Int32))) C fc_X3 2 (by decide) wf_RX3_18 rfl rfl rfl (Nat.le_of_ble_eq_true rfl) (wL_at0 rfl) (wL_up0 (Nat.le_of_ble_eq_true rfl) rfl) dX3_clear_2 rfl ?_
  obtain rfl := Option.some.inj hf
  exact g_vret C hKQ dX3_clear_5
def f_X3_fit_2  (l1 : Int64) : Nat → Int32 → (Nat → Int32) → (Nat → Int32) → Option ((Nat → Int32) × (Nat → Int32))
  | 0, _, _, _ => none
  | fu + 1, l3, lo, hi => (if (3 : Int32) ≤ l3 then some (lo, hi) else ((f_X0_least fu l1 l3).bind fun q12 => (if inB l3 3 = true then ((f_X0_greatest fu l1 l3).bind fun q14 => (if inB l3 3 = true then f_X3_fit_2 l1 fu (l3 + (1 : Int32)) (va_up lo l3.toNatClampNeg q12) (va_up hi l3.toNatClampNeg q14) else none)) else none)))
def f_X3_fit (fu : Nat) (lo : Nat → Int32) (hi : Nat → Int32) (set : Int64) : Option ((Nat → Int32) × (Nat → Int32) × Int32) := ((f_X3_fit_2 set fu (0 : Int32) lo hi).bind fun q16 => some (q16.1, q16.2, (0 : Int32)))
set_option maxHeartbeats 2000000 in
set_option maxRecDepth 20000 in
theorem g_X3_fit_2 {K : KX} {n : Nat} {σ : AH} {a : Nat}  {l1 : Int64} {em : Int32} (C : Cx K RX3 "fit" cX3_fit none) (hKR : kR K = ({ frames := 1, cells := 0, slots := 0, locals := 23 } : Room)) (hKN : kN K = 4) : ∀ (fu : Nat) (l3 : Int32) (lo : Nat → Int32) (hi : Nat → Int32) (res : ((Nat → Int32) × (Nat → Int32))), f_X3_fit_2 l1 fu l3 lo hi = some res → G K 0 0 35 [(0, .ref a)] [] (wSp σ a res.1 res.2 em) n → G K 0 0 2 [(0, .ref a), (1, .long l1), (3, .int l3)] [] (wSp σ a lo hi em) n := by
  intro fu
  induction fu with
  | zero =>
    intro l3 lo hi res hf
    exact absurd hf (by simp [f_X3_fit_2])
  | succ fu ih =>
    intro l3 lo hi res hf hx
    rw [f_X3_fit_2] at hf
    refine g_iload_n C rfl (q := 2) rfl dX3_fit_2 rfl ?_
    refine g_iconst (v := 3) C (by decide) dX3_fit_3 rfl ?_
    refine g_icmp_ge (tgt := 35) C dX3_fit_4 (by decide) rfl (fun c11 => ?_) (fun c11 => ?_)
    · replace hf := ift c11 hf
      obtain rfl := Option.some.inj hf
      refine g_sub (lv' := [(0, .ref a)]) [0] rfl ?_
      exact hx
    · replace hf := iff' c11 hf
      refine g_aload_n C rfl (q := 0) rfl dX3_fit_7 rfl ?_
      refine g_get C fc_X3 0 (by decide) wf_RX3_9 (wL_at0 rfl) rfl dX3_fit_8 rfl ?_
      refine g_iload_n C rfl (q := 2) rfl dX3_fit_11 rfl ?_
      refine g_lload_n C rfl (q := 1) rfl dX3_fit_12 rfl ?_
      refine g_iload_n C rfl (q := 2) rfl dX3_fit_13 rfl ?_
      obtain ⟨q12, hq12, hf⟩ := bd hf
      refine g_callS0 (st' := [.int l3, .ref (a + 1)]) (as := [.long l1, .int l3]) (st2 := [.int q12, .int l3, .ref (a + 1)]) (k := 2) C ⟨wm_RX3_31, ws_X0_least, wi_RX0, wk_X0_least, by decide +kernel⟩ (c_X0_least (l := kL K) (E := kE K)  _ hq12) (by rw [hKR]; exact ⟨rfl, rfl, ⟨by decide, by decide⟩, Nat.le_refl _, Nat.le_refl _⟩) rfl rfl (by simp [Value.category]) rfl dX3_fit_14 rfl ?_
      obtain ⟨g13, hf⟩ := gd hf
      refine g_iast (h' := (wSp σ a (va_up lo l3.toNatClampNeg q12) hi em)) C (wL_at 1 rfl) (inB_in g13) (wL_up 1 (Nat.le_of_ble_eq_true rfl) rfl) dX3_fit_17 rfl ?_
      refine g_aload_n C rfl (q := 0) rfl dX3_fit_18 rfl ?_
      refine g_get C fc_X3 1 (by decide) wf_RX3_15 (wL_at0 rfl) rfl dX3_fit_19 rfl ?_
      refine g_iload_n C rfl (q := 2) rfl dX3_fit_22 rfl ?_
      refine g_lload_n C rfl (q := 1) rfl dX3_fit_23 rfl ?_
      refine g_iload_n C rfl (q := 2) rfl dX3_fit_24 rfl ?_
      obtain ⟨q14, hq14, hf⟩ := bd hf
      refine g_callS0 (st' := [.int l3, .ref (a + 2)]) (as := [.long l1, .int l3]) (st2 := [.int q14, .int l3, .ref (a + 2)]) (k := 2) C ⟨wm_RX3_37, ws_X0_greatest, wi_RX0, wk_X0_greatest, by decide +kernel⟩ (c_X0_greatest (l := kL K) (E := kE K)  _ hq14) (by rw [hKR]; exact ⟨rfl, rfl, ⟨by decide, by decide⟩, Nat.le_refl _, Nat.le_refl _⟩) rfl rfl (by simp [Value.category]) rfl dX3_fit_25 rfl ?_
      obtain ⟨g15, hf⟩ := gd hf
      refine g_iast (h' := (wSp σ a (va_up lo l3.toNatClampNeg q12) (va_up hi l3.toNatClampNeg q14) em)) C (wL_at 2 rfl) (inB_in g15) (wL_up 2 (Nat.le_of_ble_eq_true rfl) rfl) dX3_fit_28 rfl ?_
      refine g_iinc (v := l3 + (1 : Int32)) (lv' := [(3, .int (l3 + (1 : Int32))), (0, .ref a), (1, .long l1)]) (q := 2) C dX3_fit_29 rfl rfl rfl (by rw [hKN]; decide) rfl ?_
      refine g_goto (pc' := 2) C dX3_fit_32 (by decide) ?_
      refine g_sub (lv' := [(0, .ref a), (1, .long l1), (3, .int (l3 + (1 : Int32)))]) [1, 2, 0] rfl ?_
      exact ih _ _ _ _ hf hx
set_option maxHeartbeats 2000000 in
set_option maxRecDepth 20000 in
theorem c_X3_fit {l : Launch} {E : Ex} {n : Nat} {σ : AH} {a : Nat}  {lo : Nat → Int32} {hi : Nat → Int32} {em : Int32} {set : Int64} {fu : Nat} (res : ((Nat → Int32) × (Nat → Int32) × Int32)) (hf : f_X3_fit fu lo hi set = some res) : Con l E yX3_fit (.code yX3_fit cX3_fit 4 none :: TT) ({ frames := 1, cells := 0, slots := 0, locals := 23 } : Room) 0 0 [.ref a, .long set] (wSp σ a lo hi em) n none (wSp σ a res.1 res.2.1 res.2.2) n := by
  refine con_intro (by decide +kernel) (Nat.le_of_ble_eq_true rfl) ?_
  intro K C hKR hKL hKE hKN hKQ
  subst hKL
  subst hKE
  have C : Cx K RX3 "fit" cX3_fit none := C
  show G K 0 0 0 [(0, .ref a), (1, .long set)] [] (wSp σ a lo hi em) n
  unfold f_X3_fit at hf
  refine g_iconst (v := 0) C (by decide) dX3_fit_0 rfl ?_
  refine g_istore_n (i := 3) (lv' := [(3, .int (0 : Int32)), (0, .ref a), (1, .long set)]) C dX3_fit_1 rfl rfl (by rw [hKN]; decide) rfl ?_
  refine g_sub (lv' := [(0, .ref a), (1, .long set), (3, .int (0 : Int32))]) [1, 2, 0] rfl ?_
  obtain ⟨q16, hq16, hf⟩ := bd hf
  refine g_X3_fit_2 (l1 := set) (em := em) C hKR hKN _ _ _ _ _ hq16 ?_
  refine g_aload_n C rfl (q := 0) rfl dX3_fit_35 rfl ?_
  refine g_iconst (v := 0) C (by decide) dX3_fit_36 rfl ?_
  refine g_put (h' := (wSp σ a q16.1 q16.2 (0 : Int32))) C fc_X3 2 (by decide) wf_RX3_18 rfl rfl rfl (Nat.le_of_ble_eq_true rfl) (wL_at0 rfl) (wL_up0 (Nat.le_of_ble_eq_true rfl) rfl) dX3_fit_37 rfl ?_
  obtain rfl := Option.some.inj hf
  exact g_vret C hKQ dX3_fit_40
def f_X3_cover_3 (z : Nat) (l3 : Int32) (em : Int32) (lo2 : Nat → Int32) (hi2 : Nat → Int32) (row : Nat → Int32) : Nat → Int32 → (Nat → Int32) → (Nat → Int32) → Option ((Nat → Int32) × (Nat → Int32))
  | 0, _, _, _ => none
  | fu + 1, l4, lo, hi => (if (3 : Int32) ≤ l4 then some (lo, hi) else (if inB l4 3 = true then (if inB (l3 + l4) z = true then (if inB l4 3 = true then (if inB (l3 + l4) z = true then (if em = 0 then (if inB l4 3 = true then (if inB l4 3 = true then (if em = 0 then (if inB l4 3 = true then (if inB l4 3 = true then f_X3_cover_3 z l3 em lo2 hi2 row fu (l4 + (1 : Int32)) (va_up lo l4.toNatClampNeg (if ((lo2 l4.toNatClampNeg) + (row (l3 + l4).toNatClampNeg)) < (lo l4.toNatClampNeg) then ((lo2 l4.toNatClampNeg) + (row (l3 + l4).toNatClampNeg)) else (lo l4.toNatClampNeg))) (va_up hi l4.toNatClampNeg (if (hi l4.toNatClampNeg) < ((hi2 l4.toNatClampNeg) + (row (l3 + l4).toNatClampNeg)) then ((hi2 l4.toNatClampNeg) + (row (l3 + l4).toNatClampNeg)) else (hi l4.toNatClampNeg))) else none) else none) else (if inB l4 3 = true then f_X3_cover_3 z l3 em lo2 hi2 row fu (l4 + (1 : Int32)) (va_up lo l4.toNatClampNeg (if ((lo2 l4.toNatClampNeg) + (row (l3 + l4).toNatClampNeg)) < (lo l4.toNatClampNeg) then ((lo2 l4.toNatClampNeg) + (row (l3 + l4).toNatClampNeg)) else (lo l4.toNatClampNeg))) (va_up hi l4.toNatClampNeg ((hi2 l4.toNatClampNeg) + (row (l3 + l4).toNatClampNeg))) else none)) else none) else none) else (if inB l4 3 = true then (if em = 0 then (if inB l4 3 = true then (if inB l4 3 = true then f_X3_cover_3 z l3 em lo2 hi2 row fu (l4 + (1 : Int32)) (va_up lo l4.toNatClampNeg ((lo2 l4.toNatClampNeg) + (row (l3 + l4).toNatClampNeg))) (va_up hi l4.toNatClampNeg (if (hi l4.toNatClampNeg) < ((hi2 l4.toNatClampNeg) + (row (l3 + l4).toNatClampNeg)) then ((hi2 l4.toNatClampNeg) + (row (l3 + l4).toNatClampNeg)) else (hi l4.toNatClampNeg))) else none) else none) else (if inB l4 3 = true then f_X3_cover_3 z l3 em lo2 hi2 row fu (l4 + (1 : Int32)) (va_up lo l4.toNatClampNeg ((lo2 l4.toNatClampNeg) + (row (l3 + l4).toNatClampNeg))) (va_up hi l4.toNatClampNeg ((hi2 l4.toNatClampNeg) + (row (l3 + l4).toNatClampNeg))) else none)) else none)) else none) else none) else none) else none))
def f_X3_cover (fu : Nat) (z : Nat) (lo : Nat → Int32) (hi : Nat → Int32) (em : Int32) (lo2 : Nat → Int32) (hi2 : Nat → Int32) (row : Nat → Int32) (frm0 : Int32) : Option ((Nat → Int32) × (Nat → Int32) × Int32) := ((f_X3_cover_3 z frm0 em lo2 hi2 row fu (0 : Int32) lo hi).bind fun q52 => some (q52.1, q52.2, (0 : Int32)))
set_option maxHeartbeats 2000000 in
set_option maxRecDepth 20000 in
theorem g_X3_cover_3 {K : KX} {n : Nat} {σ : AH} {a : Nat} {b : Nat} {c : Nat} {z : Nat} (hab : b + 3 ≤ a ∨ a + 3 ≤ b) (hac : c < a ∨ a + 3 ≤ c) (hbc : c < b ∨ b + 3 ≤ c) {l3 : Int32} {em : Int32} {lo2 : Nat → Int32} {hi2 : Nat → Int32} {em2 : Int32} {row : Nat → Int32} (C : Cx K RX3 "cover" cX3_cover none) (hKR : kR K = ({ frames := 1, cells := 0, slots := 0, locals := 24 } : Room)) (hKN : kN K = 7) : ∀ (fu : Nat) (l4 : Int32) (lo : Nat → Int32) (hi : Nat → Int32) (res : ((Nat → Int32) × (Nat → Int32))), f_X3_cover_3 z l3 em lo2 hi2 row fu l4 lo hi = some res → G K 0 0 109 [(0, .ref a)] [] (wCv σ a b c z res.1 res.2 em lo2 hi2 em2 row) n → G K 0 0 3 [(0, .ref a), (1, .ref b), (2, .ref c), (3, .int l3), (4, .int l4)] [] (wCv σ a b c z lo hi em lo2 hi2 em2 row) n := by
  intro fu
  induction fu with
  | zero =>
    intro l4 lo hi res hf
    exact absurd hf (by simp [f_X3_cover_3])
  | succ fu ih =>
    intro l4 lo hi res hf hx
    rw [f_X3_cover_3] at hf
    refine g_iload C (q := 4) rfl dX3_cover_3 rfl ?_
    refine g_iconst (v := 3) C (by decide) dX3_cover_5 rfl ?_
    refine g_icmp_ge (tgt := 109) C dX3_cover_6 (by decide) rfl (fun c35 => ?_) (fun c35 => ?_)
    · replace hf := ift c35 hf
      obtain rfl := Option.some.inj hf
      refine g_sub (lv' := [(0, .ref a)]) [0] rfl ?_
      exact hx
    · replace hf := iff' c35 hf
      refine g_aload_n C rfl (q := 1) rfl dX3_cover_9 rfl ?_
      refine g_get C fc_X3 0 (by decide) wf_RX3_9 ((wL_out (by show _ ∨ _ + 3 ≤ _; omega)).trans (wL_at0 rfl)) rfl dX3_cover_10 rfl ?_
      refine g_iload C (q := 4) rfl dX3_cover_13 rfl ?_
      obtain ⟨g36, hf⟩ := gd hf
      refine g_iald C ((wL_out (by show _ ∨ _ + 3 ≤ _; omega)).trans (wL_at 1 rfl)) (inB_in g36) dX3_cover_15 rfl ?_
      refine g_aload_n C rfl (q := 2) rfl dX3_cover_16 rfl ?_
      refine g_iload_n C rfl (q := 3) rfl dX3_cover_17 rfl ?_
      refine g_iload C (q := 4) rfl dX3_cover_18 rfl ?_
      refine g_iadd C dX3_cover_20 rfl ?_
      obtain ⟨g37, hf⟩ := gd hf
      refine g_iald C ((wL_out (by show _ ∨ _ + 3 ≤ _; omega)).trans ((wL_out (by show _ ∨ _ + 3 ≤ _; omega)).trans (wL_at0 rfl))) (inB_in g37) dX3_cover_21 rfl ?_
      refine g_iadd C dX3_cover_22 rfl ?_
      refine g_istore (i := 5) (lv' := [(5, .int ((lo2 l4.toNatClampNeg) + (row (l3 + l4).toNatClampNeg))), (0, .ref a), (1, .ref b), (2, .ref c), (3, .int l3), (4, .int l4)]) C dX3_cover_23 rfl (by rw [hKN]; decide) rfl ?_
      refine g_aload_n C rfl (q := 2) rfl dX3_cover_25 rfl ?_
      refine g_get C fc_X3 1 (by decide) wf_RX3_15 ((wL_out (by show _ ∨ _ + 3 ≤ _; omega)).trans (wL_at0 rfl)) rfl dX3_cover_26 rfl ?_
      refine g_iload C (q := 5) rfl dX3_cover_29 rfl ?_
      obtain ⟨g38, hf⟩ := gd hf
      refine g_iald C ((wL_out (by show _ ∨ _ + 3 ≤ _; omega)).trans (wL_at 2 rfl)) (inB_in g38) dX3_cover_31 rfl ?_
      refine g_aload_n C rfl (q := 3) rfl dX3_cover_32 rfl ?_
      refine g_iload_n C rfl (q := 4) rfl dX3_cover_33 rfl ?_
      refine g_iload C (q := 5) rfl dX3_cover_34 rfl ?_
      refine g_iadd C dX3_cover_36 rfl ?_
      obtain ⟨g39, hf⟩ := gd hf
      refine g_iald C ((wL_out (by show _ ∨ _ + 3 ≤ _; omega)).trans ((wL_out (by show _ ∨ _ + 3 ≤ _; omega)).trans (wL_at0 rfl))) (inB_in g39) dX3_cover_37 rfl ?_
      refine g_iadd C dX3_cover_38 rfl ?_
      refine g_istore (i := 6) (lv' := [(6, .int ((hi2 l4.toNatClampNeg) + (row (l3 + l4).toNatClampNeg))), (5, .int ((lo2 l4.toNatClampNeg) + (row (l3 + l4).toNatClampNeg))), (0, .ref a), (1, .ref b), (2, .ref c), (3, .int l3), (4, .int l4)]) C dX3_cover_39 rfl (by rw [hKN]; decide) rfl ?_
      refine g_aload_n C rfl (q := 2) rfl dX3_cover_41 rfl ?_
      refine g_get C fc_X3 0 (by decide) wf_RX3_9 (wL_at0 rfl) rfl dX3_cover_42 rfl ?_
      refine g_iload C (q := 6) rfl dX3_cover_45 rfl ?_
      refine g_aload_n C rfl (q := 2) rfl dX3_cover_47 rfl ?_
      refine g_get C fc_X3 2 (by decide) wf_RX3_18 (wL_at0 rfl) rfl dX3_cover_48 rfl ?_
      refine g_if_eq (tgt := 59) C dX3_cover_51 (by decide) rfl (fun c40 => ?_) (fun c40 => ?_)
      · replace hf := ift c40 hf
        refine g_aload_n C rfl (q := 2) rfl dX3_cover_59 rfl ?_
        refine g_get C fc_X3 0 (by decide) wf_RX3_9 (wL_at0 rfl) rfl dX3_cover_60 rfl ?_
        refine g_iload C (q := 6) rfl dX3_cover_63 rfl ?_
        obtain ⟨g41, hf⟩ := gd hf
        refine g_iald C (wL_at 1 rfl) (inB_in g41) dX3_cover_65 rfl ?_
        refine g_iload C (q := 1) rfl dX3_cover_66 rfl ?_
        refine g_min C wm_RX3_22 ws_Math_min wi_Math wk_Math_min (by rw [hKR]; decide) (by rw [hKR]; simp [Value.category]) (Nat.zero_le _) (Nat.zero_le _) dX3_cover_68 rfl ?_
        obtain ⟨g42, hf⟩ := gd hf
        refine g_iast (h' := (wCv σ a b c z (va_up lo l4.toNatClampNeg (if ((lo2 l4.toNatClampNeg) + (row (l3 + l4).toNatClampNeg)) < (lo l4.toNatClampNeg) then ((lo2 l4.toNatClampNeg) + (row (l3 + l4).toNatClampNeg)) else (lo l4.toNatClampNeg))) hi em lo2 hi2 em2 row)) C (wL_at 1 rfl) (inB_in g42) (wL_up 1 (Nat.le_of_ble_eq_true rfl) rfl) dX3_cover_71 rfl ?_
        refine g_aload_n C rfl (q := 2) rfl dX3_cover_72 rfl ?_
        refine g_get C fc_X3 1 (by decide) wf_RX3_15 (wL_at0 rfl) rfl dX3_cover_73 rfl ?_
        refine g_iload C (q := 6) rfl dX3_cover_76 rfl ?_
        refine g_aload_n C rfl (q := 2) rfl dX3_cover_78 rfl ?_
        refine g_get C fc_X3 2 (by decide) wf_RX3_18 (wL_at0 rfl) rfl dX3_cover_79 rfl ?_
        refine g_if_eq (tgt := 90) C dX3_cover_82 (by decide) rfl (fun c43 => ?_) (fun c43 => ?_)
        · replace hf := ift c43 hf
          refine g_aload_n C rfl (q := 2) rfl dX3_cover_90 rfl ?_
          refine g_get C fc_X3 1 (by decide) wf_RX3_15 (wL_at0 rfl) rfl dX3_cover_91 rfl ?_
          refine g_iload C (q := 6) rfl dX3_cover_94 rfl ?_
          obtain ⟨g44, hf⟩ := gd hf
          refine g_iald C (wL_at 2 rfl) (inB_in g44) dX3_cover_96 rfl ?_
          refine g_iload C (q := 0) rfl dX3_cover_97 rfl ?_
          refine g_max C wm_RX3_28 ws_Math_max wi_Math wk_Math_max (by rw [hKR]; decide) (by rw [hKR]; simp [Value.category]) (Nat.zero_le _) (Nat.zero_le _) dX3_cover_99 rfl ?_
          obtain ⟨g45, hf⟩ := gd hf
          refine g_iast (h' := (wCv σ a b c z (va_up lo l4.toNatClampNeg (if ((lo2 l4.toNatClampNeg) + (row (l3 + l4).toNatClampNeg)) < (lo l4.toNatClampNeg) then ((lo2 l4.toNatClampNeg) + (row (l3 + l4).toNatClampNeg)) else (lo l4.toNatClampNeg))) (va_up hi l4.toNatClampNeg (if (hi l4.toNatClampNeg) < ((hi2 l4.toNatClampNeg) + (row (l3 + l4).toNatClampNeg)) then ((hi2 l4.toNatClampNeg) + (row (l3 + l4).toNatClampNeg)) else (hi l4.toNatClampNeg))) em lo2 hi2 em2 row)) C (wL_at 2 rfl) (inB_in g45) (wL_up 2 (Nat.le_of_ble_eq_true rfl) rfl) dX3_cover_102 rfl ?_
          refine g_iinc (v := l4 + (1 : Int32)) (lv' := [(4, .int (l4 + (1 : Int32))), (6, .int ((hi2 l4.toNatClampNeg) + (row (l3 + l4).toNatClampNeg))), (5, .int ((lo2 l4.toNatClampNeg) + (row (l3 + l4).toNatClampNeg))), (0, .ref a), (1, .ref b), (2, .ref c), (3, .int l3)]) (q := 6) C dX3_cover_103 rfl rfl rfl (by rw [hKN]; decide) rfl ?_
          refine g_goto (pc' := 3) C dX3_cover_106 (by decide) ?_
          refine g_sub (lv' := [(0, .ref a), (1, .ref b), (2, .ref c), (3, .int l3), (4, .int (l4 + (1 : Int32)))]) [3, 4, 5, 6, 0] rfl ?_
          exact ih _ _ _ _ hf hx
        · replace hf := iff' c43 hf
          refine g_iload C (q := 0) rfl dX3_cover_85 rfl ?_
          refine g_goto (pc' := 102) C dX3_cover_87 (by decide) ?_
          obtain ⟨g46, hf⟩ := gd hf
          refine g_iast (h' := (wCv σ a b c z (va_up lo l4.toNatClampNeg (if ((lo2 l4.toNatClampNeg) + (row (l3 + l4).toNatClampNeg)) < (lo l4.toNatClampNeg) then ((lo2 l4.toNatClampNeg) + (row (l3 + l4).toNatClampNeg)) else (lo l4.toNatClampNeg))) (va_up hi l4.toNatClampNeg ((hi2 l4.toNatClampNeg) + (row (l3 + l4).toNatClampNeg))) em lo2 hi2 em2 row)) C (wL_at 2 rfl) (inB_in g46) (wL_up 2 (Nat.le_of_ble_eq_true rfl) rfl) dX3_cover_102 rfl ?_
          refine g_iinc (v := l4 + (1 : Int32)) (lv' := [(4, .int (l4 + (1 : Int32))), (6, .int ((hi2 l4.toNatClampNeg) + (row (l3 + l4).toNatClampNeg))), (5, .int ((lo2 l4.toNatClampNeg) + (row (l3 + l4).toNatClampNeg))), (0, .ref a), (1, .ref b), (2, .ref c), (3, .int l3)]) (q := 6) C dX3_cover_103 rfl rfl rfl (by rw [hKN]; decide) rfl ?_
          refine g_goto (pc' := 3) C dX3_cover_106 (by decide) ?_
          refine g_sub (lv' := [(0, .ref a), (1, .ref b), (2, .ref c), (3, .int l3), (4, .int (l4 + (1 : Int32)))]) [3, 4, 5, 6, 0] rfl ?_
          exact ih _ _ _ _ hf hx
      · replace hf := iff' c40 hf
        refine g_iload C (q := 1) rfl dX3_cover_54 rfl ?_
        refine g_goto (pc' := 71) C dX3_cover_56 (by decide) ?_
        obtain ⟨g47, hf⟩ := gd hf
        refine g_iast (h' := (wCv σ a b c z (va_up lo l4.toNatClampNeg ((lo2 l4.toNatClampNeg) + (row (l3 + l4).toNatClampNeg))) hi em lo2 hi2 em2 row)) C (wL_at 1 rfl) (inB_in g47) (wL_up 1 (Nat.le_of_ble_eq_true rfl) rfl) dX3_cover_71 rfl ?_
        refine g_aload_n C rfl (q := 2) rfl dX3_cover_72 rfl ?_
        refine g_get C fc_X3 1 (by decide) wf_RX3_15 (wL_at0 rfl) rfl dX3_cover_73 rfl ?_
        refine g_iload C (q := 6) rfl dX3_cover_76 rfl ?_
        refine g_aload_n C rfl (q := 2) rfl dX3_cover_78 rfl ?_
        refine g_get C fc_X3 2 (by decide) wf_RX3_18 (wL_at0 rfl) rfl dX3_cover_79 rfl ?_
        refine g_if_eq (tgt := 90) C dX3_cover_82 (by decide) rfl (fun c48 => ?_) (fun c48 => ?_)
        · replace hf := ift c48 hf
          refine g_aload_n C rfl (q := 2) rfl dX3_cover_90 rfl ?_
          refine g_get C fc_X3 1 (by decide) wf_RX3_15 (wL_at0 rfl) rfl dX3_cover_91 rfl ?_
          refine g_iload C (q := 6) rfl dX3_cover_94 rfl ?_
          obtain ⟨g49, hf⟩ := gd hf
          refine g_iald C (wL_at 2 rfl) (inB_in g49) dX3_cover_96 rfl ?_
          refine g_iload C (q := 0) rfl dX3_cover_97 rfl ?_
          refine g_max C wm_RX3_28 ws_Math_max wi_Math wk_Math_max (by rw [hKR]; decide) (by rw [hKR]; simp [Value.category]) (Nat.zero_le _) (Nat.zero_le _) dX3_cover_99 rfl ?_
          obtain ⟨g50, hf⟩ := gd hf
          refine g_iast (h' := (wCv σ a b c z (va_up lo l4.toNatClampNeg ((lo2 l4.toNatClampNeg) + (row (l3 + l4).toNatClampNeg))) (va_up hi l4.toNatClampNeg (if (hi l4.toNatClampNeg) < ((hi2 l4.toNatClampNeg) + (row (l3 + l4).toNatClampNeg)) then ((hi2 l4.toNatClampNeg) + (row (l3 + l4).toNatClampNeg)) else (hi l4.toNatClampNeg))) em lo2 hi2 em2 row)) C (wL_at 2 rfl) (inB_in g50) (wL_up 2 (Nat.le_of_ble_eq_true rfl) rfl) dX3_cover_102 rfl ?_
          refine g_iinc (v := l4 + (1 : Int32)) (lv' := [(4, .int (l4 + (1 : Int32))), (6, .int ((hi2 l4.toNatClampNeg) + (row (l3 + l4).toNatClampNeg))), (5, .int ((lo2 l4.toNatClampNeg) + (row (l3 + l4).toNatClampNeg))), (0, .ref a), (1, .ref b), (2, .ref c), (3, .int l3)]) (q := 6) C dX3_cover_103 rfl rfl rfl (by rw [hKN]; decide) rfl ?_
          refine g_goto (pc' := 3) C dX3_cover_106 (by decide) ?_
          refine g_sub (lv' := [(0, .ref a), (1, .ref b), (2, .ref c), (3, .int l3), (4, .int (l4 + (1 : Int32)))]) [3, 4, 5, 6, 0] rfl ?_
          exact ih _ _ _ _ hf hx
        · replace hf := iff' c48 hf
          refine g_iload C (q := 0) rfl dX3_cover_85 rfl ?_
          refine g_goto (pc' := 102) C dX3_cover_87 (by decide) ?_
          obtain ⟨g51, hf⟩ := gd hf
          refine g_iast (h' := (wCv σ a b c z (va_up lo l4.toNatClampNeg ((lo2 l4.toNatClampNeg) + (row (l3 + l4).toNatClampNeg))) (va_up hi l4.toNatClampNeg ((hi2 l4.toNatClampNeg) + (row (l3 + l4).toNatClampNeg))) em lo2 hi2 em2 row)) C (wL_at 2 rfl) (inB_in g51) (wL_up 2 (Nat.le_of_ble_eq_true rfl) rfl) dX3_cover_102 rfl ?_
          refine g_iinc (v := l4 + (1 : Int32)) (lv' := [(4, .int (l4 + (1 : Int32))), (6, .int ((hi2 l4.toNatClampNeg) + (row (l3 + l4).toNatClampNeg))), (5, .int ((lo2 l4.toNatClampNeg) + (row (l3 + l4).toNatClampNeg))), (0, .ref a), (1, .ref b), (2, .ref c), (3, .int l3)]) (q := 6) C dX3_cover_103 rfl rfl rfl (by rw [hKN]; decide) rfl ?_
          refine g_goto (pc' := 3) C dX3_cover_106 (by decide) ?_
          refine g_sub (lv' := [(0, .ref a), (1, .ref b), (2, .ref c), (3, .int l3), (4, .int (l4 + (1 : Int32)))]) [3, 4, 5, 6, 0] rfl ?_
          exact ih _ _ _ _ hf hx
set_option maxHeartbeats 2000000 in
set_option maxRecDepth 20000 in
theorem c_X3_cover {l : Launch} {E : Ex} {n : Nat} {σ : AH} {a : Nat} {b : Nat} {c : Nat} {z : Nat} (hab : b + 3 ≤ a ∨ a + 3 ≤ b) (hac : c < a ∨ a + 3 ≤ c) (hbc : c < b ∨ b + 3 ≤ c) {lo : Nat → Int32} {hi : Nat → Int32} {em : Int32} {lo2 : Nat → Int32} {hi2 : Nat → Int32} {em2 : Int32} {row : Nat → Int32} {frm0 : Int32} {fu : Nat} (res : ((Nat → Int32) × (Nat → Int32) × Int32)) (hf : f_X3_cover fu z lo hi em lo2 hi2 row frm0 = some res) : Con l E yX3_cover (.code yX3_cover cX3_cover 7 none :: TT) ({ frames := 1, cells := 0, slots := 0, locals := 24 } : Room) 0 0 [.ref a, .ref b, .ref c, .int frm0] (wCv σ a b c z lo hi em lo2 hi2 em2 row) n none (wCv σ a b c z res.1 res.2.1 res.2.2 lo2 hi2 em2 row) n := by
  refine con_intro (by decide +kernel) (Nat.le_of_ble_eq_true rfl) ?_
  intro K C hKR hKL hKE hKN hKQ
  subst hKL
  subst hKE
  have C : Cx K RX3 "cover" cX3_cover none := C
  show G K 0 0 0 [(0, .ref a), (1, .ref b), (2, .ref c), (3, .int frm0)] [] (wCv σ a b c z lo hi em lo2 hi2 em2 row) n
  unfold f_X3_cover at hf
  refine g_iconst (v := 0) C (by decide) dX3_cover_0 rfl ?_
  refine g_istore (i := 4) (lv' := [(4, .int (0 : Int32)), (0, .ref a), (1, .ref b), (2, .ref c), (3, .int frm0)]) C dX3_cover_1 rfl (by rw [hKN]; decide) rfl ?_
  refine g_sub (lv' := [(0, .ref a), (1, .ref b), (2, .ref c), (3, .int frm0), (4, .int (0 : Int32))]) [1, 2, 3, 4, 0] rfl ?_
  obtain ⟨q52, hq52, hf⟩ := bd hf
  refine g_X3_cover_3 (l3 := frm0) (em := em) (lo2 := lo2) (hi2 := hi2) (em2 := em2) (row := row) hab hac hbc C hKR hKN _ _ _ _ _ hq52 ?_
  refine g_aload_n C rfl (q := 0) rfl dX3_cover_109 rfl ?_
  refine g_iconst (v := 0) C (by decide) dX3_cover_110 rfl ?_
  refine g_put (h' := (wCv σ a b c z q52.1 q52.2 (0 : Int32) lo2 hi2 em2 row)) C fc_X3 2 (by decide) wf_RX3_18 rfl rfl rfl (Nat.le_of_ble_eq_true rfl) (wL_at0 rfl) (wL_up0 (Nat.le_of_ble_eq_true rfl) rfl) dX3_cover_111 rfl ?_
  obtain rfl := Option.some.inj hf
  exact g_vret C hKQ dX3_cover_114
def f_X3_isApart_3  (l2 : Int32) (l3 : Int32) (lo : Nat → Int32) (hi : Nat → Int32) (lo2 : Nat → Int32) (hi2 : Nat → Int32) : Nat → Int32 → Option (Int32 ⊕ Unit)
  | 0, _ => none
  | fu + 1, l4 => (if (3 : Int32) ≤ l4 then some (.inr ()) else (if inB l4 3 = true then (if inB l4 3 = true then (if (hi2 l4.toNatClampNeg) < ((lo l4.toNatClampNeg) + (if l4 = l2 then l3 else (0 : Int32))) then some (.inl (1 : Int32)) else (if inB l4 3 = true then (if inB l4 3 = true then (if (lo2 l4.toNatClampNeg) ≤ ((hi l4.toNatClampNeg) + (if l4 = l2 then l3 else (0 : Int32))) then f_X3_isApart_3 l2 l3 lo hi lo2 hi2 fu (l4 + (1 : Int32)) else some (.inl (1 : Int32))) else none) else none)) else none) else none))
def f_X3_isApart (fu : Nat) (lo : Nat → Int32) (hi : Nat → Int32) (lo2 : Nat → Int32) (hi2 : Nat → Int32) (axis : Int32) (by0 : Int32) : Option Int32 := (sumB (f_X3_isApart_3 axis by0 lo hi lo2 hi2 fu (0 : Int32)) id fun t29 => some (0 : Int32))
set_option maxHeartbeats 2000000 in
set_option maxRecDepth 20000 in
theorem g_X3_isApart_3 {K : KX} {n : Nat} {σ : AH} {a : Nat} {b : Nat} (hab : b + 3 ≤ a ∨ a + 3 ≤ b) {l2 : Int32} {l3 : Int32} {lo : Nat → Int32} {hi : Nat → Int32} {em : Int32} {lo2 : Nat → Int32} {hi2 : Nat → Int32} {em2 : Int32} (C : Cx K RX3 "isApart" cX3_isApart (some .boolean)) (hKR : kR K = ({ frames := 0, cells := 0, slots := 0, locals := 0 } : Room)) (hKN : kN K = 6) : ∀ (fu : Nat) (l4 : Int32) (res : (Int32 ⊕ Unit)), f_X3_isApart_3 l2 l3 lo hi lo2 hi2 fu l4 = some res → (∀ t, res = .inl t → KQ K 0 0 (some (.int t)) (wAp σ a b lo hi em lo2 hi2 em2) n) → (∀ t, res = .inr t → G K 0 0 70 [] [] (wAp σ a b lo hi em lo2 hi2 em2) n) → G K 0 0 3 [(0, .ref a), (1, .ref b), (2, .int l2), (3, .int l3), (4, .int l4)] [] (wAp σ a b lo hi em lo2 hi2 em2) n := by
  intro fu
  induction fu with
  | zero =>
    intro l4 res hf
    exact absurd hf (by simp [f_X3_isApart_3])
  | succ fu ih =>
    intro l4 res hf hret hx
    rw [f_X3_isApart_3] at hf
    refine g_iload C (q := 4) rfl dX3_isApart_3 rfl ?_
    refine g_iconst (v := 3) C (by decide) dX3_isApart_5 rfl ?_
    refine g_icmp_ge (tgt := 70) C dX3_isApart_6 (by decide) rfl (fun c19 => ?_) (fun c19 => ?_)
    · replace hf := ift c19 hf
      obtain rfl := Option.some.inj hf
      refine g_sub (lv' := []) [] rfl ?_
      exact hx () rfl
    · replace hf := iff' c19 hf
      refine g_iload C (q := 4) rfl dX3_isApart_9 rfl ?_
      refine g_iload_n C rfl (q := 2) rfl dX3_isApart_11 rfl ?_
      have j26 : G K 0 0 20 [(0, .ref a), (1, .ref b), (2, .int l2), (3, .int l3), (4, .int l4)] [.int (if l4 = l2 then l3 else (0 : Int32))] (wAp σ a b lo hi em lo2 hi2 em2) n := by
        refine g_istore (i := 5) (lv' := [(5, .int (if l4 = l2 then l3 else (0 : Int32))), (0, .ref a), (1, .ref b), (2, .int l2), (3, .int l3), (4, .int l4)]) C dX3_isApart_20 rfl (by rw [hKN]; decide) rfl ?_
        refine g_aload_n C rfl (q := 1) rfl dX3_isApart_22 rfl ?_
        refine g_get C fc_X3 0 (by decide) wf_RX3_9 (wL_at0 rfl) rfl dX3_isApart_23 rfl ?_
        refine g_iload C (q := 5) rfl dX3_isApart_26 rfl ?_
        obtain ⟨g20, hf⟩ := gd hf
        refine g_iald C (wL_at 1 rfl) (inB_in g20) dX3_isApart_28 rfl ?_
        refine g_iload C (q := 0) rfl dX3_isApart_29 rfl ?_
        refine g_iadd C dX3_isApart_31 rfl ?_
        refine g_aload_n C rfl (q := 2) rfl dX3_isApart_32 rfl ?_
        refine g_get C fc_X3 1 (by decide) wf_RX3_15 ((wL_out (by show _ ∨ _ + 3 ≤ _; omega)).trans (wL_at0 rfl)) rfl dX3_isApart_33 rfl ?_
        refine g_iload C (q := 5) rfl dX3_isApart_36 rfl ?_
        obtain ⟨g21, hf⟩ := gd hf
        refine g_iald C ((wL_out (by show _ ∨ _ + 3 ≤ _; omega)).trans (wL_at 2 rfl)) (inB_in g21) dX3_isApart_38 rfl ?_
        refine g_icmp_gt (tgt := 62) C dX3_isApart_39 (by decide) rfl (fun c22 => ?_) (fun c22 => ?_)
        · replace hf := ift c22 hf
          refine g_iconst (v := 1) C (by decide) dX3_isApart_62 rfl ?_
          obtain rfl := Option.some.inj hf
          exact g_zret C rfl (hret (1 : Int32) rfl) dX3_isApart_63
        · replace hf := iff' c22 hf
          refine g_aload_n C rfl (q := 1) rfl dX3_isApart_42 rfl ?_
          refine g_get C fc_X3 1 (by decide) wf_RX3_15 (wL_at0 rfl) rfl dX3_isApart_43 rfl ?_
          refine g_iload C (q := 5) rfl dX3_isApart_46 rfl ?_
          obtain ⟨g23, hf⟩ := gd hf
          refine g_iald C (wL_at 2 rfl) (inB_in g23) dX3_isApart_48 rfl ?_
          refine g_iload C (q := 0) rfl dX3_isApart_49 rfl ?_
          refine g_iadd C dX3_isApart_51 rfl ?_
          refine g_aload_n C rfl (q := 2) rfl dX3_isApart_52 rfl ?_
          refine g_get C fc_X3 0 (by decide) wf_RX3_9 ((wL_out (by show _ ∨ _ + 3 ≤ _; omega)).trans (wL_at0 rfl)) rfl dX3_isApart_53 rfl ?_
          refine g_iload C (q := 5) rfl dX3_isApart_56 rfl ?_
          obtain ⟨g24, hf⟩ := gd hf
          refine g_iald C ((wL_out (by show _ ∨ _ + 3 ≤ _; omega)).trans (wL_at 1 rfl)) (inB_in g24) dX3_isApart_58 rfl ?_
          refine g_icmp_ge (tgt := 64) C dX3_isApart_59 (by decide) rfl (fun c25 => ?_) (fun c25 => ?_)
          · replace hf := ift c25 hf
            refine g_iinc (v := l4 + (1 : Int32)) (lv' := [(4, .int (l4 + (1 : Int32))), (5, .int (if l4 = l2 then l3 else (0 : Int32))), (0, .ref a), (1, .ref b), (2, .int l2), (3, .int l3)]) (q := 5) C dX3_isApart_64 rfl rfl rfl (by rw [hKN]; decide) rfl ?_
            refine g_goto (pc' := 3) C dX3_isApart_67 (by decide) ?_
            refine g_sub (lv' := [(0, .ref a), (1, .ref b), (2, .int l2), (3, .int l3), (4, .int (l4 + (1 : Int32)))]) [2, 3, 4, 5, 0] rfl ?_
            exact ih _ _ hf hret hx
          · replace hf := iff' c25 hf
            refine g_iconst (v := 1) C (by decide) dX3_isApart_62 rfl ?_
            obtain rfl := Option.some.inj hf
            exact g_zret C rfl (hret (1 : Int32) rfl) dX3_isApart_63
      refine g_icmp_ne (tgt := 19) C dX3_isApart_12 (by decide) rfl (fun c27 => ?_) (fun c27 => ?_)
      · refine g_iconst (v := 0) C (by decide) dX3_isApart_19 rfl ?_
        exact g_topI (by rw [if_neg c27]) j26
      · refine g_iload_n C rfl (q := 3) rfl dX3_isApart_15 rfl ?_
        refine g_goto (pc' := 20) C dX3_isApart_16 (by decide) ?_
        exact g_topI (by rw [if_pos c27]) j26
set_option maxHeartbeats 2000000 in
set_option maxRecDepth 20000 in
theorem c_X3_isApart {l : Launch} {E : Ex} {n : Nat} {σ : AH} {a : Nat} {b : Nat} (hab : b + 3 ≤ a ∨ a + 3 ≤ b) {lo : Nat → Int32} {hi : Nat → Int32} {em : Int32} {lo2 : Nat → Int32} {hi2 : Nat → Int32} {em2 : Int32} {axis : Int32} {by0 : Int32} {fu : Nat} (res : Int32) (hf : f_X3_isApart fu lo hi lo2 hi2 axis by0 = some res) : Con l E yX3_isApart (.code yX3_isApart cX3_isApart 6 (some .boolean) :: TT) ({ frames := 0, cells := 0, slots := 0, locals := 0 } : Room) 0 0 [.ref a, .ref b, .int axis, .int by0] (wAp σ a b lo hi em lo2 hi2 em2) n (some (.int res)) (wAp σ a b lo hi em lo2 hi2 em2) n := by
  refine con_intro (by decide +kernel) (Nat.le_of_ble_eq_true rfl) ?_
  intro K C hKR hKL hKE hKN hKQ
  subst hKL
  subst hKE
  have C : Cx K RX3 "isApart" cX3_isApart (some .boolean) := C
  show G K 0 0 0 [(0, .ref a), (1, .ref b), (2, .int axis), (3, .int by0)] [] (wAp σ a b lo hi em lo2 hi2 em2) n
  unfold f_X3_isApart at hf
  refine g_iconst (v := 0) C (by decide) dX3_isApart_0 rfl ?_
  refine g_istore (i := 4) (lv' := [(4, .int (0 : Int32)), (0, .ref a), (1, .ref b), (2, .int axis), (3, .int by0)]) C dX3_isApart_1 rfl (by rw [hKN]; decide) rfl ?_
  refine g_sub (lv' := [(0, .ref a), (1, .ref b), (2, .int axis), (3, .int by0), (4, .int (0 : Int32))]) [1, 2, 3, 4, 0] rfl ?_
  obtain ⟨q28, hq28, hf1, hf2⟩ := sb hf
  refine g_X3_isApart_3 (l2 := axis) (l3 := by0) (lo := lo) (hi := hi) (em := em) (lo2 := lo2) (hi2 := hi2) (em2 := em2) hab C hKR hKN _ _ q28 hq28 (fun t29 et29 => ?_) (fun t29 et29 => ?_)
  · obtain rfl := hf1 _ et29
    exact hKQ
  · have hf := hf2 _ et29
    refine g_iconst (v := 0) C (by decide) dX3_isApart_70 rfl ?_
    obtain rfl := Option.some.inj hf
    exact g_zret C rfl hKQ dX3_isApart_71
