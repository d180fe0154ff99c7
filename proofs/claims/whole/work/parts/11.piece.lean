theorem wf_RX1_24 : Cond.fieldLink RX1 24 (TX1 4).1 (TX1 4).2.1 (TX1 4).2.2.1 ∈ TT := tt_mem 72 (by decide +kernel) (by decide +kernel)
theorem wm_RX1_28 : Cond.methodLink RX1 28 yJ13_bitCount_95d88 ∈ TT := tt_mem 367 (by decide +kernel) (by decide +kernel)
theorem wf_RX1_72 : Cond.fieldLink RX1 72 (TX1 6).1 (TX1 6).2.1 (TX1 6).2.2.1 ∈ TT := tt_mem 74 (by decide +kernel) (by decide +kernel)
theorem wf_RX1_55 : Cond.fieldLink RX1 55 (TX1 7).1 (TX1 7).2.1 (TX1 7).2.2.1 ∈ TT := tt_mem 75 (by decide +kernel) (by decide +kernel)
theorem wk_X1_forget : Cond.code yX1_forget cX1_forget 1 none ∈ TT := tt_mem 381 (by decide +kernel) (by decide +kernel)
theorem wi_RX1 : Cond.initialized RX1 ∈ TT := tt_mem 35 (by decide +kernel) (by decide +kernel)
theorem wm_RX1_34 : Cond.methodLink RX1 34 yX1_forget ∈ TT := tt_mem 378 (by decide +kernel) (by decide +kernel)
theorem wn_X1_forget : Cond.instanceMethod yX1_forget ∈ TT := tt_mem 380 (by decide +kernel) (by decide +kernel)
theorem wv_X1_forget : Cond.selects yX1_forget.cls yX1_forget yX1_forget ∈ TT := tt_mem 1 (by decide +kernel) (by decide +kernel)
theorem wf_RX1_37 : Cond.fieldLink RX1 37 (TX1 5).1 (TX1 5).2.1 (TX1 5).2.2.1 ∈ TT := tt_mem 73 (by decide +kernel) (by decide +kernel)
theorem wf_RX1_44 : Cond.fieldLink RX1 44 (TX1 9).1 (TX1 9).2.1 (TX1 9).2.2.1 ∈ TT := tt_mem 77 (by decide +kernel) (by decide +kernel)
theorem wf_RX1_11 : Cond.fieldLink RX1 11 (TX1 0).1 (TX1 0).2.1 (TX1 0).2.2.1 ∈ TT := tt_mem 68 (by decide +kernel) (by decide +kernel)
theorem wk_X0_isBelow : Cond.code yX0_isBelow cX0_isBelow 4 (some .boolean) ∈ TT := tt_mem 453 (by decide +kernel) (by decide +kernel)
theorem ws_X0_isBelow : Cond.static yX0_isBelow ∈ TT := tt_mem 452 (by decide +kernel) (by decide +kernel)
theorem wm_RX1_97 : Cond.methodLink RX1 97 yX0_isBelow ∈ TT := tt_mem 451 (by decide +kernel) (by decide +kernel)
theorem wk_X1_addShape : Cond.code yX1_addShape cX1_addShape 5 none ∈ TT := tt_mem 450 (by decide +kernel) (by decide +kernel)
theorem wm_RX1_93 : Cond.methodLink RX1 93 yX1_addShape ∈ TT := tt_mem 447 (by decide +kernel) (by decide +kernel)
theorem wn_X1_addShape : Cond.instanceMethod yX1_addShape ∈ TT := tt_mem 449 (by decide +kernel) (by decide +kernel)
theorem wv_X1_addShape : Cond.selects yX1_addShape.cls yX1_addShape yX1_addShape ∈ TT := tt_mem 3 (by decide +kernel) (by decide +kernel)
theorem wk_X0_settled : Cond.code yX0_settled cX0_settled 5 (some .long) ∈ TT := tt_mem 441 (by decide +kernel) (by decide +kernel)
theorem ws_X0_settled : Cond.static yX0_settled ∈ TT := tt_mem 440 (by decide +kernel) (by decide +kernel)
theorem wm_RX1_89 : Cond.methodLink RX1 89 yX0_settled ∈ TT := tt_mem 439 (by decide +kernel) (by decide +kernel)
theorem wk_X0_turned : Cond.code yX0_turned cX0_turned 14 (some .long) ∈ TT := tt_mem 432 (by decide +kernel) (by decide +kernel)
theorem ws_X0_turned : Cond.static yX0_turned ∈ TT := tt_mem 431 (by decide +kernel) (by decide +kernel)
theorem wm_RX1_85 : Cond.methodLink RX1 85 yX0_turned ∈ TT := tt_mem 430 (by decide +kernel) (by decide +kernel)
theorem wk_X0_mirrors : Cond.code yX0_mirrors cX0_mirrors 3 (some .boolean) ∈ TT := tt_mem 423 (by decide +kernel) (by decide +kernel)
theorem ws_X0_mirrors : Cond.static yX0_mirrors ∈ TT := tt_mem 422 (by decide +kernel) (by decide +kernel)
theorem wm_RX1_81 : Cond.methodLink RX1 81 yX0_mirrors ∈ TT := tt_mem 421 (by decide +kernel) (by decide +kernel)
theorem wk_X0_hangsTogether : Cond.code yX0_hangsTogether cX0_hangsTogether 5 (some .boolean) ∈ TT := tt_mem 410 (by decide +kernel) (by decide +kernel)
theorem ws_X0_hangsTogether : Cond.static yX0_hangsTogether ∈ TT := tt_mem 409 (by decide +kernel) (by decide +kernel)
theorem wm_RX1_75 : Cond.methodLink RX1 75 yX0_hangsTogether ∈ TT := tt_mem 408 (by decide +kernel) (by decide +kernel)
theorem wk_X1_learnShapes : Cond.code yX1_learnShapes cX1_learnShapes 2 none ∈ TT := tt_mem 407 (by decide +kernel) (by decide +kernel)
theorem wm_RX1_41 : Cond.methodLink RX1 41 yX1_learnShapes ∈ TT := tt_mem 404 (by decide +kernel) (by decide +kernel)
theorem wn_X1_learnShapes : Cond.instanceMethod yX1_learnShapes ∈ TT := tt_mem 406 (by decide +kernel) (by decide +kernel)
theorem wv_X1_learnShapes : Cond.selects yX1_learnShapes.cls yX1_learnShapes yX1_learnShapes ∈ TT := tt_mem 2 (by decide +kernel) (by decide +kernel)
theorem wk_X1_countShapes : Cond.code yX1_countShapes cX1_countShapes 1 (some .int) ∈ TT := tt_mem 403 (by decide +kernel) (by decide +kernel)
theorem wm_RX1_48 : Cond.methodLink RX1 48 yX1_countShapes ∈ TT := tt_mem 611 (by decide +kernel) (by decide +kernel)
theorem wn_X1_countShapes : Cond.instanceMethod yX1_countShapes ∈ TT := tt_mem 401 (by decide +kernel) (by decide +kernel)
theorem wv_X1_countShapes : Cond.selects yX1_countShapes.cls yX1_countShapes yX1_countShapes ∈ TT := tt_mem 402 (by decide +kernel) (by decide +kernel)
theorem wf_RX1_52 : Cond.fieldLink RX1 52 (TX1 10).1 (TX1 10).2.1 (TX1 10).2.2.1 ∈ TT := tt_mem 78 (by decide +kernel) (by decide +kernel)
theorem wf_RX1_15 : Cond.fieldLink RX1 15 (TX1 1).1 (TX1 1).2.1 (TX1 1).2.2.1 ∈ TT := tt_mem 69 (by decide +kernel) (by decide +kernel)
theorem wf_RX1_18 : Cond.fieldLink RX1 18 (TX1 2).1 (TX1 2).2.1 (TX1 2).2.2.1 ∈ TT := tt_mem 70 (by decide +kernel) (by decide +kernel)
theorem wc_RX1_105 : Cond.constantLong RX1 105 (-1) ∈ TT := tt_mem 510 (by decide +kernel) (by decide +kernel)
theorem wf_RX1_21 : Cond.fieldLink RX1 21 (TX1 3).1 (TX1 3).2.1 (TX1 3).2.2.1 ∈ TT := tt_mem 71 (by decide +kernel) (by decide +kernel)
theorem wk_X0_greatest : Cond.code yX0_greatest cX0_greatest 4 (some .int) ∈ TT := tt_mem 509 (by decide +kernel) (by decide +kernel)
theorem ws_X0_greatest : Cond.static yX0_greatest ∈ TT := tt_mem 508 (by decide +kernel) (by decide +kernel)
theorem wm_RX1_101 : Cond.methodLink RX1 101 yX0_greatest ∈ TT := tt_mem 507 (by decide +kernel) (by decide +kernel)
theorem wm_RX1_113 : Cond.methodLink RX1 113 yX0_lowest ∈ TT := tt_mem 522 (by decide +kernel) (by decide +kernel)
theorem wk_J7_fill_d0a16 : Cond.code yJ7_fill_d0a16 cJ7_fill_d0a16 5 none ∈ TT := tt_mem 521 (by decide +kernel) (by decide +kernel)
theorem wi_RJ7 : Cond.initialized RJ7 ∈ TT := tt_mem 50 (by decide +kernel) (by decide +kernel)
theorem ws_J7_fill_d0a16 : Cond.static yJ7_fill_d0a16 ∈ TT := tt_mem 520 (by decide +kernel) (by decide +kernel)
theorem wm_RX1_107 : Cond.methodLink RX1 107 yJ7_fill_d0a16 ∈ TT := tt_mem 519 (by decide +kernel) (by decide +kernel)
theorem wk_X1_mergeIn : Cond.code yX1_mergeIn cX1_mergeIn 5 none ∈ TT := tt_mem 514 (by decide +kernel) (by decide +kernel)
theorem wm_RX1_65 : Cond.methodLink RX1 65 yX1_mergeIn ∈ TT := tt_mem 511 (by decide +kernel) (by decide +kernel)
theorem wn_X1_mergeIn : Cond.instanceMethod yX1_mergeIn ∈ TT := tt_mem 513 (by decide +kernel) (by decide +kernel)
theorem wv_X1_mergeIn : Cond.selects yX1_mergeIn.cls yX1_mergeIn yX1_mergeIn ∈ TT := tt_mem 5 (by decide +kernel) (by decide +kernel)
theorem wk_X1_placeOneShape : Cond.code yX1_placeOneShape cX1_placeOneShape 14 (some .int) ∈ TT := tt_mem 506 (by decide +kernel) (by decide +kernel)
theorem wm_RX1_61 : Cond.methodLink RX1 61 yX1_placeOneShape ∈ TT := tt_mem 503 (by decide +kernel) (by decide +kernel)
theorem wn_X1_placeOneShape : Cond.instanceMethod yX1_placeOneShape ∈ TT := tt_mem 505 (by decide +kernel) (by decide +kernel)
theorem wv_X1_placeOneShape : Cond.selects yX1_placeOneShape.cls yX1_placeOneShape yX1_placeOneShape ∈ TT := tt_mem 4 (by decide +kernel) (by decide +kernel)
theorem wf_RX1_58 : Cond.fieldLink RX1 58 (TX1 8).1 (TX1 8).2.1 (TX1 8).2.2.1 ∈ TT := tt_mem 76 (by decide +kernel) (by decide +kernel)
theorem wk_X1_indexPlaces : Cond.code yX1_indexPlaces cX1_indexPlaces 7 none ∈ TT := tt_mem 518 (by decide +kernel) (by decide +kernel)
theorem wm_RX1_69 : Cond.methodLink RX1 69 yX1_indexPlaces ∈ TT := tt_mem 515 (by decide +kernel) (by decide +kernel)
theorem wn_X1_indexPlaces : Cond.instanceMethod yX1_indexPlaces ∈ TT := tt_mem 517 (by decide +kernel) (by decide +kernel)
theorem wv_X1_indexPlaces : Cond.selects yX1_indexPlaces.cls yX1_indexPlaces yX1_indexPlaces ∈ TT := tt_mem 6 (by decide +kernel) (by decide +kernel)
def f_J7_fill_d0a16_6 (z : Nat) (l1 : Int64) (l4 : Int32) : Nat → Int32 → (Nat → Int64) → Option (Nat → Int64)
  | 0, _, _ => none
  | fu + 1, l3, row => (if l4 ≤ l3 then some row else (if inB l3 z = true then f_J7_fill_d0a16_6 z l1 l4 fu (l3 + (1 : Int32)) (va_up row l3.toNatClampNeg l1) else none))
def f_J7_fill_d0a16 (fu : Nat) (z : Nat) (row : Nat → Int64) (v : Int64) : Option (Nat → Int64) := ((f_J7_fill_d0a16_6 z v (Int32.ofNat z) fu (0 : Int32) row).bind fun q7 => some q7)
set_option maxHeartbeats 2000000 in
set_option maxRecDepth 20000 in
theorem g_J7_fill_d0a16_6 {K : KX} {n : Nat} {σ : AH} {a : Nat} {z : Nat}  {l1 : Int64} {l4 : Int32} (C : Cx K RJ7 "fill" cJ7_fill_d0a16 none) (hKR : kR K = ({ frames := 0, cells := 0, slots := 0, locals := 0 } : Room)) (hKN : kN K = 5) : ∀ (fu : Nat) (l3 : Int32) (row : Nat → Int64) (res : (Nat → Int64)), f_J7_fill_d0a16_6 z l1 l4 fu l3 row = some res → G K 0 0 22 [] [] (wA σ a z res) n → G K 0 0 6 [(0, .ref a), (1, .long l1), (3, .int l3), (4, .int l4)] [] (wA σ a z row) n := by
  intro fu
  induction fu with
  | zero =>
    intro l3 row res hf
    exact absurd hf (by simp [f_J7_fill_d0a16_6])
  | succ fu ih =>
    intro l3 row res hf hx
    rw [f_J7_fill_d0a16_6] at hf
    refine g_iload_n C rfl (q := 2) rfl dJ7_fill_d0a16_6 rfl ?_
    refine g_iload C (q := 3) rfl dJ7_fill_d0a16_7 rfl ?_
    refine g_icmp_ge (tgt := 22) C dJ7_fill_d0a16_9 (by decide) rfl (fun c5 => ?_) (fun c5 => ?_)
    · replace hf := ift c5 hf
      obtain rfl := Option.some.inj hf
      refine g_sub (lv' := []) [] rfl ?_
      exact hx
    · replace hf := iff' c5 hf
      refine g_aload_n C rfl (q := 0) rfl dJ7_fill_d0a16_12 rfl ?_
      refine g_iload_n C rfl (q := 2) rfl dJ7_fill_d0a16_13 rfl ?_
      refine g_lload_n C rfl (q := 1) rfl dJ7_fill_d0a16_14 rfl ?_
      obtain ⟨g6, hf⟩ := gd hf
      refine g_last (h' := (wA σ a z (va_up row l3.toNatClampNeg l1))) C (wL_at0 rfl) (inB_in g6) (wL_up0 (Nat.le_of_ble_eq_true rfl) rfl) dJ7_fill_d0a16_15 rfl ?_
      refine g_iinc (v := l3 + (1 : Int32)) (lv' := [(3, .int (l3 + (1 : Int32))), (0, .ref a), (1, .long l1), (4, .int l4)]) (q := 2) C dJ7_fill_d0a16_16 rfl rfl rfl (by rw [hKN]; decide) rfl ?_
      refine g_goto (pc' := 6) C dJ7_fill_d0a16_19 (by decide) ?_
      refine g_sub (lv' := [(0, .ref a), (1, .long l1), (3, .int (l3 + (1 : Int32))), (4, .int l4)]) [1, 2, 0, 3] rfl ?_
      exact ih _ _ _ hf hx
set_option maxHeartbeats 2000000 in
set_option maxRecDepth 20000 in
theorem c_J7_fill_d0a16 {l : Launch} {E : Ex} {n : Nat} {σ : AH} {a : Nat} {z : Nat}  {row : Nat → Int64} {v : Int64} {fu : Nat} (res : (Nat → Int64)) (hf : f_J7_fill_d0a16 fu z row v = some res) : Con l E yJ7_fill_d0a16 (.code yJ7_fill_d0a16 cJ7_fill_d0a16 5 none :: TT) ({ frames := 0, cells := 0, slots := 0, locals := 0 } : Room) 0 0 [.ref a, .long v] (wA σ a z row) n none (wA σ a z res) n := by
  refine con_intro (by decide +kernel) (Nat.le_of_ble_eq_true rfl) ?_
  intro K C hKR hKL hKE hKN hKQ
  subst hKL
  subst hKE
  have C : Cx K RJ7 "fill" cJ7_fill_d0a16 none := C
  show G K 0 0 0 [(0, .ref a), (1, .long v)] [] (wA σ a z row) n
  unfold f_J7_fill_d0a16 at hf
  refine g_iconst (v := 0) C (by decide) dJ7_fill_d0a16_0 rfl ?_
  refine g_istore_n (i := 3) (lv' := [(3, .int (0 : Int32)), (0, .ref a), (1, .long v)]) C dJ7_fill_d0a16_1 rfl rfl (by rw [hKN]; decide) rfl ?_
  refine g_aload_n C rfl (q := 1) rfl dJ7_fill_d0a16_2 rfl ?_
  refine g_alen (kd := 1) (ty := .long) C rfl (wL_at0 rfl) rfl dJ7_fill_d0a16_3 rfl ?_
  refine g_istore (i := 4) (lv' := [(4, .int (Int32.ofNat z)), (3, .int (0 : Int32)), (0, .ref a), (1, .long v)]) C dJ7_fill_d0a16_4 rfl (by rw [hKN]; decide) rfl ?_
  refine g_sub (lv' := [(0, .ref a), (1, .long v), (3, .int (0 : Int32)), (4, .int (Int32.ofNat z))]) [2, 3, 1, 0] rfl ?_
  obtain ⟨q7, hq7, hf⟩ := bd hf
  refine g_J7_fill_d0a16_6 (l1 := v) (l4 := (Int32.ofNat z)) C hKR hKN _ _ _ _ hq7 ?_
  obtain rfl := Option.some.inj hf
  exact g_vret C hKQ dJ7_fill_d0a16_22
def f_J7_fill_53178_5 (z : Nat) (l1 : Int32) (l3 : Int32) : Nat → Int32 → (Nat → Int32) → Option (Nat → Int32)
  | 0, _, _ => none
  | fu + 1, l2, row => (if l3 ≤ l2 then some row else (if inB l2 z = true then f_J7_fill_53178_5 z l1 l3 fu (l2 + (1 : Int32)) (va_up row l2.toNatClampNeg l1) else none))
def f_J7_fill_53178 (fu : Nat) (z : Nat) (row : Nat → Int32) (v : Int32) : Option (Nat → Int32) := ((f_J7_fill_53178_5 z v (Int32.ofNat z) fu (0 : Int32) row).bind fun q7 => some q7)
set_option maxHeartbeats 2000000 in
set_option maxRecDepth 20000 in
theorem g_J7_fill_53178_5 {K : KX} {n : Nat} {σ : AH} {a : Nat} {z : Nat}  {l1 : Int32} {l3 : Int32} (C : Cx K RJ7 "fill" cJ7_fill_53178 none) (hKR : kR K = ({ frames := 0, cells := 0, slots := 0, locals := 0 } : Room)) (hKN : kN K = 4) : ∀ (fu : Nat) (l2 : Int32) (row : Nat → Int32) (res : (Nat → Int32)), f_J7_fill_53178_5 z l1 l3 fu l2 row = some res → G K 0 0 20 [] [] (wAI σ a z res) n → G K 0 0 5 [(0, .ref a), (1, .int l1), (2, .int l2), (3, .int l3)] [] (wAI σ a z row) n := by
  intro fu
  induction fu with
  | zero =>
    intro l2 row res hf
    exact absurd hf (by simp [f_J7_fill_53178_5])
  | succ fu ih =>
    intro l2 row res hf hx
    rw [f_J7_fill_53178_5] at hf
    refine g_iload_n C rfl (q := 2) rfl dJ7_fill_53178_5 rfl ?_
    refine g_iload_n C rfl (q := 3) rfl dJ7_fill_53178_6 rfl ?_
    refine g_icmp_ge (tgt := 20) C dJ7_fill_53178_7 (by decide) rfl (fun c5 => ?_) (fun c5 => ?_)
    · replace hf := ift c5 hf
      obtain rfl := Option.some.inj hf
      refine g_sub (lv' := []) [] rfl ?_
      exact hx
    · replace hf := iff' c5 hf
      refine g_aload_n C rfl (q := 0) rfl dJ7_fill_53178_10 rfl ?_
      refine g_iload_n C rfl (q := 2) rfl dJ7_fill_53178_11 rfl ?_
      refine g_iload_n C rfl (q := 1) rfl dJ7_fill_53178_12 rfl ?_
      obtain ⟨g6, hf⟩ := gd hf
      refine g_iast (h' := (wAI σ a z (va_up row l2.toNatClampNeg l1))) C (wL_at0 rfl) (inB_in g6) (wL_up0 (Nat.le_of_ble_eq_true rfl) rfl) dJ7_fill_53178_13 rfl ?_
      refine g_iinc (v := l2 + (1 : Int32)) (lv' := [(2, .int (l2 + (1 : Int32))), (0, .ref a), (1, .int l1), (3, .int l3)]) (q := 2) C dJ7_fill_53178_14 rfl rfl rfl (by rw [hKN]; decide) rfl ?_
      refine g_goto (pc' := 5) C dJ7_fill_53178_17 (by decide) ?_
      refine g_sub (lv' := [(0, .ref a), (1, .int l1), (2, .int (l2 + (1 : Int32))), (3, .int l3)]) [1, 2, 0, 3] rfl ?_
      exact ih _ _ _ hf hx
set_option maxHeartbeats 2000000 in
set_option maxRecDepth 20000 in
theorem c_J7_fill_53178 {l : Launch} {E : Ex} {n : Nat} {σ : AH} {a : Nat} {z : Nat}  {row : Nat → Int32} {v : Int32} {fu : Nat} (res : (Nat → Int32)) (hf : f_J7_fill_53178 fu z row v = some res) : Con l E yJ7_fill_53178 (.code yJ7_fill_53178 cJ7_fill_53178 4 none :: TT) ({ frames := 0, cells := 0, slots := 0, locals := 0 } : Room) 0 0 [.ref a, .int v] (wAI σ a z row) n none (wAI σ a z res) n := by
  refine con_intro (by decide +kernel) (Nat.le_of_ble_eq_true rfl) ?_
  intro K C hKR hKL hKE hKN hKQ
  subst hKL
  subst hKE
  have C : Cx K RJ7 "fill" cJ7_fill_53178 none := C
  show G K 0 0 0 [(0, .ref a), (1, .int v)] [] (wAI σ a z row) n
  unfold f_J7_fill_53178 at hf
  refine g_iconst (v := 0) C (by decide) dJ7_fill_53178_0 rfl ?_
  refine g_istore_n (i := 2) (lv' := [(2, .int (0 : Int32)), (0, .ref a), (1, .int v)]) C dJ7_fill_53178_1 rfl rfl (by rw [hKN]; decide) rfl ?_
  refine g_aload_n C rfl (q := 1) rfl dJ7_fill_53178_2 rfl ?_
  refine g_alen (kd := 0) (ty := .int) C rfl (wL_at0 rfl) rfl dJ7_fill_53178_3 rfl ?_
  refine g_istore_n (i := 3) (lv' := [(3, .int (Int32.ofNat z)), (2, .int (0 : Int32)), (0, .ref a), (1, .int v)]) C dJ7_fill_53178_4 rfl rfl (by rw [hKN]; decide) rfl ?_
  refine g_sub (lv' := [(0, .ref a), (1, .int v), (2, .int (0 : Int32)), (3, .int (Int32.ofNat z))]) [2, 3, 1, 0] rfl ?_
  obtain ⟨q7, hq7, hf⟩ := bd hf
  refine g_J7_fill_53178_5 (l1 := v) (l3 := (Int32.ofNat z)) C hKR hKN _ _ _ _ hq7 ?_
  obtain rfl := Option.some.inj hf
  exact g_vret C hKQ dJ7_fill_53178_20
def f_X1_hasCube (cu : Int64) (cell : Int32) : Option Int32 := (if bOk (if (((cu.toUInt64 >>> (cell.toInt64.toUInt64 &&& Int64.toUInt64 63)).toInt64) &&& (1 : Int64)) = (0 : Int64) then (0 : Int32) else (1 : Int32)) = true then some (if (((cu.toUInt64 >>> (cell.toInt64.toUInt64 &&& Int64.toUInt64 63)).toInt64) &&& (1 : Int64)) = (0 : Int64) then (0 : Int32) else (1 : Int32)) else none)
set_option maxHeartbeats 2000000 in
set_option maxRecDepth 20000 in
theorem c_X1_hasCube {l : Launch} {E : Ex} {n : Nat} {σ : AH} {a : Nat}  {ss : Nat → Int64} {ps : Nat → Int64} {hv : Nat → Int64} {oo : Nat → Int64} {cu : Int64} {mm : Int32} {sk : Int32} {pk : Int32} {kw : Int64} {sc : Int32} {pn : Int32} {cell : Int32} (res : Int32) (hf : f_X1_hasCube cu cell = some res) : Con l E yX1_hasCube (.code yX1_hasCube cX1_hasCube 2 (some .boolean) :: TT) ({ frames := 0, cells := 0, slots := 0, locals := 0 } : Room) 0 0 [.ref a, .int cell] (wPc σ a ss ps hv oo cu mm sk pk kw sc pn) n (some (.int res)) (wPc σ a ss ps hv oo cu mm sk pk kw sc pn) n := by
  refine con_intro (by decide +kernel) (Nat.le_of_ble_eq_true rfl) ?_
  intro K C hKR hKL hKE hKN hKQ
  subst hKL
  subst hKE
  have C : Cx K RX1 "hasCube" cX1_hasCube (some .boolean) := C
  show G K 0 0 0 [(0, .ref a), (1, .int cell)] [] (wPc σ a ss ps hv oo cu mm sk pk kw sc pn) n
  unfold f_X1_hasCube at hf
  refine g_aload_n C rfl (q := 0) rfl dX1_hasCube_0 rfl ?_
  refine g_get C fc_X1 4 (by decide) wf_RX1_24 (wL_at0 rfl) rfl dX1_hasCube_1 rfl ?_
  refine g_iload_n C rfl (q := 1) rfl dX1_hasCube_4 rfl ?_
  refine g_lushr C dX1_hasCube_5 rfl ?_
  refine g_lconst (v := 1) C (by decide) dX1_hasCube_6 rfl ?_
  refine g_land C dX1_hasCube_7 rfl ?_
  refine g_lconst (v := 0) C (by decide) dX1_hasCube_8 rfl ?_
  have j2 : G K 0 0 18 [(0, .ref a), (1, .int cell)] [.int (if (((cu.toUInt64 >>> (cell.toInt64.toUInt64 &&& Int64.toUInt64 63)).toInt64) &&& (1 : Int64)) = (0 : Int64) then (0 : Int32) else (1 : Int32))] (wPc σ a ss ps hv oo cu mm sk pk kw sc pn) n := by
    obtain ⟨g1, hf⟩ := gd hf
    obtain rfl := Option.some.inj hf
    exact g_zret C (bOk_n g1) hKQ dX1_hasCube_18
  refine g_lif_eq (tgt := 17) C dX1_hasCube_9 rfl dX1_hasCube_10 (by decide) rfl (fun c3 => ?_) (fun c3 => ?_)
  · refine g_iconst (v := 0) C (by decide) dX1_hasCube_17 rfl ?_
    exact g_topI (by rw [if_pos c3]) j2
  · refine g_iconst (v := 1) C (by decide) dX1_hasCube_13 rfl ?_
    refine g_goto (pc' := 18) C dX1_hasCube_14 (by decide) ?_
    exact g_topI (by rw [if_neg c3]) j2
def f_X1_cubeCount (cu : Int64) : Option Int32 := ((f_J13_bitCount_95d88 cu).bind fun q1 => some q1)
set_option maxHeartbeats 2000000 in
set_option maxRecDepth 20000 in
theorem c_X1_cubeCount {l : Launch} {E : Ex} {n : Nat} {σ : AH} {a : Nat}  {ss : Nat → Int64} {ps : Nat → Int64} {hv : Nat → Int64} {oo : Nat → Int64} {cu : Int64} {mm : Int32} {sk : Int32} {pk : Int32} {kw : Int64} {sc : Int32} {pn : Int32}  (res : Int32) (hf : f_X1_cubeCount cu = some res) : Con l E yX1_cubeCount (.code yX1_cubeCount cX1_cubeCount 1 (some .int) :: TT) ({ frames := 1, cells := 0, slots := 0, locals := 21 } : Room) 0 0 [.ref a] (wPc σ a ss ps hv oo cu mm sk pk kw sc pn) n (some (.int res)) (wPc σ a ss ps hv oo cu mm sk pk kw sc pn) n := by
  refine con_intro (by decide +kernel) (Nat.le_of_ble_eq_true rfl) ?_
  intro K C hKR hKL hKE hKN hKQ
  subst hKL
  subst hKE
  have C : Cx K RX1 "cubeCount" cX1_cubeCount (some .int) := C
  show G K 0 0 0 [(0, .ref a)] [] (wPc σ a ss ps hv oo cu mm sk pk kw sc pn) n
  unfold f_X1_cubeCount at hf
  refine g_aload_n C rfl (q := 0) rfl dX1_cubeCount_0 rfl ?_
  refine g_get C fc_X1 4 (by decide) wf_RX1_24 (wL_at0 rfl) rfl dX1_cubeCount_1 rfl ?_
  obtain ⟨q1, hq1, hf⟩ := bd hf
  refine g_callS0 (st' := []) (as := [.long cu]) (st2 := [.int q1]) (k := 1) C ⟨wm_RX1_28, ws_J13_bitCount_95d88, wi_RJ13, wk_J13_bitCount_95d88, by decide +kernel⟩ (c_J13_bitCount_95d88 (l := kL K) (E := kE K)  _ hq1) (by rw [hKR]; exact ⟨rfl, rfl, ⟨by decide, by decide⟩, Nat.le_refl _, Nat.le_refl _⟩) rfl rfl (by simp) rfl dX1_cubeCount_4 rfl ?_
  obtain rfl := Option.some.inj hf
  exact g_iret C hKQ dX1_cubeCount_7
def f_X1_forget  : Option (Int32 × Int32) := some ((0 : Int32), (0 : Int32))
set_option maxHeartbeats 2000000 in
set_option maxRecDepth 20000 in
theorem c_X1_forget {l : Launch} {E : Ex} {n : Nat} {σ : AH} {a : Nat}  {ss : Nat → Int64} {ps : Nat → Int64} {hv : Nat → Int64} {oo : Nat → Int64} {cu : Int64} {mm : Int32} {sk : Int32} {pk : Int32} {kw : Int64} {sc : Int32} {pn : Int32}  (res : (Int32 × Int32)) (hf : f_X1_forget  = some res) : Con l E yX1_forget (.code yX1_forget cX1_forget 1 none :: TT) ({ frames := 0, cells := 0, slots := 0, locals := 0 } : Room) 0 0 [.ref a] (wPc σ a ss ps hv oo cu mm sk pk kw sc pn) n none (wPc σ a ss ps hv oo cu mm res.1 res.2 kw sc pn) n := by
  refine con_intro (by decide +kernel) (Nat.le_of_ble_eq_true rfl) ?_
  intro K C hKR hKL hKE hKN hKQ
  subst hKL
  subst hKE
  have C : Cx K RX1 "forget" cX1_forget none := C
  show G K 0 0 0 [(0, .ref a)] [] (wPc σ a ss ps hv oo cu mm sk pk kw sc pn) n
  unfold f_X1_forget at hf
  refine g_aload_n C rfl (q := 0) rfl dX1_forget_0 rfl ?_
  refine g_iconst (v := 0) C (by decide) dX1_forget_1 rfl ?_
  refine g_put (h' := (wPc σ a ss ps hv oo cu mm (0 : Int32) pk kw sc pn)) C fc_X1 6 (by decide) wf_RX1_72 rfl rfl rfl (Nat.le_of_ble_eq_true rfl) (wL_at0 rfl) (wL_up0 (Nat.le_of_ble_eq_true rfl) rfl) dX1_forget_2 rfl ?_
  refine g_aload_n C rfl (q := 0) rfl dX1_forget_5 rfl ?_
  refine g_iconst (v := 0) C (by decide) dX1_forget_6 rfl ?_
  refine g_put (h' := (wPc σ a ss ps hv oo cu mm (0 : Int32) (0 : Int32) kw sc pn)) C fc_X1 7 (by decide) wf_RX1_55 rfl rfl rfl (Nat.le_of_ble_eq_true rfl) (wL_at0 rfl) (wL_up0 (Nat.le_of_ble_eq_true rfl) rfl) dX1_forget_7 rfl ?_
  obtain rfl := Option.some.inj hf
  exact g_vret C hKQ dX1_forget_10
def f_X1_flipCube (cu : Int64) (cell : Int32) : Option (Int64 × Int32 × Int32) := ((f_X1_forget ).bind fun q1 => some (cu ^^^ ((1 : Int64) <<< (cell.toInt64 &&& 63)), q1.1, q1.2))
set_option maxHeartbeats 2000000 in
set_option maxRecDepth 20000 in
theorem c_X1_flipCube {l : Launch} {E : Ex} {n : Nat} {σ : AH} {a : Nat}  {ss : Nat → Int64} {ps : Nat → Int64} {hv : Nat → Int64} {oo : Nat → Int64} {cu : Int64} {mm : Int32} {sk : Int32} {pk : Int32} {kw : Int64} {sc : Int32} {pn : Int32} {cell : Int32} (res : (Int64 × Int32 × Int32)) (hf : f_X1_flipCube cu cell = some res) : Con l E yX1_flipCube (.code yX1_flipCube cX1_flipCube 2 none :: TT) ({ frames := 1, cells := 0, slots := 0, locals := 20 } : Room) 0 0 [.ref a, .int cell] (wPc σ a ss ps hv oo cu mm sk pk kw sc pn) n none (wPc σ a ss ps hv oo res.1 mm res.2.1 res.2.2 kw sc pn) n := by
  refine con_intro (by decide +kernel) (Nat.le_of_ble_eq_true rfl) ?_
  intro K C hKR hKL hKE hKN hKQ
  subst hKL
  subst hKE
  have C : Cx K RX1 "flipCube" cX1_flipCube none := C
  show G K 0 0 0 [(0, .ref a), (1, .int cell)] [] (wPc σ a ss ps hv oo cu mm sk pk kw sc pn) n
  unfold f_X1_flipCube at hf
  refine g_aload_n C rfl (q := 0) rfl dX1_flipCube_0 rfl ?_
  refine g_dup C rfl dX1_flipCube_1 rfl ?_
  refine g_get C fc_X1 4 (by decide) wf_RX1_24 (wL_at0 rfl) rfl dX1_flipCube_2 rfl ?_
  refine g_lconst (v := 1) C (by decide) dX1_flipCube_5 rfl ?_
  refine g_iload_n C rfl (q := 1) rfl dX1_flipCube_6 rfl ?_
  refine g_lshl C dX1_flipCube_7 rfl ?_
  refine g_lxor C dX1_flipCube_8 rfl ?_
  refine g_put (h' := (wPc σ a ss ps hv oo (cu ^^^ ((1 : Int64) <<< (cell.toInt64 &&& 63))) mm sk pk kw sc pn)) C fc_X1 4 (by decide) wf_RX1_24 rfl rfl rfl (Nat.le_of_ble_eq_true rfl) (wL_at0 rfl) (wL_up0 (Nat.le_of_ble_eq_true rfl) rfl) dX1_flipCube_9 rfl ?_
  refine g_aload_n C rfl (q := 0) rfl dX1_flipCube_12 rfl ?_
  obtain ⟨q1, hq1, hf⟩ := bd hf
  refine g_callV0 (st' := []) (as := []) (st2 := []) (k := 0) C ⟨wm_RX1_34, wn_X1_forget, wv_X1_forget, wi_RX1, wk_X1_forget, by decide +kernel⟩ rfl (wL_at0 rfl) (c_X1_forget (l := kL K) (E := kE K)  _ hq1) (by rw [hKR]; exact ⟨rfl, rfl, ⟨by decide, by decide⟩, Nat.le_refl _, Nat.le_refl _⟩) rfl rfl (by simp) rfl dX1_flipCube_13 rfl ?_
  obtain rfl := Option.some.inj hf
  exact g_vret C hKQ dX1_flipCube_16
def f_X1_allowMirror (may : Int32) : Option (Int32 × Int32 × Int32) := (if bOk may = true then ((f_X1_forget ).bind fun q1 => some (may, q1.1, q1.2)) else none)
set_option maxHeartbeats 2000000 in
set_option maxRecDepth 20000 in
theorem c_X1_allowMirror {l : Launch} {E : Ex} {n : Nat} {σ : AH} {a : Nat}  {ss : Nat → Int64} {ps : Nat → Int64} {hv : Nat → Int64} {oo : Nat → Int64} {cu : Int64} {mm : Int32} {sk : Int32} {pk : Int32} {kw : Int64} {sc : Int32} {pn : Int32} {may : Int32} (res : (Int32 × Int32 × Int32)) (hf : f_X1_allowMirror may = some res) : Con l E yX1_allowMirror (.code yX1_allowMirror cX1_allowMirror 2 none :: TT) ({ frames := 1, cells := 0, slots := 0, locals := 20 } : Room) 0 0 [.ref a, .int may] (wPc σ a ss ps hv oo cu mm sk pk kw sc pn) n none (wPc σ a ss ps hv oo cu res.1 res.2.1 res.2.2 kw sc pn) n := by
  refine con_intro (by decide +kernel) (Nat.le_of_ble_eq_true rfl) ?_
  intro K C hKR hKL hKE hKN hKQ
  subst hKL
  subst hKE
  have C : Cx K RX1 "allowMirror" cX1_allowMirror none := C
  show G K 0 0 0 [(0, .ref a), (1, .int may)] [] (wPc σ a ss ps hv oo cu mm sk pk kw sc pn) n
  unfold f_X1_allowMirror at hf
  refine g_aload_n C rfl (q := 0) rfl dX1_allowMirror_0 rfl ?_
  refine g_iload_n C rfl (q := 1) rfl dX1_allowMirror_1 rfl ?_
  obtain ⟨g2, hf⟩ := gd hf
  refine g_put (h' := (wPc σ a ss ps hv oo cu may sk pk kw sc pn)) C fc_X1 5 (by decide) wf_RX1_37 rfl (bOk_n g2) (bOk_f g2) (Nat.le_of_ble_eq_true rfl) (wL_at0 rfl) (wL_up0 (Nat.le_of_ble_eq_true rfl) rfl) dX1_allowMirror_2 rfl ?_
  refine g_aload_n C rfl (q := 0) rfl dX1_allowMirror_5 rfl ?_
  obtain ⟨q1, hq1, hf⟩ := bd hf
  refine g_callV0 (st' := []) (as := []) (st2 := []) (k := 0) C ⟨wm_RX1_34, wn_X1_forget, wv_X1_forget, wi_RX1, wk_X1_forget, by decide +kernel⟩ rfl (wL_at0 rfl) (c_X1_forget (l := kL K) (E := kE K)  _ hq1) (by rw [hKR]; exact ⟨rfl, rfl, ⟨by decide, by decide⟩, Nat.le_refl _, Nat.le_refl _⟩) rfl rfl (by simp) rfl dX1_allowMirror_6 rfl ?_
  obtain rfl := Option.some.inj hf
  exact g_vret C hKQ dX1_allowMirror_9
def f_X1_addShape_2  (l1 : Int64) (ss : Nat → Int64) (sc : Int32) : Nat → Int32 → Option Int32
  | 0, _ => none
  | fu + 1, l3 => (if sc ≤ l3 then some l3 else (if inB l3 48 = true then ((f_X0_isBelow (ss l3.toNatClampNeg) l1).bind fun q11 => (if q11 = 0 then some l3 else f_X1_addShape_2 l1 ss sc fu (l3 + (1 : Int32)))) else none))
def f_X1_addShape_64  (l3 : Int32) : Nat → Int32 → (Nat → Int64) → Option (Nat → Int64)
  | 0, _, _ => none
  | fu + 1, l4, ss => (if l4 ≤ l3 then some ss else (if inB (l4 - (1 : Int32)) 48 = true then (if inB l4 48 = true then f_X1_addShape_64 l3 fu (l4 + (-1 : Int32)) (va_up ss l4.toNatClampNeg (ss (l4 - (1 : Int32)).toNatClampNeg)) else none) else none))
def f_X1_addShape (fu : Nat) (ss : Nat → Int64) (sc : Int32) (set : Int64) : Option ((Nat → Int64) × Int32) := ((f_X1_addShape_2 set ss sc fu (0 : Int32)).bind fun q13 => (if sc ≤ q13 then (if sc < (48 : Int32) then ((f_X1_addShape_64 q13 fu sc ss).bind fun q25 => (if inB q13 48 = true then some (va_up q25 q13.toNatClampNeg set, sc + (1 : Int32)) else none)) else some (ss, sc)) else (if inB q13 48 = true then (if (ss q13.toNatClampNeg) = set then some (ss, sc) else (if sc < (48 : Int32) then ((f_X1_addShape_64 q13 fu sc ss).bind fun q30 => (if inB q13 48 = true then some (va_up q30 q13.toNatClampNeg set, sc + (1 : Int32)) else none)) else some (ss, sc))) else none)))
set_option maxHeartbeats 2000000 in
set_option maxRecDepth 20000 in
theorem g_X1_addShape_2 {K : KX} {n : Nat} {σ : AH} {a : Nat}  {l1 : Int64} {ss : Nat → Int64} {ps : Nat → Int64} {hv : Nat → Int64} {oo : Nat → Int64} {cu : Int64} {mm : Int32} {sk : Int32} {pk : Int32} {kw : Int64} {sc : Int32} {pn : Int32} (C : Cx K RX1 "addShape" cX1_addShape none) (hKR : kR K = ({ frames := 1, cells := 0, slots := 0, locals := 23 } : Room)) (hKN : kN K = 5) : ∀ (fu : Nat) (l3 : Int32) (res : Int32), f_X1_addShape_2 l1 ss sc fu l3 = some res → G K 0 0 29 [(0, .ref a), (1, .long l1), (3, .int res)] [] (wPc σ a ss ps hv oo cu mm sk pk kw sc pn) n → G K 0 0 2 [(0, .ref a), (1, .long l1), (3, .int l3)] [] (wPc σ a ss ps hv oo cu mm sk pk kw sc pn) n := by
  intro fu
  induction fu with
  | zero =>
    intro l3 res hf
    exact absurd hf (by simp [f_X1_addShape_2])
  | succ fu ih =>
    intro l3 res hf hx
    rw [f_X1_addShape_2] at hf
    refine g_iload_n C rfl (q := 2) rfl dX1_addShape_2 rfl ?_
    refine g_aload_n C rfl (q := 0) rfl dX1_addShape_3 rfl ?_
    refine g_get C fc_X1 9 (by decide) wf_RX1_44 (wL_at0 rfl) rfl dX1_addShape_4 rfl ?_
    refine g_icmp_ge (tgt := 29) C dX1_addShape_7 (by decide) rfl (fun c9 => ?_) (fun c9 => ?_)
    · replace hf := ift c9 hf
      obtain rfl := Option.some.inj hf
      exact hx
    · replace hf := iff' c9 hf
      refine g_aload_n C rfl (q := 0) rfl dX1_addShape_10 rfl ?_
      refine g_get C fc_X1 0 (by decide) wf_RX1_11 (wL_at0 rfl) rfl dX1_addShape_11 rfl ?_
      refine g_iload_n C rfl (q := 2) rfl dX1_addShape_14 rfl ?_
      obtain ⟨g10, hf⟩ := gd hf
      refine g_lald C (wL_at 1 rfl) (inB_in g10) dX1_addShape_15 rfl ?_
      refine g_lload_n C rfl (q := 1) rfl dX1_addShape_16 rfl ?_
      obtain ⟨q11, hq11, hf⟩ := bd hf
      refine g_callS0 (st' := []) (as := [.long (ss l3.toNatClampNeg), .long l1]) (st2 := [.int q11]) (k := 2) C ⟨wm_RX1_97, ws_X0_isBelow, wi_RX0, wk_X0_isBelow, by decide +kernel⟩ (c_X0_isBelow (l := kL K) (E := kE K)  _ hq11) (by rw [hKR]; exact ⟨rfl, rfl, ⟨by decide, by decide⟩, Nat.le_refl _, Nat.le_refl _⟩) rfl rfl (by simp) rfl dX1_addShape_17 rfl ?_
      refine g_if_eq (tgt := 29) C dX1_addShape_20 (by decide) rfl (fun c12 => ?_) (fun c12 => ?_)
      · replace hf := ift c12 hf
        obtain rfl := Option.some.inj hf
        exact hx
      · replace hf := iff' c12 hf
        refine g_iinc (v := l3 + (1 : Int32)) (lv' := [(3, .int (l3 + (1 : Int32))), (0, .ref a), (1, .long l1)]) (q := 2) C dX1_addShape_23 rfl rfl rfl (by rw [hKN]; decide) rfl ?_
        refine g_goto (pc' := 2) C dX1_addShape_26 (by decide) ?_
        refine g_sub (lv' := [(0, .ref a), (1, .long l1), (3, .int (l3 + (1 : Int32)))]) [1, 2, 0] rfl ?_
        exact ih _ _ hf hx
set_option maxHeartbeats 2000000 in
set_option maxRecDepth 20000 in
theorem g_X1_addShape_64 {K : KX} {n : Nat} {σ : AH} {a : Nat}  {l1 : Int64} {l3 : Int32} {ps : Nat → Int64} {hv : Nat → Int64} {oo : Nat → Int64} {cu : Int64} {mm : Int32} {sk : Int32} {pk : Int32} {kw : Int64} {sc : Int32} {pn : Int32} (C : Cx K RX1 "addShape" cX1_addShape none) (hKR : kR K = ({ frames := 1, cells := 0, slots := 0, locals := 23 } : Room)) (hKN : kN K = 5) : ∀ (fu : Nat) (l4 : Int32) (ss : Nat → Int64) (res : (Nat → Int64)), f_X1_addShape_64 l3 fu l4 ss = some res → G K 0 0 92 [(0, .ref a), (1, .long l1), (3, .int l3)] [] (wPc σ a res ps hv oo cu mm sk pk kw sc pn) n → G K 0 0 64 [(0, .ref a), (1, .long l1), (3, .int l3), (4, .int l4)] [] (wPc σ a ss ps hv oo cu mm sk pk kw sc pn) n := by
  intro fu
  induction fu with
  | zero =>
    intro l4 ss res hf
    exact absurd hf (by simp [f_X1_addShape_64])
  | succ fu ih =>
    intro l4 ss res hf hx
    rw [f_X1_addShape_64] at hf
    refine g_iload C (q := 3) rfl dX1_addShape_64 rfl ?_
    refine g_iload_n C rfl (q := 2) rfl dX1_addShape_66 rfl ?_
    refine g_icmp_le (tgt := 92) C dX1_addShape_67 (by decide) rfl (fun c22 => ?_) (fun c22 => ?_)
    · replace hf := ift c22 hf
      obtain rfl := Option.some.inj hf
      refine g_sub (lv' := [(0, .ref a), (1, .long l1), (3, .int l3)]) [0, 1, 2] rfl ?_
      exact hx
    · replace hf := iff' c22 hf
      refine g_aload_n C rfl (q := 0) rfl dX1_addShape_70 rfl ?_
      refine g_get C fc_X1 0 (by decide) wf_RX1_11 (wL_at0 rfl) rfl dX1_addShape_71 rfl ?_
      refine g_iload C (q := 3) rfl dX1_addShape_74 rfl ?_
      refine g_aload_n C rfl (q := 0) rfl dX1_addShape_76 rfl ?_
      refine g_get C fc_X1 0 (by decide) wf_RX1_11 (wL_at0 rfl) rfl dX1_addShape_77 rfl ?_
      refine g_iload C (q := 3) rfl dX1_addShape_80 rfl ?_
      refine g_iconst (v := 1) C (by decide) dX1_addShape_82 rfl ?_
      refine g_isub C dX1_addShape_83 rfl ?_
      obtain ⟨g23, hf⟩ := gd hf
      refine g_lald C (wL_at 1 rfl) (inB_in g23) dX1_addShape_84 rfl ?_
      obtain ⟨g24, hf⟩ := gd hf
      refine g_last (h' := (wPc σ a (va_up ss l4.toNatClampNeg (ss (l4 - (1 : Int32)).toNatClampNeg)) ps hv oo cu mm sk pk kw sc pn)) C (wL_at 1 rfl) (inB_in g24) (wL_up 1 (Nat.le_of_ble_eq_true rfl) rfl) dX1_addShape_85 rfl ?_
      refine g_iinc (v := l4 + (-1 : Int32)) (lv' := [(4, .int (l4 + (-1 : Int32))), (0, .ref a), (1, .long l1), (3, .int l3)]) (q := 3) C dX1_addShape_86 rfl rfl rfl (by rw [hKN]; decide) rfl ?_
      refine g_goto (pc' := 64) C dX1_addShape_89 (by decide) ?_
      refine g_sub (lv' := [(0, .ref a), (1, .long l1), (3, .int l3), (4, .int (l4 + (-1 : Int32)))]) [1, 2, 3, 0] rfl ?_
      exact ih _ _ _ hf hx
set_option maxHeartbeats 2000000 in
set_option maxRecDepth 20000 in
theorem c_X1_addShape {l : Launch} {E : Ex} {n : Nat} {σ : AH} {a : Nat}  {ss : Nat → Int64} {ps : Nat → Int64} {hv : Nat → Int64} {oo : Nat → Int64} {cu : Int64} {mm : Int32} {sk : Int32} {pk : Int32} {kw : Int64} {sc : Int32} {pn : Int32} {set : Int64} {fu : Nat} (res : ((Nat → Int64) × Int32)) (hf : f_X1_addShape fu ss sc set = some res) : Con l E yX1_addShape (.code yX1_addShape cX1_addShape 5 none :: TT) ({ frames := 1, cells := 0, slots := 0, locals := 23 } : Room) 0 0 [.ref a, .long set] (wPc σ a ss ps hv oo cu mm sk pk kw sc pn) n none (wPc σ a res.1 ps hv oo cu mm sk pk kw res.2 pn) n := by
  refine con_intro (by decide +kernel) (Nat.le_of_ble_eq_true rfl) ?_
  intro K C hKR hKL hKE hKN hKQ
  subst hKL
  subst hKE
  have C : Cx K RX1 "addShape" cX1_addShape none := C
  show G K 0 0 0 [(0, .ref a), (1, .long set)] [] (wPc σ a ss ps hv oo cu mm sk pk kw sc pn) n
  unfold f_X1_addShape at hf
  refine g_iconst (v := 0) C (by decide) dX1_addShape_0 rfl ?_
  refine g_istore_n (i := 3) (lv' := [(3, .int (0 : Int32)), (0, .ref a), (1, .long set)]) C dX1_addShape_1 rfl rfl (by rw [hKN]; decide) rfl ?_
  refine g_sub (lv' := [(0, .ref a), (1, .long set), (3, .int (0 : Int32))]) [1, 2, 0] rfl ?_
  obtain ⟨q13, hq13, hf⟩ := bd hf
  refine g_X1_addShape_2 (l1 := set) (ss := ss) (ps := ps) (hv := hv) (oo := oo) (cu := cu) (mm := mm) (sk := sk) (pk := pk) (kw := kw) (sc := sc) (pn := pn) C hKR hKN _ _ _ hq13 ?_
  refine g_iload_n C rfl (q := 2) rfl dX1_addShape_29 rfl ?_
  refine g_aload_n C rfl (q := 0) rfl dX1_addShape_30 rfl ?_
  refine g_get C fc_X1 9 (by decide) wf_RX1_44 (wL_at0 rfl) rfl dX1_addShape_31 rfl ?_
  refine g_icmp_ge (tgt := 48) C dX1_addShape_34 (by decide) rfl (fun c14 => ?_) (fun c14 => ?_)
  · replace hf := ift c14 hf
    refine g_aload_n C rfl (q := 0) rfl dX1_addShape_48 rfl ?_
    refine g_get C fc_X1 9 (by decide) wf_RX1_44 (wL_at0 rfl) rfl dX1_addShape_49 rfl ?_
    refine g_bipush (v := 48) C (by decide) dX1_addShape_52 rfl ?_
    refine g_icmp_lt (tgt := 58) C dX1_addShape_54 (by decide) rfl (fun c15 => ?_) (fun c15 => ?_)
    · replace hf := ift c15 hf
      refine g_aload_n C rfl (q := 0) rfl dX1_addShape_58 rfl ?_
      refine g_get C fc_X1 9 (by decide) wf_RX1_44 (wL_at0 rfl) rfl dX1_addShape_59 rfl ?_
      refine g_istore (i := 4) (lv' := [(4, .int sc), (0, .ref a), (1, .long set), (3, .int q13)]) C dX1_addShape_62 rfl (by rw [hKN]; decide) rfl ?_
      refine g_sub (lv' := [(0, .ref a), (1, .long set), (3, .int q13), (4, .int sc)]) [1, 2, 3, 0] rfl ?_
      obtain ⟨q25, hq25, hf⟩ := bd hf
      refine g_X1_addShape_64 (l1 := set) (l3 := q13) (ps := ps) (hv := hv) (oo := oo) (cu := cu) (mm := mm) (sk := sk) (pk := pk) (kw := kw) (sc := sc) (pn := pn) C hKR hKN _ _ _ _ hq25 ?_
      refine g_aload_n C rfl (q := 0) rfl dX1_addShape_92 rfl ?_
      refine g_get C fc_X1 0 (by decide) wf_RX1_11 (wL_at0 rfl) rfl dX1_addShape_93 rfl ?_
      refine g_iload_n C rfl (q := 2) rfl dX1_addShape_96 rfl ?_
      refine g_lload_n C rfl (q := 1) rfl dX1_addShape_97 rfl ?_
      obtain ⟨g26, hf⟩ := gd hf
      refine g_last (h' := (wPc σ a (va_up q25 q13.toNatClampNeg set) ps hv oo cu mm sk pk kw sc pn)) C (wL_at 1 rfl) (inB_in g26) (wL_up 1 (Nat.le_of_ble_eq_true rfl) rfl) dX1_addShape_98 rfl ?_
      refine g_aload_n C rfl (q := 0) rfl dX1_addShape_99 rfl ?_
      refine g_dup C rfl dX1_addShape_100 rfl ?_
      refine g_get C fc_X1 9 (by decide) wf_RX1_44 (wL_at0 rfl) rfl dX1_addShape_101 rfl ?_
      refine g_iconst (v := 1) C (by decide) dX1_addShape_104 rfl ?_
      refine g_iadd C dX1_addShape_105 rfl ?_
      refine g_put (h' := (wPc σ a (va_up q25 q13.toNatClampNeg set) ps hv oo cu mm sk pk kw (sc + (1 : Int32)) pn)) C fc_X1 9 (by decide) wf_RX1_44 rfl rfl rfl (Nat.le_of_ble_eq_true rfl) (wL_at0 rfl) (wL_up0 (Nat.le_of_ble_eq_true rfl) rfl) dX1_addShape_106 rfl ?_
      obtain rfl := Option.some.inj hf
      exact g_vret C hKQ dX1_addShape_109
    · replace hf := iff' c15 hf
      obtain rfl := Option.some.inj hf
      exact g_vret C hKQ dX1_addShape_57
  · replace hf := iff' c14 hf
    refine g_aload_n C rfl (q := 0) rfl dX1_addShape_37 rfl ?_
    refine g_get C fc_X1 0 (by decide) wf_RX1_11 (wL_at0 rfl) rfl dX1_addShape_38 rfl ?_
    refine g_iload_n C rfl (q := 2) rfl dX1_addShape_41 rfl ?_
    obtain ⟨g27, hf⟩ := gd hf
    refine g_lald C (wL_at 1 rfl) (inB_in g27) dX1_addShape_42 rfl ?_
    refine g_lload_n C rfl (q := 1) rfl dX1_addShape_43 rfl ?_
    refine g_lif_eq (tgt := 57) C dX1_addShape_44 rfl dX1_addShape_45 (by decide) rfl (fun c28 => ?_) (fun c28 => ?_)
    · replace hf := ift c28 hf
      obtain rfl := Option.some.inj hf
      exact g_vret C hKQ dX1_addShape_57
    · replace hf := iff' c28 hf
      refine g_aload_n C rfl (q := 0) rfl dX1_addShape_48 rfl ?_
      refine g_get C fc_X1 9 (by decide) wf_RX1_44 (wL_at0 rfl) rfl dX1_addShape_49 rfl ?_
      refine g_bipush (v := 48) C (by decide) dX1_addShape_52 rfl ?_
      refine g_icmp_lt (tgt := 58) C dX1_addShape_54 (by decide) rfl (fun c29 => ?_) (fun c29 => ?_)
      · replace hf := ift c29 hf
        refine g_aload_n C rfl (q := 0) rfl dX1_addShape_58 rfl ?_
        refine g_get C fc_X1 9 (by decide) wf_RX1_44 (wL_at0 rfl) rfl dX1_addShape_59 rfl ?_
        refine g_istore (i := 4) (lv' := [(4, .int sc), (0, .ref a), (1, .long set), (3, .int q13)]) C dX1_addShape_62 rfl (by rw [hKN]; decide) rfl ?_
        refine g_sub (lv' := [(0, .ref a), (1, .long set), (3, .int q13), (4, .int sc)]) [1, 2, 3, 0] rfl ?_
        obtain ⟨q30, hq30, hf⟩ := bd hf
        refine g_X1_addShape_64 (l1 := set) (l3 := q13) (ps := ps) (hv := hv) (oo := oo) (cu := cu) (mm := mm) (sk := sk) (pk := pk) (kw := kw) (sc := sc) (pn := pn) C hKR hKN _ _ _ _ hq30 ?_
        refine g_aload_n C rfl (q := 0) rfl dX1_addShape_92 rfl ?_
        refine g_get C fc_X1 0 (by decide) wf_RX1_11 (wL_at0 rfl) rfl dX1_addShape_93 rfl ?_
        refine g_iload_n C rfl (q := 2) rfl dX1_addShape_96 rfl ?_
        refine g_lload_n C rfl (q := 1) rfl dX1_addShape_97 rfl ?_
        obtain ⟨g31, hf⟩ := gd hf
        refine g_last (h' := (wPc σ a (va_up q30 q13.toNatClampNeg set) ps hv oo cu mm sk pk kw sc pn)) C (wL_at 1 rfl) (inB_in g31) (wL_up 1 (Nat.le_of_ble_eq_true rfl) rfl) dX1_addShape_98 rfl ?_
        refine g_aload_n C rfl (q := 0) rfl dX1_addShape_99 rfl ?_
        refine g_dup C rfl dX1_addShape_100 rfl ?_
        refine g_get C fc_X1 9 (by decide) wf_RX1_44 (wL_at0 rfl) rfl dX1_addShape_101 rfl ?_
        refine g_iconst (v := 1) C (by decide) dX1_addShape_104 rfl ?_
        refine g_iadd C dX1_addShape_105 rfl ?_
        refine g_put (h' := (wPc σ a (va_up q30 q13.toNatClampNeg set) ps hv oo cu mm sk pk kw (sc + (1 : Int32)) pn)) C fc_X1 9 (by decide) wf_RX1_44 rfl rfl rfl (Nat.le_of_ble_eq_true rfl) (wL_at0 rfl) (wL_up0 (Nat.le_of_ble_eq_true rfl) rfl) dX1_addShape_106 rfl ?_
        obtain rfl := Option.some.inj hf
        exact g_vret C hKQ dX1_addShape_109
      · replace hf := iff' c29 hf
        obtain rfl := Option.some.inj hf
        exact g_vret C hKQ dX1_addShape_57
def f_X1_learnShapes_25  (cu : Int64) (mm : Int32) : Nat → Int32 → (Nat → Int64) → Int32 → Option ((Nat → Int64) × Int32)
  | 0, _, _, _ => none
  | fu + 1, l1, ss, sc => (if (48 : Int32) ≤ l1 then some (ss, sc) else (if mm = 0 then ((f_X0_mirrors l1).bind fun q29 => (if q29 = 0 then ((f_X0_turned fu cu l1).bind fun q31 => ((f_X0_settled fu q31).bind fun q32 => ((f_X1_addShape fu ss sc q32).bind fun q33 => f_X1_learnShapes_25 cu mm fu (l1 + (1 : Int32)) q33.1 q33.2))) else f_X1_learnShapes_25 cu mm fu (l1 + (1 : Int32)) ss sc)) else ((f_X0_turned fu cu l1).bind fun q26 => ((f_X0_settled fu q26).bind fun q27 => ((f_X1_addShape fu ss sc q27).bind fun q28 => f_X1_learnShapes_25 cu mm fu (l1 + (1 : Int32)) q28.1 q28.2)))))
def f_X1_learnShapes (fu : Nat) (ss : Nat → Int64) (cu : Int64) (mm : Int32) (sk : Int32) (sc : Int32) : Option ((Nat → Int64) × Int32 × Int32) := (if sk = 0 then ((f_X0_hangsTogether fu cu).bind fun q2 => (if q2 = 0 then some (ss, (1 : Int32), (0 : Int32)) else ((f_X1_learnShapes_25 cu mm fu (0 : Int32) ss (0 : Int32)).bind fun q34 => some (q34.1, (1 : Int32), q34.2)))) else some (ss, sk, sc))
set_option maxHeartbeats 2000000 in
set_option maxRecDepth 20000 in
theorem g_X1_learnShapes_25 {K : KX} {n : Nat} {σ : AH} {a : Nat}  {ps : Nat → Int64} {hv : Nat → Int64} {oo : Nat → Int64} {cu : Int64} {mm : Int32} {sk : Int32} {pk : Int32} {kw : Int64} {pn : Int32} (C : Cx K RX1 "learnShapes" cX1_learnShapes none) (hKR : kR K = ({ frames := 3, cells := 0, slots := 0, locals := 75 } : Room)) (hKN : kN K = 2) : ∀ (fu : Nat) (l1 : Int32) (ss : Nat → Int64) (sc : Int32) (res : ((Nat → Int64) × Int32)), f_X1_learnShapes_25 cu mm fu l1 ss sc = some res → G K 0 0 66 [(0, .ref a)] [] (wPc σ a res.1 ps hv oo cu mm sk pk kw res.2 pn) n → G K 0 0 25 [(0, .ref a), (1, .int l1)] [] (wPc σ a ss ps hv oo cu mm sk pk kw sc pn) n := by
  intro fu
  induction fu with
  | zero =>
    intro l1 ss sc res hf
    exact absurd hf (by simp [f_X1_learnShapes_25])
  | succ fu ih =>
    intro l1 ss sc res hf hx
    rw [f_X1_learnShapes_25] at hf
    refine g_iload_n C rfl (q := 1) rfl dX1_learnShapes_25 rfl ?_
    refine g_bipush (v := 48) C (by decide) dX1_learnShapes_26 rfl ?_
    refine g_icmp_ge (tgt := 66) C dX1_learnShapes_28 (by decide) rfl (fun c24 => ?_) (fun c24 => ?_)
    · replace hf := ift c24 hf
      obtain rfl := Option.some.inj hf
      refine g_sub (lv' := [(0, .ref a)]) [0] rfl ?_
      exact hx
    · replace hf := iff' c24 hf
      refine g_aload_n C rfl (q := 0) rfl dX1_learnShapes_31 rfl ?_
      refine g_get C fc_X1 5 (by decide) wf_RX1_37 (wL_at0 rfl) rfl dX1_learnShapes_32 rfl ?_
      refine g_if_ne (tgt := 45) C dX1_learnShapes_35 (by decide) rfl (fun c25 => ?_) (fun c25 => ?_)
      · replace hf := iff' c25 hf
        refine g_aload_n C rfl (q := 0) rfl dX1_learnShapes_45 rfl ?_
        refine g_aload_n C rfl (q := 0) rfl dX1_learnShapes_46 rfl ?_
        refine g_get C fc_X1 4 (by decide) wf_RX1_24 (wL_at0 rfl) rfl dX1_learnShapes_47 rfl ?_
        refine g_iload_n C rfl (q := 1) rfl dX1_learnShapes_50 rfl ?_
        obtain ⟨q26, hq26, hf⟩ := bd hf
        refine g_callS0 (st' := [.ref a]) (as := [.long cu, .int l1]) (st2 := [.long q26, .ref a]) (k := 2) C ⟨wm_RX1_85, ws_X0_turned, wi_RX0, wk_X0_turned, by decide +kernel⟩ (c_X0_turned (l := kL K) (E := kE K)  _ hq26) (by rw [hKR]; exact ⟨rfl, rfl, ⟨by decide, by decide⟩, Nat.le_refl _, Nat.le_refl _⟩) rfl rfl (by simp [Value.category]) rfl dX1_learnShapes_51 rfl ?_
        obtain ⟨q27, hq27, hf⟩ := bd hf
        refine g_callS0 (st' := [.ref a]) (as := [.long q26]) (st2 := [.long q27, .ref a]) (k := 1) C ⟨wm_RX1_89, ws_X0_settled, wi_RX0, wk_X0_settled, by decide +kernel⟩ (c_X0_settled (l := kL K) (E := kE K)  _ hq27) (by rw [hKR]; exact ⟨rfl, rfl, ⟨by decide, by decide⟩, Nat.le_refl _, Nat.le_refl _⟩) rfl rfl (by simp [Value.category]) rfl dX1_learnShapes_54 rfl ?_
        obtain ⟨q28, hq28, hf⟩ := bd hf
        refine g_callV0 (st' := []) (as := [.long q27]) (st2 := []) (k := 1) C ⟨wm_RX1_93, wn_X1_addShape, wv_X1_addShape, wi_RX1, wk_X1_addShape, by decide +kernel⟩ rfl (wL_at0 rfl) (c_X1_addShape (l := kL K) (E := kE K)  _ hq28) (by rw [hKR]; exact ⟨rfl, rfl, ⟨by decide, by decide⟩, Nat.le_refl _, Nat.le_refl _⟩) rfl rfl (by simp) rfl dX1_learnShapes_57 rfl ?_
        refine g_iinc (v := l1 + (1 : Int32)) (lv' := [(1, .int (l1 + (1 : Int32))), (0, .ref a)]) (q := 1) C dX1_learnShapes_60 rfl rfl rfl (by rw [hKN]; decide) rfl ?_
        refine g_goto (pc' := 25) C dX1_learnShapes_63 (by decide) ?_
        refine g_sub (lv' := [(0, .ref a), (1, .int (l1 + (1 : Int32)))]) [1, 0] rfl ?_
        exact ih _ _ _ _ hf hx
      · replace hf := ift c25 hf
        refine g_iload_n C rfl (q := 1) rfl dX1_learnShapes_38 rfl ?_
        obtain ⟨q29, hq29, hf⟩ := bd hf
        refine g_callS0 (st' := []) (as := [.int l1]) (st2 := [.int q29]) (k := 1) C ⟨wm_RX1_81, ws_X0_mirrors, wi_RX0, wk_X0_mirrors, by decide +kernel⟩ (c_X0_mirrors (l := kL K) (E := kE K)  _ hq29) (by rw [hKR]; exact ⟨rfl, rfl, ⟨by decide, by decide⟩, Nat.le_refl _, Nat.le_refl _⟩) rfl rfl (by simp) rfl dX1_learnShapes_39 rfl ?_
        refine g_if_ne (tgt := 60) C dX1_learnShapes_42 (by decide) rfl (fun c30 => ?_) (fun c30 => ?_)
        · replace hf := iff' c30 hf
          refine g_iinc (v := l1 + (1 : Int32)) (lv' := [(1, .int (l1 + (1 : Int32))), (0, .ref a)]) (q := 1) C dX1_learnShapes_60 rfl rfl rfl (by rw [hKN]; decide) rfl ?_
          refine g_goto (pc' := 25) C dX1_learnShapes_63 (by decide) ?_
          refine g_sub (lv' := [(0, .ref a), (1, .int (l1 + (1 : Int32)))]) [1, 0] rfl ?_
          exact ih _ _ _ _ hf hx
        · replace hf := ift c30 hf
          refine g_aload_n C rfl (q := 0) rfl dX1_learnShapes_45 rfl ?_
          refine g_aload_n C rfl (q := 0) rfl dX1_learnShapes_46 rfl ?_
          refine g_get C fc_X1 4 (by decide) wf_RX1_24 (wL_at0 rfl) rfl dX1_learnShapes_47 rfl ?_
          refine g_iload_n C rfl (q := 1) rfl dX1_learnShapes_50 rfl ?_
          obtain ⟨q31, hq31, hf⟩ := bd hf
          refine g_callS0 (st' := [.ref a]) (as := [.long cu, .int l1]) (st2 := [.long q31, .ref a]) (k := 2) C ⟨wm_RX1_85, ws_X0_turned, wi_RX0, wk_X0_turned, by decide +kernel⟩ (c_X0_turned (l := kL K) (E := kE K)  _ hq31) (by rw [hKR]; exact ⟨rfl, rfl, ⟨by decide, by decide⟩, Nat.le_refl _, Nat.le_refl _⟩) rfl rfl (by simp [Value.category]) rfl dX1_learnShapes_51 rfl ?_
          obtain ⟨q32, hq32, hf⟩ := bd hf
          refine g_callS0 (st' := [.ref a]) (as := [.long q31]) (st2 := [.long q32, .ref a]) (k := 1) C ⟨wm_RX1_89, ws_X0_settled, wi_RX0, wk_X0_settled, by decide +kernel⟩ (c_X0_settled (l := kL K) (E := kE K)  _ hq32) (by rw [hKR]; exact ⟨rfl, rfl, ⟨by decide, by decide⟩, Nat.le_refl _, Nat.le_refl _⟩) rfl rfl (by simp [Value.category]) rfl dX1_learnShapes_54 rfl ?_
          obtain ⟨q33, hq33, hf⟩ := bd hf
          refine g_callV0 (st' := []) (as := [.long q32]) (st2 := []) (k := 1) C ⟨wm_RX1_93, wn_X1_addShape, wv_X1_addShape, wi_RX1, wk_X1_addShape, by decide +kernel⟩ rfl (wL_at0 rfl) (c_X1_addShape (l := kL K) (E := kE K)  _ hq33) (by rw [hKR]; exact ⟨rfl, rfl, ⟨by decide, by decide⟩, Nat.le_refl _, Nat.le_refl _⟩) rfl rfl (by simp) rfl dX1_learnShapes_57 rfl ?_
          refine g_iinc (v := l1 + (1 : Int32)) (lv' := [(1, .int (l1 + (1 : Int32))), (0, .ref a)]) (q := 1) C dX1_learnShapes_60 rfl rfl rfl (by rw [hKN]; decide) rfl ?_
          refine g_goto (pc' := 25) C dX1_learnShapes_63 (by decide) ?_
          refine g_sub (lv' := [(0, .ref a), (1, .int (l1 + (1 : Int32)))]) [1, 0] rfl ?_
          exact ih _ _ _ _ hf hx
set_option maxHeartbeats 2000000 in
set_option maxRecDepth 20000 in
theorem c_X1_learnShapes {l : Launch} {E : Ex} {n : Nat} {σ : AH} {a : Nat}  {ss : Nat → Int64} {ps : Nat → Int64} {hv : Nat → Int64} {oo : Nat → Int64} {cu : Int64} {mm : Int32} {sk : Int32} {pk : Int32} {kw : Int64} {sc : Int32} {pn : Int32}  {fu : Nat} (res : ((Nat → Int64) × Int32 × Int32)) (hf : f_X1_learnShapes fu ss cu mm sk sc = some res) : Con l E yX1_learnShapes (.code yX1_learnShapes cX1_learnShapes 2 none :: TT) ({ frames := 3, cells := 0, slots := 0, locals := 75 } : Room) 0 0 [.ref a] (wPc σ a ss ps hv oo cu mm sk pk kw sc pn) n none (wPc σ a res.1 ps hv oo cu mm res.2.1 pk kw res.2.2 pn) n := by
  refine con_intro (by decide +kernel) (Nat.le_of_ble_eq_true rfl) ?_
  intro K C hKR hKL hKE hKN hKQ
  subst hKL
  subst hKE
  have C : Cx K RX1 "learnShapes" cX1_learnShapes none := C
  show G K 0 0 0 [(0, .ref a)] [] (wPc σ a ss ps hv oo cu mm sk pk kw sc pn) n
  unfold f_X1_learnShapes at hf
  refine g_aload_n C rfl (q := 0) rfl dX1_learnShapes_0 rfl ?_
  refine g_get C fc_X1 6 (by decide) wf_RX1_72 (wL_at0 rfl) rfl dX1_learnShapes_1 rfl ?_
  refine g_if_eq (tgt := 8) C dX1_learnShapes_4 (by decide) rfl (fun c1 => ?_) (fun c1 => ?_)
  · replace hf := ift c1 hf
    refine g_aload_n C rfl (q := 0) rfl dX1_learnShapes_8 rfl ?_
    refine g_iconst (v := 0) C (by decide) dX1_learnShapes_9 rfl ?_
    refine g_put (h' := (wPc σ a ss ps hv oo cu mm sk pk kw (0 : Int32) pn)) C fc_X1 9 (by decide) wf_RX1_44 rfl rfl rfl (Nat.le_of_ble_eq_true rfl) (wL_at0 rfl) (wL_up0 (Nat.le_of_ble_eq_true rfl) rfl) dX1_learnShapes_10 rfl ?_
    refine g_aload_n C rfl (q := 0) rfl dX1_learnShapes_13 rfl ?_
    refine g_get C fc_X1 4 (by decide) wf_RX1_24 (wL_at0 rfl) rfl dX1_learnShapes_14 rfl ?_
    obtain ⟨q2, hq2, hf⟩ := bd hf
    refine g_callS0 (st' := []) (as := [.long cu]) (st2 := [.int q2]) (k := 1) C ⟨wm_RX1_75, ws_X0_hangsTogether, wi_RX0, wk_X0_hangsTogether, by decide +kernel⟩ (c_X0_hangsTogether (l := kL K) (E := kE K)  _ hq2) (by rw [hKR]; exact ⟨rfl, rfl, ⟨by decide, by decide⟩, Nat.le_refl _, Nat.le_refl _⟩) rfl rfl (by simp) rfl dX1_learnShapes_17 rfl ?_
    refine g_if_eq (tgt := 66) C dX1_learnShapes_20 (by decide) rfl (fun c3 => ?_) (fun c3 => ?_)
    · replace hf := ift c3 hf
      refine g_aload_n C rfl (q := 0) rfl dX1_learnShapes_66 rfl ?_
      refine g_iconst (v := 1) C (by decide) dX1_learnShapes_67 rfl ?_
      refine g_put (h' := (wPc σ a ss ps hv oo cu mm (1 : Int32) pk kw (0 : Int32) pn)) C fc_X1 6 (by decide) wf_RX1_72 rfl rfl rfl (Nat.le_of_ble_eq_true rfl) (wL_at0 rfl) (wL_up0 (Nat.le_of_ble_eq_true rfl) rfl) dX1_learnShapes_68 rfl ?_
      obtain rfl := Option.some.inj hf
      exact g_vret C hKQ dX1_learnShapes_71
    · replace hf := iff' c3 hf
      refine g_iconst (v := 0) C (by decide) dX1_learnShapes_23 rfl ?_
      refine g_istore_n (i := 1) (lv' := [(1, .int (0 : Int32)), (0, .ref a)]) C dX1_learnShapes_24 rfl rfl (by rw [hKN]; decide) rfl ?_
      refine g_sub (lv' := [(0, .ref a), (1, .int (0 : Int32))]) [1, 0] rfl ?_
      obtain ⟨q34, hq34, hf⟩ := bd hf
      refine g_X1_learnShapes_25 (ps := ps) (hv := hv) (oo := oo) (cu := cu) (mm := mm) (sk := sk) (pk := pk) (kw := kw) (pn := pn) C hKR hKN _ _ _ _ _ hq34 ?_
      refine g_aload_n C rfl (q := 0) rfl dX1_learnShapes_66 rfl ?_
      refine g_iconst (v := 1) C (by decide) dX1_learnShapes_67 rfl ?_
      refine g_put (h' := (wPc σ a q34.1 ps hv oo cu mm (1 : Int32) pk kw q34.2 pn)) C fc_X1 6 (by decide) wf_RX1_72 rfl rfl rfl (Nat.le_of_ble_eq_true rfl) (wL_at0 rfl) (wL_up0 (Nat.le_of_ble_eq_true rfl) rfl) dX1_learnShapes_68 rfl ?_
      obtain rfl := Option.some.inj hf
      exact g_vret C hKQ dX1_learnShapes_71
  · replace hf := iff' c1 hf
    obtain rfl := Option.some.inj hf
    exact g_vret C hKQ dX1_learnShapes_7
def f_X1_countShapes (fu : Nat) (ss : Nat → Int64) (cu : Int64) (mm : Int32) (sk : Int32) (sc : Int32) : Option (Int32 × (Nat → Int64) × Int32 × Int32) := ((f_X1_learnShapes fu ss cu mm sk sc).bind fun q1 => some (q1.2.2, q1.1, q1.2.1, q1.2.2))
set_option maxHeartbeats 2000000 in
set_option maxRecDepth 20000 in
theorem c_X1_countShapes {l : Launch} {E : Ex} {n : Nat} {σ : AH} {a : Nat}  {ss : Nat → Int64} {ps : Nat → Int64} {hv : Nat → Int64} {oo : Nat → Int64} {cu : Int64} {mm : Int32} {sk : Int32} {pk : Int32} {kw : Int64} {sc : Int32} {pn : Int32}  {fu : Nat} (res : (Int32 × (Nat → Int64) × Int32 × Int32)) (hf : f_X1_countShapes fu ss cu mm sk sc = some res) : Con l E yX1_countShapes (.code yX1_countShapes cX1_countShapes 1 (some .int) :: TT) ({ frames := 4, cells := 0, slots := 0, locals := 96 } : Room) 0 0 [.ref a] (wPc σ a ss ps hv oo cu mm sk pk kw sc pn) n (some (.int res.1)) (wPc σ a res.2.1 ps hv oo cu mm res.2.2.1 pk kw res.2.2.2 pn) n := by
  refine con_intro (by decide +kernel) (Nat.le_of_ble_eq_true rfl) ?_
  intro K C hKR hKL hKE hKN hKQ
  subst hKL
  subst hKE
  have C : Cx K RX1 "countShapes" cX1_countShapes (some .int) := C
  show G K 0 0 0 [(0, .ref a)] [] (wPc σ a ss ps hv oo cu mm sk pk kw sc pn) n
  unfold f_X1_countShapes at hf
  refine g_aload_n C rfl (q := 0) rfl dX1_countShapes_0 rfl ?_
  obtain ⟨q1, hq1, hf⟩ := bd hf
  refine g_callV0 (st' := []) (as := []) (st2 := []) (k := 0) C ⟨wm_RX1_41, wn_X1_learnShapes, wv_X1_learnShapes, wi_RX1, wk_X1_learnShapes, by decide +kernel⟩ rfl (wL_at0 rfl) (c_X1_learnShapes (l := kL K) (E := kE K)  _ hq1) (by rw [hKR]; exact ⟨rfl, rfl, ⟨by decide, by decide⟩, Nat.le_refl _, Nat.le_refl _⟩) rfl rfl (by simp) rfl dX1_countShapes_1 rfl ?_
  refine g_aload_n C rfl (q := 0) rfl dX1_countShapes_4 rfl ?_
  refine g_get C fc_X1 9 (by decide) wf_RX1_44 (wL_at0 rfl) rfl dX1_countShapes_5 rfl ?_
  obtain rfl := Option.some.inj hf
  exact g_iret C hKQ dX1_countShapes_8
def f_X1_shapeAt (ss : Nat → Int64) (k : Int32) : Option Int64 := (if inB k 48 = true then some (ss k.toNatClampNeg) else none)
set_option maxHeartbeats 2000000 in
set_option maxRecDepth 20000 in
theorem c_X1_shapeAt {l : Launch} {E : Ex} {n : Nat} {σ : AH} {a : Nat}  {ss : Nat → Int64} {ps : Nat → Int64} {hv : Nat → Int64} {oo : Nat → Int64} {cu : Int64} {mm : Int32} {sk : Int32} {pk : Int32} {kw : Int64} {sc : Int32} {pn : Int32} {k : Int32} (res : Int64) (hf : f_X1_shapeAt ss k = some res) : Con l E yX1_shapeAt (.code yX1_shapeAt cX1_shapeAt 2 (some .long) :: TT) ({ frames := 0, cells := 0, slots := 0, locals := 0 } : Room) 0 0 [.ref a, .int k] (wPc σ a ss ps hv oo cu mm sk pk kw sc pn) n (some (.long res)) (wPc σ a ss ps hv oo cu mm sk pk kw sc pn) n := by
  refine con_intro (by decide +kernel) (Nat.le_of_ble_eq_true rfl) ?_
  intro K C hKR hKL hKE hKN hKQ
  subst hKL
  subst hKE
  have C : Cx K RX1 "shapeAt" cX1_shapeAt (some .long) := C
  show G K 0 0 0 [(0, .ref a), (1, .int k)] [] (wPc σ a ss ps hv oo cu mm sk pk kw sc pn) n
  unfold f_X1_shapeAt at hf
  refine g_aload_n C rfl (q := 0) rfl dX1_shapeAt_0 rfl ?_
  refine g_get C fc_X1 0 (by decide) wf_RX1_11 (wL_at0 rfl) rfl dX1_shapeAt_1 rfl ?_
  refine g_iload_n C rfl (q := 1) rfl dX1_shapeAt_4 rfl ?_
  obtain ⟨g1, hf⟩ := gd hf
  refine g_lald C (wL_at 1 rfl) (inB_in g1) dX1_shapeAt_5 rfl ?_
  obtain rfl := Option.some.inj hf
  exact g_lret C hKQ dX1_shapeAt_6
def f_X1_hasShape_8  (l1 : Int64) (l3 : Int32) (ss : Nat → Int64) (sk : Int32) (sc : Int32) : Nat → Int32 → Option ((Int32 × (Nat → Int64) × Int32 × Int32) ⊕ Unit)
  | 0, _ => none
  | fu + 1, l4 => (if l3 ≤ l4 then some (.inr ()) else (if inB l4 48 = true then (if (ss l4.toNatClampNeg) = l1 then some (.inl ((1 : Int32), ss, sk, sc)) else f_X1_hasShape_8 l1 l3 ss sk sc fu (l4 + (1 : Int32))) else none))
def f_X1_hasShape (fu : Nat) (ss : Nat → Int64) (cu : Int64) (mm : Int32) (sk : Int32) (sc : Int32) (set : Int64) : Option (Int32 × (Nat → Int64) × Int32 × Int32) := ((f_X1_countShapes fu ss cu mm sk sc).bind fun q1 => (sumB (f_X1_hasShape_8 set q1.1 q1.2.1 q1.2.2.1 q1.2.2.2 fu (0 : Int32)) id fun t12 => some ((0 : Int32), q1.2.1, q1.2.2.1, q1.2.2.2)))
set_option maxHeartbeats 2000000 in
set_option maxRecDepth 20000 in
theorem g_X1_hasShape_8 {K : KX} {n : Nat} {σ : AH} {a : Nat}  {l1 : Int64} {l3 : Int32} {ss : Nat → Int64} {ps : Nat → Int64} {hv : Nat → Int64} {oo : Nat → Int64} {cu : Int64} {mm : Int32} {sk : Int32} {pk : Int32} {kw : Int64} {sc : Int32} {pn : Int32} (C : Cx K RX1 "hasShape" cX1_hasShape (some .boolean)) (hKR : kR K = ({ frames := 5, cells := 0, slots := 0, locals := 116 } : Room)) (hKN : kN K = 5) : ∀ (fu : Nat) (l4 : Int32) (res : ((Int32 × (Nat → Int64) × Int32 × Int32) ⊕ Unit)), f_X1_hasShape_8 l1 l3 ss sk sc fu l4 = some res → (∀ t, res = .inl t → KQ K 0 0 (some (.int t.1)) (wPc σ a t.2.1 ps hv oo cu mm t.2.2.1 pk kw t.2.2.2 pn) n) → (∀ t, res = .inr t → G K 0 0 34 [] [] (wPc σ a ss ps hv oo cu mm sk pk kw sc pn) n) → G K 0 0 8 [(0, .ref a), (1, .long l1), (3, .int l3), (4, .int l4)] [] (wPc σ a ss ps hv oo cu mm sk pk kw sc pn) n := by
  intro fu
  induction fu with
  | zero =>
    intro l4 res hf
    exact absurd hf (by simp [f_X1_hasShape_8])
  | succ fu ih =>
    intro l4 res hf hret hx
    rw [f_X1_hasShape_8] at hf
    refine g_iload C (q := 3) rfl dX1_hasShape_8 rfl ?_
    refine g_iload_n C rfl (q := 2) rfl dX1_hasShape_10 rfl ?_
    refine g_icmp_ge (tgt := 34) C dX1_hasShape_11 (by decide) rfl (fun c8 => ?_) (fun c8 => ?_)
    · replace hf := ift c8 hf
      obtain rfl := Option.some.inj hf
      refine g_sub (lv' := []) [] rfl ?_
      exact hx () rfl
    · replace hf := iff' c8 hf
      refine g_aload_n C rfl (q := 0) rfl dX1_hasShape_14 rfl ?_
      refine g_get C fc_X1 0 (by decide) wf_RX1_11 (wL_at0 rfl) rfl dX1_hasShape_15 rfl ?_
      refine g_iload C (q := 3) rfl dX1_hasShape_18 rfl ?_
      obtain ⟨g9, hf⟩ := gd hf
      refine g_lald C (wL_at 1 rfl) (inB_in g9) dX1_hasShape_20 rfl ?_
      refine g_lload_n C rfl (q := 1) rfl dX1_hasShape_21 rfl ?_
      refine g_lif_ne (tgt := 28) C dX1_hasShape_22 rfl dX1_hasShape_23 (by decide) rfl (fun c10 => ?_) (fun c10 => ?_)
      · replace hf := iff' c10 hf
        refine g_iinc (v := l4 + (1 : Int32)) (lv' := [(4, .int (l4 + (1 : Int32))), (0, .ref a), (1, .long l1), (3, .int l3)]) (q := 3) C dX1_hasShape_28 rfl rfl rfl (by rw [hKN]; decide) rfl ?_
        refine g_goto (pc' := 8) C dX1_hasShape_31 (by decide) ?_
        refine g_sub (lv' := [(0, .ref a), (1, .long l1), (3, .int l3), (4, .int (l4 + (1 : Int32)))]) [1, 2, 3, 0] rfl ?_
        exact ih _ _ hf hret hx
      · replace hf := ift c10 hf
        refine g_iconst (v := 1) C (by decide) dX1_hasShape_26 rfl ?_
        obtain rfl := Option.some.inj hf
        exact g_zret C rfl (hret ((1 : Int32), ss, sk, sc) rfl) dX1_hasShape_27
set_option maxHeartbeats 2000000 in
set_option maxRecDepth 20000 in
theorem c_X1_hasShape {l : Launch} {E : Ex} {n : Nat} {σ : AH} {a : Nat}  {ss : Nat → Int64} {ps : Nat → Int64} {hv : Nat → Int64} {oo : Nat → Int64} {cu : Int64} {mm : Int32} {sk : Int32} {pk : Int32} {kw : Int64} {sc : Int32} {pn : Int32} {set : Int64} {fu : Nat} (res : (Int32 × (Nat → Int64) × Int32 × Int32)) (hf : f_X1_hasShape fu ss cu mm sk sc set = some res) : Con l E yX1_hasShape (.code yX1_hasShape cX1_hasShape 5 (some .boolean) :: TT) ({ frames := 5, cells := 0, slots := 0, locals := 116 } : Room) 0 0 [.ref a, .long set] (wPc σ a ss ps hv oo cu mm sk pk kw sc pn) n (some (.int res.1)) (wPc σ a res.2.1 ps hv oo cu mm res.2.2.1 pk kw res.2.2.2 pn) n := by
  refine con_intro (by decide +kernel) (Nat.le_of_ble_eq_true rfl) ?_
  intro K C hKR hKL hKE hKN hKQ
  subst hKL
  subst hKE
  have C : Cx K RX1 "hasShape" cX1_hasShape (some .boolean) := C
  show G K 0 0 0 [(0, .ref a), (1, .long set)] [] (wPc σ a ss ps hv oo cu mm sk pk kw sc pn) n
  unfold f_X1_hasShape at hf
  refine g_aload_n C rfl (q := 0) rfl dX1_hasShape_0 rfl ?_
  obtain ⟨q1, hq1, hf⟩ := bd hf
  refine g_callV0 (st' := []) (as := []) (st2 := [.int q1.1]) (k := 0) C ⟨wm_RX1_48, wn_X1_countShapes, wv_X1_countShapes, wi_RX1, wk_X1_countShapes, by decide +kernel⟩ rfl (wL_at0 rfl) (c_X1_countShapes (l := kL K) (E := kE K)  _ hq1) (by rw [hKR]; exact ⟨rfl, rfl, ⟨by decide, by decide⟩, Nat.le_refl _, Nat.le_refl _⟩) rfl rfl (by simp) rfl dX1_hasShape_1 rfl ?_
  refine g_istore_n (i := 3) (lv' := [(3, .int q1.1), (0, .ref a), (1, .long set)]) C dX1_hasShape_4 rfl rfl (by rw [hKN]; decide) rfl ?_
  refine g_iconst (v := 0) C (by decide) dX1_hasShape_5 rfl ?_
  refine g_istore (i := 4) (lv' := [(4, .int (0 : Int32)), (3, .int q1.1), (0, .ref a), (1, .long set)]) C dX1_hasShape_6 rfl (by rw [hKN]; decide) rfl ?_
  refine g_sub (lv' := [(0, .ref a), (1, .long set), (3, .int q1.1), (4, .int (0 : Int32))]) [2, 3, 1, 0] rfl ?_
  obtain ⟨q11, hq11, hf1, hf2⟩ := sb hf
  refine g_X1_hasShape_8 (l1 := set) (l3 := q1.1) (ss := q1.2.1) (ps := ps) (hv := hv) (oo := oo) (cu := cu) (mm := mm) (sk := q1.2.2.1) (pk := pk) (kw := kw) (sc := q1.2.2.2) (pn := pn) C hKR hKN _ _ q11 hq11 (fun t12 et12 => ?_) (fun t12 et12 => ?_)
  · obtain rfl := hf1 _ et12
    exact hKQ
  · have hf := hf2 _ et12
    refine g_iconst (v := 0) C (by decide) dX1_hasShape_34 rfl ?_
    obtain rfl := Option.some.inj hf
    exact g_zret C rfl hKQ dX1_hasShape_35
def f_X1_countPlaces (pn : Int32) : Option Int32 := some pn
set_option maxHeartbeats 2000000 in
set_option maxRecDepth 20000 in
theorem c_X1_countPlaces {l : Launch} {E : Ex} {n : Nat} {σ : AH} {a : Nat}  {ss : Nat → Int64} {ps : Nat → Int64} {hv : Nat → Int64} {oo : Nat → Int64} {cu : Int64} {mm : Int32} {sk : Int32} {pk : Int32} {kw : Int64} {sc : Int32} {pn : Int32}  (res : Int32) (hf : f_X1_countPlaces pn = some res) : Con l E yX1_countPlaces (.code yX1_countPlaces cX1_countPlaces 1 (some .int) :: TT) ({ frames := 0, cells := 0, slots := 0, locals := 0 } : Room) 0 0 [.ref a] (wPc σ a ss ps hv oo cu mm sk pk kw sc pn) n (some (.int res)) (wPc σ a ss ps hv oo cu mm sk pk kw sc pn) n := by
  refine con_intro (by decide +kernel) (Nat.le_of_ble_eq_true rfl) ?_
  intro K C hKR hKL hKE hKN hKQ
  subst hKL
  subst hKE
  have C : Cx K RX1 "countPlaces" cX1_countPlaces (some .int) := C
  show G K 0 0 0 [(0, .ref a)] [] (wPc σ a ss ps hv oo cu mm sk pk kw sc pn) n
  unfold f_X1_countPlaces at hf
  refine g_aload_n C rfl (q := 0) rfl dX1_countPlaces_0 rfl ?_
  refine g_get C fc_X1 10 (by decide) wf_RX1_52 (wL_at0 rfl) rfl dX1_countPlaces_1 rfl ?_
  obtain rfl := Option.some.inj hf
  exact g_iret C hKQ dX1_countPlaces_4
def f_X1_placeAt (ps : Nat → Int64) (k : Int32) : Option Int64 := (if inB k 896 = true then some (ps k.toNatClampNeg) else none)
set_option maxHeartbeats 2000000 in
set_option maxRecDepth 20000 in
theorem c_X1_placeAt {l : Launch} {E : Ex} {n : Nat} {σ : AH} {a : Nat}  {ss : Nat → Int64} {ps : Nat → Int64} {hv : Nat → Int64} {oo : Nat → Int64} {cu : Int64} {mm : Int32} {sk : Int32} {pk : Int32} {kw : Int64} {sc : Int32} {pn : Int32} {k : Int32} (res : Int64) (hf : f_X1_placeAt ps k = some res) : Con l E yX1_placeAt (.code yX1_placeAt cX1_placeAt 2 (some .long) :: TT) ({ frames := 0, cells := 0, slots := 0, locals := 0 } : Room) 0 0 [.ref a, .int k] (wPc σ a ss ps hv oo cu mm sk pk kw sc pn) n (some (.long res)) (wPc σ a ss ps hv oo cu mm sk pk kw sc pn) n := by
  refine con_intro (by decide +kernel) (Nat.le_of_ble_eq_true rfl) ?_
  intro K C hKR hKL hKE hKN hKQ
  subst hKL
  subst hKE
  have C : Cx K RX1 "placeAt" cX1_placeAt (some .long) := C
  show G K 0 0 0 [(0, .ref a), (1, .int k)] [] (wPc σ a ss ps hv oo cu mm sk pk kw sc pn) n
  unfold f_X1_placeAt at hf
  refine g_aload_n C rfl (q := 0) rfl dX1_placeAt_0 rfl ?_
  refine g_get C fc_X1 1 (by decide) wf_RX1_15 (wL_at0 rfl) rfl dX1_placeAt_1 rfl ?_
  refine g_iload_n C rfl (q := 1) rfl dX1_placeAt_4 rfl ?_
  obtain ⟨g1, hf⟩ := gd hf
  refine g_lald C (wL_at 2 rfl) (inB_in g1) dX1_placeAt_5 rfl ?_
  obtain rfl := Option.some.inj hf
  exact g_lret C hKQ dX1_placeAt_6
def f_X1_countWords (pn : Int32) : Option Int32 := some ((pn + (63 : Int32)) / (64 : Int32))
set_option maxHeartbeats 2000000 in
set_option maxRecDepth 20000 in
theorem c_X1_countWords {l : Launch} {E : Ex} {n : Nat} {σ : AH} {a : Nat}  {ss : Nat → Int64} {ps : Nat → Int64} {hv : Nat → Int64} {oo : Nat → Int64} {cu : Int64} {mm : Int32} {sk : Int32} {pk : Int32} {kw : Int64} {sc : Int32} {pn : Int32}  (res : Int32) (hf : f_X1_countWords pn = some res) : Con l E yX1_countWords (.code yX1_countWords cX1_countWords 1 (some .int) :: TT) ({ frames := 0, cells := 0, slots := 0, locals := 0 } : Room) 0 0 [.ref a] (wPc σ a ss ps hv oo cu mm sk pk kw sc pn) n (some (.int res)) (wPc σ a ss ps hv oo cu mm sk pk kw sc pn) n := by
  refine con_intro (by decide +kernel) (Nat.le_of_ble_eq_true rfl) ?_
  intro K C hKR hKL hKE hKN hKQ
  subst hKL
  subst hKE
  have C : Cx K RX1 "countWords" cX1_countWords (some .int) := C
  show G K 0 0 0 [(0, .ref a)] [] (wPc σ a ss ps hv oo cu mm sk pk kw sc pn) n
  unfold f_X1_countWords at hf
  refine g_aload_n C rfl (q := 0) rfl dX1_countWords_0 rfl ?_
  refine g_get C fc_X1 10 (by decide) wf_RX1_52 (wL_at0 rfl) rfl dX1_countWords_1 rfl ?_
  refine g_bipush (v := 63) C (by decide) dX1_countWords_4 rfl ?_
  refine g_iadd C dX1_countWords_6 rfl ?_
  refine g_bipush (v := 64) C (by decide) dX1_countWords_7 rfl ?_
  refine g_idiv C (by decide) dX1_countWords_9 rfl ?_
  obtain rfl := Option.some.inj hf
  exact g_iret C hKQ dX1_countWords_10
def f_X1_wordOf (hv : Nat → Int64) (row : Int32) (word : Int32) : Option Int64 := (if inB ((row * (14 : Int32)) + word) 910 = true then some (hv ((row * (14 : Int32)) + word).toNatClampNeg) else none)
set_option maxHeartbeats 2000000 in
set_option maxRecDepth 20000 in
theorem c_X1_wordOf {l : Launch} {E : Ex} {n : Nat} {σ : AH} {a : Nat}  {ss : Nat → Int64} {ps : Nat → Int64} {hv : Nat → Int64} {oo : Nat → Int64} {cu : Int64} {mm : Int32} {sk : Int32} {pk : Int32} {kw : Int64} {sc : Int32} {pn : Int32} {row : Int32} {word : Int32} (res : Int64) (hf : f_X1_wordOf hv row word = some res) : Con l E yX1_wordOf (.code yX1_wordOf cX1_wordOf 3 (some .long) :: TT) ({ frames := 0, cells := 0, slots := 0, locals := 0 } : Room) 0 0 [.ref a, .int row, .int word] (wPc σ a ss ps hv oo cu mm sk pk kw sc pn) n (some (.long res)) (wPc σ a ss ps hv oo cu mm sk pk kw sc pn) n := by
  refine con_intro (by decide +kernel) (Nat.le_of_ble_eq_true rfl) ?_
  intro K C hKR hKL hKE hKN hKQ
  subst hKL
  subst hKE
  have C : Cx K RX1 "wordOf" cX1_wordOf (some .long) := C
  show G K 0 0 0 [(0, .ref a), (1, .int row), (2, .int word)] [] (wPc σ a ss ps hv oo cu mm sk pk kw sc pn) n
  unfold f_X1_wordOf at hf
  refine g_aload_n C rfl (q := 0) rfl dX1_wordOf_0 rfl ?_
  refine g_get C fc_X1 2 (by decide) wf_RX1_18 (wL_at0 rfl) rfl dX1_wordOf_1 rfl ?_
  refine g_iload_n C rfl (q := 1) rfl dX1_wordOf_4 rfl ?_
  refine g_bipush (v := 14) C (by decide) dX1_wordOf_5 rfl ?_
  refine g_imul C dX1_wordOf_7 rfl ?_
  refine g_iload_n C rfl (q := 2) rfl dX1_wordOf_8 rfl ?_
  refine g_iadd C dX1_wordOf_9 rfl ?_
  obtain ⟨g1, hf⟩ := gd hf
  refine g_lald C (wL_at 3 rfl) (inB_in g1) dX1_wordOf_10 rfl ?_
  obtain rfl := Option.some.inj hf
  exact g_lret C hKQ dX1_wordOf_11
def f_X1_placeOneShape_53  (l1 : Int64) (l3 : Int64) (l5 : Int32) (l9 : Int32) (l10 : Int32) : Nat → Int32 → Int32 → (Nat → Int64) → Option (Int32 × (Nat → Int64))
  | 0, _, _, _ => none
  | fu + 1, l8, l11, oo => (if l5 < l11 then some (l8, oo) else (if ((l1 <<< (((l11 + ((4 : Int32) * l10)) + ((16 : Int32) * l9)).toInt64 &&& 63)) &&& (l3 ^^^ (-1 : Int64))) = (0 : Int64) then (if inB l8 64 = true then f_X1_placeOneShape_53 l1 l3 l5 l9 l10 fu (l8 + (1 : Int32)) (l11 + (1 : Int32)) (va_up oo l8.toNatClampNeg (l1 <<< (((l11 + ((4 : Int32) * l10)) + ((16 : Int32) * l9)).toInt64 &&& 63))) else none) else f_X1_placeOneShape_53 l1 l3 l5 l9 l10 fu l8 (l11 + (1 : Int32)) oo))
def f_X1_placeOneShape_43  (l1 : Int64) (l3 : Int64) (l5 : Int32) (l6 : Int32) (l9 : Int32) : Nat → Int32 → Int32 → (Nat → Int64) → Option (Int32 × (Nat → Int64))
  | 0, _, _, _ => none
  | fu + 1, l8, l10, oo => (if l6 < l10 then some (l8, oo) else ((f_X1_placeOneShape_53 l1 l3 l5 l9 l10 fu l8 (0 : Int32) oo).bind fun q107 => f_X1_placeOneShape_43 l1 l3 l5 l6 l9 fu q107.1 (l10 + (1 : Int32)) q107.2))
def f_X1_placeOneShape_33  (l1 : Int64) (l3 : Int64) (l5 : Int32) (l6 : Int32) (l7 : Int32) : Nat → Int32 → Int32 → (Nat → Int64) → Option (Int32 × (Nat → Int64))
  | 0, _, _, _ => none
  | fu + 1, l8, l9, oo => (if l7 < l9 then some (l8, oo) else ((f_X1_placeOneShape_43 l1 l3 l5 l6 l9 fu l8 (0 : Int32) oo).bind fun q108 => f_X1_placeOneShape_33 l1 l3 l5 l6 l7 fu q108.1 (l9 + (1 : Int32)) q108.2))
def f_X1_placeOneShape (fu : Nat) (oo : Nat → Int64) (shape : Int64) (within : Int64) : Option (Int32 × (Nat → Int64)) := ((f_X0_greatest fu shape (0 : Int32)).bind fun q1 => ((f_X0_greatest fu shape (1 : Int32)).bind fun q2 => ((f_X0_greatest fu shape (2 : Int32)).bind fun q3 => ((f_X1_placeOneShape_33 shape within ((3 : Int32) - q1) ((3 : Int32) - q2) ((3 : Int32) - q3) fu (0 : Int32) (0 : Int32) oo).bind fun q109 => some (q109.1, q109.2)))))
set_option maxHeartbeats 2000000 in
set_option maxRecDepth 20000 in
theorem g_X1_placeOneShape_53 {K : KX} {n : Nat} {σ : AH} {a : Nat}  {l1 : Int64} {l3 : Int64} {l5 : Int32} {l6 : Int32} {l7 : Int32} {l9 : Int32} {l10 : Int32} {ss : Nat → Int64} {ps : Nat → Int64} {hv : Nat → Int64} {cu : Int64} {mm : Int32} {sk : Int32} {pk : Int32} {kw : Int64} {sc : Int32} {pn : Int32} (C : Cx K RX1 "placeOneShape" cX1_placeOneShape (some .int)) (hKR : kR K = ({ frames := 1, cells := 0, slots := 0, locals := 23 } : Room)) (hKN : kN K = 14) : ∀ (fu : Nat) (l8 : Int32) (l11 : Int32) (oo : Nat → Int64) (res : (Int32 × (Nat → Int64))), f_X1_placeOneShape_53 l1 l3 l5 l9 l10 fu l8 l11 oo = some res → G K 0 0 108 [(0, .ref a), (1, .long l1), (3, .long l3), (5, .int l5), (6, .int l6), (7, .int l7), (8, .int res.1), (9, .int l9), (10, .int l10)] [] (wPc σ a ss ps hv res.2 cu mm sk pk kw sc pn) n → G K 0 0 53 [(0, .ref a), (1, .long l1), (3, .long l3), (5, .int l5), (6, .int l6), (7, .int l7), (8, .int l8), (9, .int l9), (10, .int l10), (11, .int l11)] [] (wPc σ a ss ps hv oo cu mm sk pk kw sc pn) n := by
  intro fu
  induction fu with
  | zero =>
    intro l8 l11 oo res hf
    exact absurd hf (by simp [f_X1_placeOneShape_53])
  | succ fu ih =>
    intro l8 l11 oo res hf hx
    rw [f_X1_placeOneShape_53] at hf
    refine g_iload C (q := 9) rfl dX1_placeOneShape_53 rfl ?_
    refine g_iload C (q := 3) rfl dX1_placeOneShape_55 rfl ?_
    refine g_icmp_gt (tgt := 108) C dX1_placeOneShape_57 (by decide) rfl (fun c104 => ?_) (fun c104 => ?_)
    · replace hf := ift c104 hf
      obtain rfl := Option.some.inj hf
      refine g_sub (lv' := [(0, .ref a), (1, .long l1), (3, .long l3), (5, .int l5), (6, .int l6), (7, .int l7), (8, .int l8), (9, .int l9), (10, .int l10)]) [0, 1, 2, 3, 4, 5, 6, 7, 8] rfl ?_
      exact hx
    · replace hf := iff' c104 hf
      refine g_lload_n C rfl (q := 1) rfl dX1_placeOneShape_60 rfl ?_
      refine g_iload C (q := 9) rfl dX1_placeOneShape_61 rfl ?_
      refine g_iconst (v := 4) C (by decide) dX1_placeOneShape_63 rfl ?_
      refine g_iload C (q := 8) rfl dX1_placeOneShape_64 rfl ?_
      refine g_imul C dX1_placeOneShape_66 rfl ?_
      refine g_iadd C dX1_placeOneShape_67 rfl ?_
      refine g_bipush (v := 16) C (by decide) dX1_placeOneShape_68 rfl ?_
      refine g_iload C (q := 7) rfl dX1_placeOneShape_70 rfl ?_
      refine g_imul C dX1_placeOneShape_72 rfl ?_
      refine g_iadd C dX1_placeOneShape_73 rfl ?_
      refine g_lshl C dX1_placeOneShape_74 rfl ?_
      refine g_lstore (i := 12) (lv' := [(12, .long (l1 <<< (((l11 + ((4 : Int32) * l10)) + ((16 : Int32) * l9)).toInt64 &&& 63))), (0, .ref a), (1, .long l1), (3, .long l3), (5, .int l5), (6, .int l6), (7, .int l7), (8, .int l8), (9, .int l9), (10, .int l10), (11, .int l11)]) C dX1_placeOneShape_75 rfl (by rw [hKN]; decide) rfl ?_
      refine g_lload C (q := 0) rfl dX1_placeOneShape_77 rfl ?_
      refine g_lload_n C rfl (q := 3) rfl dX1_placeOneShape_79 rfl ?_
      refine g_ldc2 C wc_RX1_105 dX1_placeOneShape_80 rfl ?_
      refine g_lxor C dX1_placeOneShape_83 rfl ?_
      refine g_land C dX1_placeOneShape_84 rfl ?_
      refine g_lconst (v := 0) C (by decide) dX1_placeOneShape_85 rfl ?_
      refine g_lif_ne (tgt := 102) C dX1_placeOneShape_86 rfl dX1_placeOneShape_87 (by decide) rfl (fun c105 => ?_) (fun c105 => ?_)
      · replace hf := iff' c105 hf
        refine g_iinc (v := l11 + (1 : Int32)) (lv' := [(11, .int (l11 + (1 : Int32))), (12, .long (l1 <<< (((l11 + ((4 : Int32) * l10)) + ((16 : Int32) * l9)).toInt64 &&& 63))), (0, .ref a), (1, .long l1), (3, .long l3), (5, .int l5), (6, .int l6), (7, .int l7), (8, .int l8), (9, .int l9), (10, .int l10)]) (q := 10) C dX1_placeOneShape_102 rfl rfl rfl (by rw [hKN]; decide) rfl ?_
        refine g_goto (pc' := 53) C dX1_placeOneShape_105 (by decide) ?_
        refine g_sub (lv' := [(0, .ref a), (1, .long l1), (3, .long l3), (5, .int l5), (6, .int l6), (7, .int l7), (8, .int l8), (9, .int l9), (10, .int l10), (11, .int (l11 + (1 : Int32)))]) [2, 3, 4, 5, 6, 7, 8, 9, 10, 0] rfl ?_
        exact ih _ _ _ _ hf hx
      · replace hf := ift c105 hf
        refine g_aload_n C rfl (q := 1) rfl dX1_placeOneShape_90 rfl ?_
        refine g_get C fc_X1 3 (by decide) wf_RX1_21 (wL_at0 rfl) rfl dX1_placeOneShape_91 rfl ?_
        refine g_iload C (q := 7) rfl dX1_placeOneShape_94 rfl ?_
        refine g_lload C (q := 0) rfl dX1_placeOneShape_96 rfl ?_
        obtain ⟨g106, hf⟩ := gd hf
        refine g_last (h' := (wPc σ a ss ps hv (va_up oo l8.toNatClampNeg (l1 <<< (((l11 + ((4 : Int32) * l10)) + ((16 : Int32) * l9)).toInt64 &&& 63))) cu mm sk pk kw sc pn)) C (wL_at 4 rfl) (inB_in g106) (wL_up 4 (Nat.le_of_ble_eq_true rfl) rfl) dX1_placeOneShape_98 rfl ?_
        refine g_iinc (v := l8 + (1 : Int32)) (lv' := [(8, .int (l8 + (1 : Int32))), (12, .long (l1 <<< (((l11 + ((4 : Int32) * l10)) + ((16 : Int32) * l9)).toInt64 &&& 63))), (0, .ref a), (1, .long l1), (3, .long l3), (5, .int l5), (6, .int l6), (7, .int l7), (9, .int l9), (10, .int l10), (11, .int l11)]) (q := 7) C dX1_placeOneShape_99 rfl rfl rfl (by rw [hKN]; decide) rfl ?_
        refine g_iinc (v := l11 + (1 : Int32)) (lv' := [(11, .int (l11 + (1 : Int32))), (8, .int (l8 + (1 : Int32))), (12, .long (l1 <<< (((l11 + ((4 : Int32) * l10)) + ((16 : Int32) * l9)).toInt64 &&& 63))), (0, .ref a), (1, .long l1), (3, .long l3), (5, .int l5), (6, .int l6), (7, .int l7), (9, .int l9), (10, .int l10)]) (q := 10) C dX1_placeOneShape_102 rfl rfl rfl (by rw [hKN]; decide) rfl ?_
        refine g_goto (pc' := 53) C dX1_placeOneShape_105 (by decide) ?_
        refine g_sub (lv' := [(0, .ref a), (1, .long l1), (3, .long l3), (5, .int l5), (6, .int l6), (7, .int l7), (8, .int (l8 + (1 : Int32))), (9, .int l9), (10, .int l10), (11, .int (l11 + (1 : Int32)))]) [3, 4, 5, 6, 7, 8, 1, 9, 10, 0] rfl ?_
        exact ih _ _ _ _ hf hx
set_option maxHeartbeats 2000000 in
set_option maxRecDepth 20000 in
theorem g_X1_placeOneShape_43 {K : KX} {n : Nat} {σ : AH} {a : Nat}  {l1 : Int64} {l3 : Int64} {l5 : Int32} {l6 : Int32} {l7 : Int32} {l9 : Int32} {ss : Nat → Int64} {ps : Nat → Int64} {hv : Nat → Int64} {cu : Int64} {mm : Int32} {sk : Int32} {pk : Int32} {kw : Int64} {sc : Int32} {pn : Int32} (C : Cx K RX1 "placeOneShape" cX1_placeOneShape (some .int)) (hKR : kR K = ({ frames := 1, cells := 0, slots := 0, locals := 23 } : Room)) (hKN : kN K = 14) : ∀ (fu : Nat) (l8 : Int32) (l10 : Int32) (oo : Nat → Int64) (res : (Int32 × (Nat → Int64))), f_X1_placeOneShape_43 l1 l3 l5 l6 l9 fu l8 l10 oo = some res → G K 0 0 114 [(0, .ref a), (1, .long l1), (3, .long l3), (5, .int l5), (6, .int l6), (7, .int l7), (8, .int res.1), (9, .int l9)] [] (wPc σ a ss ps hv res.2 cu mm sk pk kw sc pn) n → G K 0 0 43 [(0, .ref a), (1, .long l1), (3, .long l3), (5, .int l5), (6, .int l6), (7, .int l7), (8, .int l8), (9, .int l9), (10, .int l10)] [] (wPc σ a ss ps hv oo cu mm sk pk kw sc pn) n := by
  intro fu
  induction fu with
  | zero =>
    intro l8 l10 oo res hf
    exact absurd hf (by simp [f_X1_placeOneShape_43])
  | succ fu ih =>
    intro l8 l10 oo res hf hx
    rw [f_X1_placeOneShape_43] at hf
    refine g_iload C (q := 8) rfl dX1_placeOneShape_43 rfl ?_
    refine g_iload C (q := 4) rfl dX1_placeOneShape_45 rfl ?_
    refine g_icmp_gt (tgt := 114) C dX1_placeOneShape_47 (by decide) rfl (fun c97 => ?_) (fun c97 => ?_)
    · replace hf := ift c97 hf
      obtain rfl := Option.some.inj hf
      refine g_sub (lv' := [(0, .ref a), (1, .long l1), (3, .long l3), (5, .int l5), (6, .int l6), (7, .int l7), (8, .int l8), (9, .int l9)]) [0, 1, 2, 3, 4, 5, 6, 7] rfl ?_
      exact hx
    · replace hf := iff' c97 hf
      refine g_iconst (v := 0) C (by decide) dX1_placeOneShape_50 rfl ?_
      refine g_istore (i := 11) (lv' := [(11, .int (0 : Int32)), (0, .ref a), (1, .long l1), (3, .long l3), (5, .int l5), (6, .int l6), (7, .int l7), (8, .int l8), (9, .int l9), (10, .int l10)]) C dX1_placeOneShape_51 rfl (by rw [hKN]; decide) rfl ?_
      refine g_sub (lv' := [(0, .ref a), (1, .long l1), (3, .long l3), (5, .int l5), (6, .int l6), (7, .int l7), (8, .int l8), (9, .int l9), (10, .int l10), (11, .int (0 : Int32))]) [1, 2, 3, 4, 5, 6, 7, 8, 9, 0] rfl ?_
      obtain ⟨q107, hq107, hf⟩ := bd hf
      refine g_X1_placeOneShape_53 (l1 := l1) (l3 := l3) (l5 := l5) (l6 := l6) (l7 := l7) (l9 := l9) (l10 := l10) (ss := ss) (ps := ps) (hv := hv) (cu := cu) (mm := mm) (sk := sk) (pk := pk) (kw := kw) (sc := sc) (pn := pn) C hKR hKN _ _ _ _ _ hq107 ?_
      refine g_iinc (v := l10 + (1 : Int32)) (lv' := [(10, .int (l10 + (1 : Int32))), (0, .ref a), (1, .long l1), (3, .long l3), (5, .int l5), (6, .int l6), (7, .int l7), (8, .int q107.1), (9, .int l9)]) (q := 8) C dX1_placeOneShape_108 rfl rfl rfl (by rw [hKN]; decide) rfl ?_
      refine g_goto (pc' := 43) C dX1_placeOneShape_111 (by decide) ?_
      refine g_sub (lv' := [(0, .ref a), (1, .long l1), (3, .long l3), (5, .int l5), (6, .int l6), (7, .int l7), (8, .int q107.1), (9, .int l9), (10, .int (l10 + (1 : Int32)))]) [1, 2, 3, 4, 5, 6, 7, 8, 0] rfl ?_
      exact ih _ _ _ _ hf hx
set_option maxHeartbeats 2000000 in
set_option maxRecDepth 20000 in
theorem g_X1_placeOneShape_33 {K : KX} {n : Nat} {σ : AH} {a : Nat}  {l1 : Int64} {l3 : Int64} {l5 : Int32} {l6 : Int32} {l7 : Int32} {ss : Nat → Int64} {ps : Nat → Int64} {hv : Nat → Int64} {cu : Int64} {mm : Int32} {sk : Int32} {pk : Int32} {kw : Int64} {sc : Int32} {pn : Int32} (C : Cx K RX1 "placeOneShape" cX1_placeOneShape (some .int)) (hKR : kR K = ({ frames := 1, cells := 0, slots := 0, locals := 23 } : Room)) (hKN : kN K = 14) : ∀ (fu : Nat) (l8 : Int32) (l9 : Int32) (oo : Nat → Int64) (res : (Int32 × (Nat → Int64))), f_X1_placeOneShape_33 l1 l3 l5 l6 l7 fu l8 l9 oo = some res → G K 0 0 120 [(8, .int res.1)] [] (wPc σ a ss ps hv res.2 cu mm sk pk kw sc pn) n → G K 0 0 33 [(0, .ref a), (1, .long l1), (3, .long l3), (5, .int l5), (6, .int l6), (7, .int l7), (8, .int l8), (9, .int l9)] [] (wPc σ a ss ps hv oo cu mm sk pk kw sc pn) n := by
  intro fu
  induction fu with
  | zero =>
    intro l8 l9 oo res hf
    exact absurd hf (by simp [f_X1_placeOneShape_33])
  | succ fu ih =>
    intro l8 l9 oo res hf hx
    rw [f_X1_placeOneShape_33] at hf
    refine g_iload C (q := 7) rfl dX1_placeOneShape_33 rfl ?_
    refine g_iload C (q := 5) rfl dX1_placeOneShape_35 rfl ?_
    refine g_icmp_gt (tgt := 120) C dX1_placeOneShape_37 (by decide) rfl (fun c74 => ?_) (fun c74 => ?_)
    · replace hf := ift c74 hf
      obtain rfl := Option.some.inj hf
      refine g_sub (lv' := [(8, .int l8)]) [6] rfl ?_
      exact hx
    · replace hf := iff' c74 hf
      refine g_iconst (v := 0) C (by decide) dX1_placeOneShape_40 rfl ?_
      refine g_istore (i := 10) (lv' := [(10, .int (0 : Int32)), (0, .ref a), (1, .long l1), (3, .long l3), (5, .int l5), (6, .int l6), (7, .int l7), (8, .int l8), (9, .int l9)]) C dX1_placeOneShape_41 rfl (by rw [hKN]; decide) rfl ?_
      refine g_sub (lv' := [(0, .ref a), (1, .long l1), (3, .long l3), (5, .int l5), (6, .int l6), (7, .int l7), (8, .int l8), (9, .int l9), (10, .int (0 : Int32))]) [1, 2, 3, 4, 5, 6, 7, 8, 0] rfl ?_
      obtain ⟨q108, hq108, hf⟩ := bd hf
      refine g_X1_placeOneShape_43 (l1 := l1) (l3 := l3) (l5 := l5) (l6 := l6) (l7 := l7) (l9 := l9) (ss := ss) (ps := ps) (hv := hv) (cu := cu) (mm := mm) (sk := sk) (pk := pk) (kw := kw) (sc := sc) (pn := pn) C hKR hKN _ _ _ _ _ hq108 ?_
      refine g_iinc (v := l9 + (1 : Int32)) (lv' := [(9, .int (l9 + (1 : Int32))), (0, .ref a), (1, .long l1), (3, .long l3), (5, .int l5), (6, .int l6), (7, .int l7), (8, .int q108.1)]) (q := 7) C dX1_placeOneShape_114 rfl rfl rfl (by rw [hKN]; decide) rfl ?_
      refine g_goto (pc' := 33) C dX1_placeOneShape_117 (by decide) ?_
      refine g_sub (lv' := [(0, .ref a), (1, .long l1), (3, .long l3), (5, .int l5), (6, .int l6), (7, .int l7), (8, .int q108.1), (9, .int (l9 + (1 : Int32)))]) [1, 2, 3, 4, 5, 6, 7, 0] rfl ?_
      exact ih _ _ _ _ hf hx
set_option maxHeartbeats 2000000 in
set_option maxRecDepth 20000 in
theorem c_X1_placeOneShape {l : Launch} {E : Ex} {n : Nat} {σ : AH} {a : Nat}  {ss : Nat → Int64} {ps : Nat → Int64} {hv : Nat → Int64} {oo : Nat → Int64} {cu : Int64} {mm : Int32} {sk : Int32} {pk : Int32} {kw : Int64} {sc : Int32} {pn : Int32} {shape : Int64} {within : Int64} {fu : Nat} (res : (Int32 × (Nat → Int64))) (hf : f_X1_placeOneShape fu oo shape within = some res) : Con l E yX1_placeOneShape (.code yX1_placeOneShape cX1_placeOneShape 14 (some .int) :: TT) ({ frames := 1, cells := 0, slots := 0, locals := 23 } : Room) 0 0 [.ref a, .long shape, .long within] (wPc σ a ss ps hv oo cu mm sk pk kw sc pn) n (some (.int res.1)) (wPc σ a ss ps hv res.2 cu mm sk pk kw sc pn) n := by
  refine con_intro (by decide +kernel) (Nat.le_of_ble_eq_true rfl) ?_
  intro K C hKR hKL hKE hKN hKQ
  subst hKL
  subst hKE
  have C : Cx K RX1 "placeOneShape" cX1_placeOneShape (some .int) := C
  show G K 0 0 0 [(0, .ref a), (1, .long shape), (3, .long within)] [] (wPc σ a ss ps hv oo cu mm sk pk kw sc pn) n
  unfold f_X1_placeOneShape at hf
  refine g_iconst (v := 3) C (by decide) dX1_placeOneShape_0 rfl ?_
  refine g_lload_n C rfl (q := 1) rfl dX1_placeOneShape_1 rfl ?_
  refine g_iconst (v := 0) C (by decide) dX1_placeOneShape_2 rfl ?_
  obtain ⟨q1, hq1, hf⟩ := bd hf
  refine g_callS0 (st' := [.int (3 : Int32)]) (as := [.long shape, .int (0 : Int32)]) (st2 := [.int q1, .int (3 : Int32)]) (k := 2) C ⟨wm_RX1_101, ws_X0_greatest, wi_RX0, wk_X0_greatest, by decide +kernel⟩ (c_X0_greatest (l := kL K) (E := kE K)  _ hq1) (by rw [hKR]; exact ⟨rfl, rfl, ⟨by decide, by decide⟩, Nat.le_refl _, Nat.le_refl _⟩) rfl rfl (by simp [Value.category]) rfl dX1_placeOneShape_3 rfl ?_
  refine g_isub C dX1_placeOneShape_6 rfl ?_
  refine g_istore (i := 5) (lv' := [(5, .int ((3 : Int32) - q1)), (0, .ref a), (1, .long shape), (3, .long within)]) C dX1_placeOneShape_7 rfl (by rw [hKN]; decide) rfl ?_
  refine g_iconst (v := 3) C (by decide) dX1_placeOneShape_9 rfl ?_
  refine g_lload_n C rfl (q := 2) rfl dX1_placeOneShape_10 rfl ?_
  refine g_iconst (v := 1) C (by decide) dX1_placeOneShape_11 rfl ?_
  obtain ⟨q2, hq2, hf⟩ := bd hf
  refine g_callS0 (st' := [.int (3 : Int32)]) (as := [.long shape, .int (1 : Int32)]) (st2 := [.int q2, .int (3 : Int32)]) (k := 2) C ⟨wm_RX1_101, ws_X0_greatest, wi_RX0, wk_X0_greatest, by decide +kernel⟩ (c_X0_greatest (l := kL K) (E := kE K)  _ hq2) (by rw [hKR]; exact ⟨rfl, rfl, ⟨by decide, by decide⟩, Nat.le_refl _, Nat.le_refl _⟩) rfl rfl (by simp [Value.category]) rfl dX1_placeOneShape_12 rfl ?_
  refine g_isub C dX1_placeOneShape_15 rfl ?_
  refine g_istore (i := 6) (lv' := [(6, .int ((3 : Int32) - q2)), (5, .int ((3 : Int32) - q1)), (0, .ref a), (1, .long shape), (3, .long within)]) C dX1_placeOneShape_16 rfl (by rw [hKN]; decide) rfl ?_
  refine g_iconst (v := 3) C (by decide) dX1_placeOneShape_18 rfl ?_
  refine g_lload_n C rfl (q := 3) rfl dX1_placeOneShape_19 rfl ?_
  refine g_iconst (v := 2) C (by decide) dX1_placeOneShape_20 rfl ?_
  obtain ⟨q3, hq3, hf⟩ := bd hf
  refine g_callS0 (st' := [.int (3 : Int32)]) (as := [.long shape, .int (2 : Int32)]) (st2 := [.int q3, .int (3 : Int32)]) (k := 2) C ⟨wm_RX1_101, ws_X0_greatest, wi_RX0, wk_X0_greatest, by decide +kernel⟩ (c_X0_greatest (l := kL K) (E := kE K)  _ hq3) (by rw [hKR]; exact ⟨rfl, rfl, ⟨by decide, by decide⟩, Nat.le_refl _, Nat.le_refl _⟩) rfl rfl (by simp [Value.category]) rfl dX1_placeOneShape_21 rfl ?_
  refine g_isub C dX1_placeOneShape_24 rfl ?_
  refine g_istore (i := 7) (lv' := [(7, .int ((3 : Int32) - q3)), (6, .int ((3 : Int32) - q2)), (5, .int ((3 : Int32) - q1)), (0, .ref a), (1, .long shape), (3, .long within)]) C dX1_placeOneShape_25 rfl (by rw [hKN]; decide) rfl ?_
  refine g_iconst (v := 0) C (by decide) dX1_placeOneShape_27 rfl ?_
  refine g_istore (i := 8) (lv' := [(8, .int (0 : Int32)), (7, .int ((3 : Int32) - q3)), (6, .int ((3 : Int32) - q2)), (5, .int ((3 : Int32) - q1)), (0, .ref a), (1, .long shape), (3, .long within)]) C dX1_placeOneShape_28 rfl (by rw [hKN]; decide) rfl ?_
  refine g_iconst (v := 0) C (by decide) dX1_placeOneShape_30 rfl ?_
  refine g_istore (i := 9) (lv' := [(9, .int (0 : Int32)), (8, .int (0 : Int32)), (7, .int ((3 : Int32) - q3)), (6, .int ((3 : Int32) - q2)), (5, .int ((3 : Int32) - q1)), (0, .ref a), (1, .long shape), (3, .long within)]) C dX1_placeOneShape_31 rfl (by rw [hKN]; decide) rfl ?_
  refine g_sub (lv' := [(0, .ref a), (1, .long shape), (3, .long within), (5, .int ((3 : Int32) - q1)), (6, .int ((3 : Int32) - q2)), (7, .int ((3 : Int32) - q3)), (8, .int (0 : Int32)), (9, .int (0 : Int32))]) [5, 6, 7, 4, 3, 2, 1, 0] rfl ?_
  obtain ⟨q109, hq109, hf⟩ := bd hf
  refine g_X1_placeOneShape_33 (l1 := shape) (l3 := within) (l5 := (3 : Int32) - q1) (l6 := (3 : Int32) - q2) (l7 := (3 : Int32) - q3) (ss := ss) (ps := ps) (hv := hv) (cu := cu) (mm := mm) (sk := sk) (pk := pk) (kw := kw) (sc := sc) (pn := pn) C hKR hKN _ _ _ _ _ hq109 ?_
  refine g_iload C (q := 0) rfl dX1_placeOneShape_120 rfl ?_
  obtain rfl := Option.some.inj hf
  exact g_iret C hKQ dX1_placeOneShape_122
def f_X1_mergeIn_42  (oo : Nat → Int64) : Nat → Int32 → Int32 → Int32 → (Nat → Int64) → Option (Nat → Int64)
  | 0, _, _, _, _ => none
  | fu + 1, l2, l3, l4, ps => (if l4 < 0 then some ps else (if l3 < 0 then some ps else (if l2 < 0 then (if inB l3 64 = true then (if inB l4 896 = true then f_X1_mergeIn_42 oo fu l2 (l3 + (-1 : Int32)) (l4 + (-1 : Int32)) (va_up ps l4.toNatClampNeg (oo l3.toNatClampNeg)) else none) else none) else (if inB l3 64 = true then (if inB l2 896 = true then ((f_X0_isBelow (oo l3.toNatClampNeg) (ps l2.toNatClampNeg)).bind fun q35 => (if q35 = 0 then (if inB l3 64 = true then (if inB l4 896 = true then f_X1_mergeIn_42 oo fu l2 (l3 + (-1 : Int32)) (l4 + (-1 : Int32)) (va_up ps l4.toNatClampNeg (oo l3.toNatClampNeg)) else none) else none) else (if inB l2 896 = true then (if inB l4 896 = true then f_X1_mergeIn_42 oo fu (l2 + (-1 : Int32)) l3 (l4 + (-1 : Int32)) (va_up ps l4.toNatClampNeg (ps l2.toNatClampNeg)) else none) else none))) else none) else none))))
def f_X1_mergeIn (fu : Nat) (ps : Nat → Int64) (oo : Nat → Int64) (pn : Int32) (count : Int32) : Option ((Nat → Int64) × Int32) := (if (pn + count) ≤ (896 : Int32) then ((f_X1_mergeIn_42 oo fu (pn - (1 : Int32)) (count - (1 : Int32)) ((pn + count) - (1 : Int32)) ps).bind fun q41 => some (q41, pn + count)) else some (ps, pn))
set_option maxHeartbeats 2000000 in
set_option maxRecDepth 20000 in
theorem g_X1_mergeIn_42 {K : KX} {n : Nat} {σ : AH} {a : Nat}  {ss : Nat → Int64} {hv : Nat → Int64} {oo : Nat → Int64} {cu : Int64} {mm : Int32} {sk : Int32} {pk : Int32} {kw : Int64} {sc : Int32} {pn : Int32} (C : Cx K RX1 "mergeIn" cX1_mergeIn none) (hKR : kR K = ({ frames := 1, cells := 0, slots := 0, locals := 23 } : Room)) (hKN : kN K = 5) : ∀ (fu : Nat) (l2 : Int32) (l3 : Int32) (l4 : Int32) (ps : Nat → Int64) (res : (Nat → Int64)), f_X1_mergeIn_42 oo fu l2 l3 l4 ps = some res → G K 0 0 114 [] [] (wPc σ a ss res hv oo cu mm sk pk kw sc pn) n → G K 0 0 42 [(0, .ref a), (2, .int l2), (3, .int l3), (4, .int l4)] [] (wPc σ a ss ps hv oo cu mm sk pk kw sc pn) n := by
  intro fu
  induction fu with
  | zero =>
    intro l2 l3 l4 ps res hf
    exact absurd hf (by simp [f_X1_mergeIn_42])
  | succ fu ih =>
    intro l2 l3 l4 ps res hf hx
    rw [f_X1_mergeIn_42] at hf
    refine g_iload C (q := 3) rfl dX1_mergeIn_42 rfl ?_
    refine g_if_lt (tgt := 114) C dX1_mergeIn_44 (by decide) rfl (fun c28 => ?_) (fun c28 => ?_)
    · replace hf := ift c28 hf
      obtain rfl := Option.some.inj hf
      refine g_sub (lv' := []) [] rfl ?_
      exact hx
    · replace hf := iff' c28 hf
      refine g_iload_n C rfl (q := 2) rfl dX1_mergeIn_47 rfl ?_
      refine g_if_lt (tgt := 114) C dX1_mergeIn_48 (by decide) rfl (fun c29 => ?_) (fun c29 => ?_)
      · replace hf := ift c29 hf
        obtain rfl := Option.some.inj hf
        refine g_sub (lv' := []) [] rfl ?_
        exact hx
      · replace hf := iff' c29 hf
        refine g_iload_n C rfl (q := 1) rfl dX1_mergeIn_51 rfl ?_
        refine g_if_lt (tgt := 92) C dX1_mergeIn_52 (by decide) rfl (fun c30 => ?_) (fun c30 => ?_)
        · replace hf := ift c30 hf
          refine g_aload_n C rfl (q := 0) rfl dX1_mergeIn_92 rfl ?_
          refine g_get C fc_X1 1 (by decide) wf_RX1_15 (wL_at0 rfl) rfl dX1_mergeIn_93 rfl ?_
          refine g_iload C (q := 3) rfl dX1_mergeIn_96 rfl ?_
          refine g_aload_n C rfl (q := 0) rfl dX1_mergeIn_98 rfl ?_
          refine g_get C fc_X1 3 (by decide) wf_RX1_21 (wL_at0 rfl) rfl dX1_mergeIn_99 rfl ?_
          refine g_iload_n C rfl (q := 2) rfl dX1_mergeIn_102 rfl ?_
          obtain ⟨g31, hf⟩ := gd hf
          refine g_lald C (wL_at 4 rfl) (inB_in g31) dX1_mergeIn_103 rfl ?_
          obtain ⟨g32, hf⟩ := gd hf
          refine g_last (h' := (wPc σ a ss (va_up ps l4.toNatClampNeg (oo l3.toNatClampNeg)) hv oo cu mm sk pk kw sc pn)) C (wL_at 2 rfl) (inB_in g32) (wL_up 2 (Nat.le_of_ble_eq_true rfl) rfl) dX1_mergeIn_104 rfl ?_
          refine g_iinc (v := l3 + (-1 : Int32)) (lv' := [(3, .int (l3 + (-1 : Int32))), (0, .ref a), (2, .int l2), (4, .int l4)]) (q := 2) C dX1_mergeIn_105 rfl rfl rfl (by rw [hKN]; decide) rfl ?_
          refine g_iinc (v := l4 + (-1 : Int32)) (lv' := [(4, .int (l4 + (-1 : Int32))), (3, .int (l3 + (-1 : Int32))), (0, .ref a), (2, .int l2)]) (q := 3) C dX1_mergeIn_108 rfl rfl rfl (by rw [hKN]; decide) rfl ?_
          refine g_goto (pc' := 42) C dX1_mergeIn_111 (by decide) ?_
          refine g_sub (lv' := [(0, .ref a), (2, .int l2), (3, .int (l3 + (-1 : Int32))), (4, .int (l4 + (-1 : Int32)))]) [2, 3, 1, 0] rfl ?_
          exact ih _ _ _ _ _ hf hx
        · replace hf := iff' c30 hf
          refine g_aload_n C rfl (q := 0) rfl dX1_mergeIn_55 rfl ?_
          refine g_get C fc_X1 3 (by decide) wf_RX1_21 (wL_at0 rfl) rfl dX1_mergeIn_56 rfl ?_
          refine g_iload_n C rfl (q := 2) rfl dX1_mergeIn_59 rfl ?_
          obtain ⟨g33, hf⟩ := gd hf
          refine g_lald C (wL_at 4 rfl) (inB_in g33) dX1_mergeIn_60 rfl ?_
          refine g_aload_n C rfl (q := 0) rfl dX1_mergeIn_61 rfl ?_
          refine g_get C fc_X1 1 (by decide) wf_RX1_15 (wL_at0 rfl) rfl dX1_mergeIn_62 rfl ?_
          refine g_iload_n C rfl (q := 1) rfl dX1_mergeIn_65 rfl ?_
          obtain ⟨g34, hf⟩ := gd hf
          refine g_lald C (wL_at 2 rfl) (inB_in g34) dX1_mergeIn_66 rfl ?_
          obtain ⟨q35, hq35, hf⟩ := bd hf
          refine g_callS0 (st' := []) (as := [.long (oo l3.toNatClampNeg), .long (ps l2.toNatClampNeg)]) (st2 := [.int q35]) (k := 2) C ⟨wm_RX1_97, ws_X0_isBelow, wi_RX0, wk_X0_isBelow, by decide +kernel⟩ (c_X0_isBelow (l := kL K) (E := kE K)  _ hq35) (by rw [hKR]; exact ⟨rfl, rfl, ⟨by decide, by decide⟩, Nat.le_refl _, Nat.le_refl _⟩) rfl rfl (by simp) rfl dX1_mergeIn_67 rfl ?_
          refine g_if_eq (tgt := 92) C dX1_mergeIn_70 (by decide) rfl (fun c36 => ?_) (fun c36 => ?_)
          · replace hf := ift c36 hf
            refine g_aload_n C rfl (q := 0) rfl dX1_mergeIn_92 rfl ?_
            refine g_get C fc_X1 1 (by decide) wf_RX1_15 (wL_at0 rfl) rfl dX1_mergeIn_93 rfl ?_
            refine g_iload C (q := 3) rfl dX1_mergeIn_96 rfl ?_
            refine g_aload_n C rfl (q := 0) rfl dX1_mergeIn_98 rfl ?_
            refine g_get C fc_X1 3 (by decide) wf_RX1_21 (wL_at0 rfl) rfl dX1_mergeIn_99 rfl ?_
            refine g_iload_n C rfl (q := 2) rfl dX1_mergeIn_102 rfl ?_
            obtain ⟨g37, hf⟩ := gd hf
            refine g_lald C (wL_at 4 rfl) (inB_in g37) dX1_mergeIn_103 rfl ?_
            obtain ⟨g38, hf⟩ := gd hf
            refine g_last (h' := (wPc σ a ss (va_up ps l4.toNatClampNeg (oo l3.toNatClampNeg)) hv oo cu mm sk pk kw sc pn)) C (wL_at 2 rfl) (inB_in g38) (wL_up 2 (Nat.le_of_ble_eq_true rfl) rfl) dX1_mergeIn_104 rfl ?_
            refine g_iinc (v := l3 + (-1 : Int32)) (lv' := [(3, .int (l3 + (-1 : Int32))), (0, .ref a), (2, .int l2), (4, .int l4)]) (q := 2) C dX1_mergeIn_105 rfl rfl rfl (by rw [hKN]; decide) rfl ?_
            refine g_iinc (v := l4 + (-1 : Int32)) (lv' := [(4, .int (l4 + (-1 : Int32))), (3, .int (l3 + (-1 : Int32))), (0, .ref a), (2, .int l2)]) (q := 3) C dX1_mergeIn_108 rfl rfl rfl (by rw [hKN]; decide) rfl ?_
            refine g_goto (pc' := 42) C dX1_mergeIn_111 (by decide) ?_
            refine g_sub (lv' := [(0, .ref a), (2, .int l2), (3, .int (l3 + (-1 : Int32))), (4, .int (l4 + (-1 : Int32)))]) [2, 3, 1, 0] rfl ?_
            exact ih _ _ _ _ _ hf hx
          · replace hf := iff' c36 hf
            refine g_aload_n C rfl (q := 0) rfl dX1_mergeIn_73 rfl ?_
            refine g_get C fc_X1 1 (by decide) wf_RX1_15 (wL_at0 rfl) rfl dX1_mergeIn_74 rfl ?_
            refine g_iload C (q := 3) rfl dX1_mergeIn_77 rfl ?_
            refine g_aload_n C rfl (q := 0) rfl dX1_mergeIn_79 rfl ?_
            refine g_get C fc_X1 1 (by decide) wf_RX1_15 (wL_at0 rfl) rfl dX1_mergeIn_80 rfl ?_
            refine g_iload_n C rfl (q := 1) rfl dX1_mergeIn_83 rfl ?_
            obtain ⟨g39, hf⟩ := gd hf
            refine g_lald C (wL_at 2 rfl) (inB_in g39) dX1_mergeIn_84 rfl ?_
            obtain ⟨g40, hf⟩ := gd hf
            refine g_last (h' := (wPc σ a ss (va_up ps l4.toNatClampNeg (ps l2.toNatClampNeg)) hv oo cu mm sk pk kw sc pn)) C (wL_at 2 rfl) (inB_in g40) (wL_up 2 (Nat.le_of_ble_eq_true rfl) rfl) dX1_mergeIn_85 rfl ?_
            refine g_iinc (v := l2 + (-1 : Int32)) (lv' := [(2, .int (l2 + (-1 : Int32))), (0, .ref a), (3, .int l3), (4, .int l4)]) (q := 1) C dX1_mergeIn_86 rfl rfl rfl (by rw [hKN]; decide) rfl ?_
            refine g_goto (pc' := 108) C dX1_mergeIn_89 (by decide) ?_
            refine g_iinc (v := l4 + (-1 : Int32)) (lv' := [(4, .int (l4 + (-1 : Int32))), (2, .int (l2 + (-1 : Int32))), (0, .ref a), (3, .int l3)]) (q := 3) C dX1_mergeIn_108 rfl rfl rfl (by rw [hKN]; decide) rfl ?_
            refine g_goto (pc' := 42) C dX1_mergeIn_111 (by decide) ?_
            refine g_sub (lv' := [(0, .ref a), (2, .int (l2 + (-1 : Int32))), (3, .int l3), (4, .int (l4 + (-1 : Int32)))]) [2, 1, 3, 0] rfl ?_
            exact ih _ _ _ _ _ hf hx
set_option maxHeartbeats 2000000 in
set_option maxRecDepth 20000 in
theorem c_X1_mergeIn {l : Launch} {E : Ex} {n : Nat} {σ : AH} {a : Nat}  {ss : Nat → Int64} {ps : Nat → Int64} {hv : Nat → Int64} {oo : Nat → Int64} {cu : Int64} {mm : Int32} {sk : Int32} {pk : Int32} {kw : Int64} {sc : Int32} {pn : Int32} {count : Int32} {fu : Nat} (res : ((Nat → Int64) × Int32)) (hf : f_X1_mergeIn fu ps oo pn count = some res) : Con l E yX1_mergeIn (.code yX1_mergeIn cX1_mergeIn 5 none :: TT) ({ frames := 1, cells := 0, slots := 0, locals := 23 } : Room) 0 0 [.ref a, .int count] (wPc σ a ss ps hv oo cu mm sk pk kw sc pn) n none (wPc σ a ss res.1 hv oo cu mm sk pk kw sc res.2) n := by
  refine con_intro (by decide +kernel) (Nat.le_of_ble_eq_true rfl) ?_
  intro K C hKR hKL hKE hKN hKQ
  subst hKL
  subst hKE
  have C : Cx K RX1 "mergeIn" cX1_mergeIn none := C
  show G K 0 0 0 [(0, .ref a), (1, .int count)] [] (wPc σ a ss ps hv oo cu mm sk pk kw sc pn) n
  unfold f_X1_mergeIn at hf
  refine g_aload_n C rfl (q := 0) rfl dX1_mergeIn_0 rfl ?_
  refine g_get C fc_X1 10 (by decide) wf_RX1_52 (wL_at0 rfl) rfl dX1_mergeIn_1 rfl ?_
  refine g_iload_n C rfl (q := 1) rfl dX1_mergeIn_4 rfl ?_
  refine g_iadd C dX1_mergeIn_5 rfl ?_
  refine g_sipush (v := 896) C (by decide) dX1_mergeIn_6 rfl ?_
  refine g_icmp_le (tgt := 13) C dX1_mergeIn_9 (by decide) rfl (fun c1 => ?_) (fun c1 => ?_)
  · replace hf := ift c1 hf
    refine g_aload_n C rfl (q := 0) rfl dX1_mergeIn_13 rfl ?_
    refine g_get C fc_X1 10 (by decide) wf_RX1_52 (wL_at0 rfl) rfl dX1_mergeIn_14 rfl ?_
    refine g_iconst (v := 1) C (by decide) dX1_mergeIn_17 rfl ?_
    refine g_isub C dX1_mergeIn_18 rfl ?_
    refine g_istore_n (i := 2) (lv' := [(2, .int (pn - (1 : Int32))), (0, .ref a), (1, .int count)]) C dX1_mergeIn_19 rfl rfl (by rw [hKN]; decide) rfl ?_
    refine g_iload_n C rfl (q := 2) rfl dX1_mergeIn_20 rfl ?_
    refine g_iconst (v := 1) C (by decide) dX1_mergeIn_21 rfl ?_
    refine g_isub C dX1_mergeIn_22 rfl ?_
    refine g_istore_n (i := 3) (lv' := [(3, .int (count - (1 : Int32))), (2, .int (pn - (1 : Int32))), (0, .ref a), (1, .int count)]) C dX1_mergeIn_23 rfl rfl (by rw [hKN]; decide) rfl ?_
    refine g_aload_n C rfl (q := 2) rfl dX1_mergeIn_24 rfl ?_
    refine g_dup C rfl dX1_mergeIn_25 rfl ?_
    refine g_get C fc_X1 10 (by decide) wf_RX1_52 (wL_at0 rfl) rfl dX1_mergeIn_26 rfl ?_
    refine g_iload_n C rfl (q := 3) rfl dX1_mergeIn_29 rfl ?_
    refine g_iadd C dX1_mergeIn_30 rfl ?_
    refine g_put (h' := (wPc σ a ss ps hv oo cu mm sk pk kw sc (pn + count))) C fc_X1 10 (by decide) wf_RX1_52 rfl rfl rfl (Nat.le_of_ble_eq_true rfl) (wL_at0 rfl) (wL_up0 (Nat.le_of_ble_eq_true rfl) rfl) dX1_mergeIn_31 rfl ?_
    refine g_aload_n C rfl (q := 2) rfl dX1_mergeIn_34 rfl ?_
    refine g_get C fc_X1 10 (by decide) wf_RX1_52 (wL_at0 rfl) rfl dX1_mergeIn_35 rfl ?_
    refine g_iconst (v := 1) C (by decide) dX1_mergeIn_38 rfl ?_
    refine g_isub C dX1_mergeIn_39 rfl ?_
    refine g_istore (i := 4) (lv' := [(4, .int ((pn + count) - (1 : Int32))), (3, .int (count - (1 : Int32))), (2, .int (pn - (1 : Int32))), (0, .ref a), (1, .int count)]) C dX1_mergeIn_40 rfl (by rw [hKN]; decide) rfl ?_
    refine g_sub (lv' := [(0, .ref a), (2, .int (pn - (1 : Int32))), (3, .int (count - (1 : Int32))), (4, .int ((pn + count) - (1 : Int32)))]) [3, 2, 1, 0] rfl ?_
    obtain ⟨q41, hq41, hf⟩ := bd hf
    refine g_X1_mergeIn_42 (ss := ss) (hv := hv) (oo := oo) (cu := cu) (mm := mm) (sk := sk) (pk := pk) (kw := kw) (sc := sc) (pn := pn + count) C hKR hKN _ _ _ _ _ _ hq41 ?_
    obtain rfl := Option.some.inj hf
    exact g_vret C hKQ dX1_mergeIn_114
  · replace hf := iff' c1 hf
    obtain rfl := Option.some.inj hf
    exact g_vret C hKQ dX1_mergeIn_12
def f_X1_indexPlaces_52  (l2 : Int32) (l3 : Int64) : Nat → Int64 → (Nat → Int64) → Option (Nat → Int64)
  | 0, _, _ => none
  | fu + 1, l5, hv => (if l5 = (0 : Int64) then some hv else ((f_X0_lowest l5).bind fun q49 => (if inB ((q49 * (14 : Int32)) + l2) 910 = true then (if inB ((q49 * (14 : Int32)) + l2) 910 = true then f_X1_indexPlaces_52 l2 l3 fu (l5 &&& (l5 - (1 : Int64))) (va_up hv ((q49 * (14 : Int32)) + l2).toNatClampNeg ((hv ((q49 * (14 : Int32)) + l2).toNatClampNeg) ||| l3)) else none) else none)))
def f_X1_indexPlaces_10  (ps : Nat → Int64) (pn : Int32) : Nat → Int32 → (Nat → Int64) → Option (Nat → Int64)
  | 0, _, _ => none
  | fu + 1, l1, hv => (if pn ≤ l1 then some hv else (if inB ((896 : Int32) + (l1 / (64 : Int32))) 910 = true then (if inB ((896 : Int32) + (l1 / (64 : Int32))) 910 = true then (if inB l1 896 = true then ((f_X1_indexPlaces_52 (l1 / (64 : Int32)) ((1 : Int64) <<< ((l1 - l1 / (64 : Int32) * (64 : Int32)).toInt64 &&& 63)) fu (ps l1.toNatClampNeg) (va_up hv ((896 : Int32) + (l1 / (64 : Int32))).toNatClampNeg ((hv ((896 : Int32) + (l1 / (64 : Int32))).toNatClampNeg) ||| ((1 : Int64) <<< ((l1 - l1 / (64 : Int32) * (64 : Int32)).toInt64 &&& 63))))).bind fun q52 => f_X1_indexPlaces_10 ps pn fu (l1 + (1 : Int32)) q52) else none) else none) else none))
def f_X1_indexPlaces (fu : Nat) (ps : Nat → Int64) (hv : Nat → Int64) (pn : Int32) : Option (Nat → Int64) := ((f_J7_fill_d0a16 fu 910 hv (0 : Int64)).bind fun q1 => ((f_X1_indexPlaces_10 ps pn fu (0 : Int32) q1).bind fun q53 => some q53))
set_option maxHeartbeats 2000000 in
set_option maxRecDepth 20000 in
theorem g_X1_indexPlaces_52 {K : KX} {n : Nat} {σ : AH} {a : Nat}  {l1 : Int32} {l2 : Int32} {l3 : Int64} {ss : Nat → Int64} {ps : Nat → Int64} {oo : Nat → Int64} {cu : Int64} {mm : Int32} {sk : Int32} {pk : Int32} {kw : Int64} {sc : Int32} {pn : Int32} (C : Cx K RX1 "indexPlaces" cX1_indexPlaces none) (hKR : kR K = ({ frames := 2, cells := 0, slots := 0, locals := 42 } : Room)) (hKN : kN K = 7) : ∀ (fu : Nat) (l5 : Int64) (hv : Nat → Int64) (res : (Nat → Int64)), f_X1_indexPlaces_52 l2 l3 fu l5 hv = some res → G K 0 0 90 [(0, .ref a), (1, .int l1)] [] (wPc σ a ss ps res oo cu mm sk pk kw sc pn) n → G K 0 0 52 [(0, .ref a), (1, .int l1), (2, .int l2), (3, .long l3), (5, .long l5)] [] (wPc σ a ss ps hv oo cu mm sk pk kw sc pn) n := by
  intro fu
  induction fu with
  | zero =>
    intro l5 hv res hf
    exact absurd hf (by simp [f_X1_indexPlaces_52])
  | succ fu ih =>
    intro l5 hv res hf hx
    rw [f_X1_indexPlaces_52] at hf
    refine g_lload C (q := 4) rfl dX1_indexPlaces_52 rfl ?_
    refine g_lconst (v := 0) C (by decide) dX1_indexPlaces_54 rfl ?_
    refine g_lif_eq (tgt := 90) C dX1_indexPlaces_55 rfl dX1_indexPlaces_56 (by decide) rfl (fun c48 => ?_) (fun c48 => ?_)
    · replace hf := ift c48 hf
      obtain rfl := Option.some.inj hf
      refine g_sub (lv' := [(0, .ref a), (1, .int l1)]) [0, 1] rfl ?_
      exact hx
    · replace hf := iff' c48 hf
      refine g_aload_n C rfl (q := 0) rfl dX1_indexPlaces_59 rfl ?_
      refine g_get C fc_X1 2 (by decide) wf_RX1_18 (wL_at0 rfl) rfl dX1_indexPlaces_60 rfl ?_
      refine g_lload C (q := 4) rfl dX1_indexPlaces_63 rfl ?_
      obtain ⟨q49, hq49, hf⟩ := bd hf
      refine g_callS0 (st' := [.ref (a + 3)]) (as := [.long l5]) (st2 := [.int q49, .ref (a + 3)]) (k := 1) C ⟨wm_RX1_113, ws_X0_lowest, wi_RX0, wk_X0_lowest, by decide +kernel⟩ (c_X0_lowest (l := kL K) (E := kE K)  _ hq49) (by rw [hKR]; exact ⟨rfl, rfl, ⟨by decide, by decide⟩, Nat.le_refl _, Nat.le_refl _⟩) rfl rfl (by simp [Value.category]) rfl dX1_indexPlaces_65 rfl ?_
      refine g_bipush (v := 14) C (by decide) dX1_indexPlaces_68 rfl ?_
      refine g_imul C dX1_indexPlaces_70 rfl ?_
      refine g_iload_n C rfl (q := 2) rfl dX1_indexPlaces_71 rfl ?_
      refine g_iadd C dX1_indexPlaces_72 rfl ?_
      refine g_dup2 C rfl rfl dX1_indexPlaces_73 rfl ?_
      obtain ⟨g50, hf⟩ := gd hf
      refine g_lald C (wL_at 3 rfl) (inB_in g50) dX1_indexPlaces_74 rfl ?_
      refine g_lload_n C rfl (q := 3) rfl dX1_indexPlaces_75 rfl ?_
      refine g_lor C dX1_indexPlaces_76 rfl ?_
      obtain ⟨g51, hf⟩ := gd hf
      refine g_last (h' := (wPc σ a ss ps (va_up hv ((q49 * (14 : Int32)) + l2).toNatClampNeg ((hv ((q49 * (14 : Int32)) + l2).toNatClampNeg) ||| l3)) oo cu mm sk pk kw sc pn)) C (wL_at 3 rfl) (inB_in g51) (wL_up 3 (Nat.le_of_ble_eq_true rfl) rfl) dX1_indexPlaces_77 rfl ?_
      refine g_lload C (q := 4) rfl dX1_indexPlaces_78 rfl ?_
      refine g_lload C (q := 4) rfl dX1_indexPlaces_80 rfl ?_
      refine g_lconst (v := 1) C (by decide) dX1_indexPlaces_82 rfl ?_
      refine g_lsub C dX1_indexPlaces_83 rfl ?_
      refine g_land C dX1_indexPlaces_84 rfl ?_
      refine g_lstore (i := 5) (lv' := [(5, .long (l5 &&& (l5 - (1 : Int64)))), (0, .ref a), (1, .int l1), (2, .int l2), (3, .long l3)]) C dX1_indexPlaces_85 rfl (by rw [hKN]; decide) rfl ?_
      refine g_goto (pc' := 52) C dX1_indexPlaces_87 (by decide) ?_
      refine g_sub (lv' := [(0, .ref a), (1, .int l1), (2, .int l2), (3, .long l3), (5, .long (l5 &&& (l5 - (1 : Int64))))]) [1, 2, 3, 4, 0] rfl ?_
      exact ih _ _ _ hf hx
set_option maxHeartbeats 2000000 in
set_option maxRecDepth 20000 in
theorem g_X1_indexPlaces_10 {K : KX} {n : Nat} {σ : AH} {a : Nat}  {ss : Nat → Int64} {ps : Nat → Int64} {oo : Nat → Int64} {cu : Int64} {mm : Int32} {sk : Int32} {pk : Int32} {kw : Int64} {sc : Int32} {pn : Int32} (C : Cx K RX1 "indexPlaces" cX1_indexPlaces none) (hKR : kR K = ({ frames := 2, cells := 0, slots := 0, locals := 42 } : Room)) (hKN : kN K = 7) : ∀ (fu : Nat) (l1 : Int32) (hv : Nat → Int64) (res : (Nat → Int64)), f_X1_indexPlaces_10 ps pn fu l1 hv = some res → G K 0 0 96 [] [] (wPc σ a ss ps res oo cu mm sk pk kw sc pn) n → G K 0 0 10 [(0, .ref a), (1, .int l1)] [] (wPc σ a ss ps hv oo cu mm sk pk kw sc pn) n := by
  intro fu
  induction fu with
  | zero =>
    intro l1 hv res hf
    exact absurd hf (by simp [f_X1_indexPlaces_10])
  | succ fu ih =>
    intro l1 hv res hf hx
    rw [f_X1_indexPlaces_10] at hf
    refine g_iload_n C rfl (q := 1) rfl dX1_indexPlaces_10 rfl ?_
    refine g_aload_n C rfl (q := 0) rfl dX1_indexPlaces_11 rfl ?_
    refine g_get C fc_X1 10 (by decide) wf_RX1_52 (wL_at0 rfl) rfl dX1_indexPlaces_12 rfl ?_
    refine g_icmp_ge (tgt := 96) C dX1_indexPlaces_15 (by decide) rfl (fun c36 => ?_) (fun c36 => ?_)
    · replace hf := ift c36 hf
      obtain rfl := Option.some.inj hf
      refine g_sub (lv' := []) [] rfl ?_
      exact hx
    · replace hf := iff' c36 hf
      refine g_iload_n C rfl (q := 1) rfl dX1_indexPlaces_18 rfl ?_
      refine g_bipush (v := 64) C (by decide) dX1_indexPlaces_19 rfl ?_
      refine g_idiv C (by decide) dX1_indexPlaces_21 rfl ?_
      refine g_istore_n (i := 2) (lv' := [(2, .int (l1 / (64 : Int32))), (0, .ref a), (1, .int l1)]) C dX1_indexPlaces_22 rfl rfl (by rw [hKN]; decide) rfl ?_
      refine g_lconst (v := 1) C (by decide) dX1_indexPlaces_23 rfl ?_
      refine g_iload_n C rfl (q := 2) rfl dX1_indexPlaces_24 rfl ?_
      refine g_bipush (v := 64) C (by decide) dX1_indexPlaces_25 rfl ?_
      refine g_irem C (by decide) dX1_indexPlaces_27 rfl ?_
      refine g_lshl C dX1_indexPlaces_28 rfl ?_
      refine g_lstore_n (i := 3) (lv' := [(3, .long ((1 : Int64) <<< ((l1 - l1 / (64 : Int32) * (64 : Int32)).toInt64 &&& 63))), (2, .int (l1 / (64 : Int32))), (0, .ref a), (1, .int l1)]) C dX1_indexPlaces_29 rfl rfl (by rw [hKN]; decide) rfl ?_
      refine g_aload_n C rfl (q := 2) rfl dX1_indexPlaces_30 rfl ?_
      refine g_get C fc_X1 2 (by decide) wf_RX1_18 (wL_at0 rfl) rfl dX1_indexPlaces_31 rfl ?_
      refine g_sipush (v := 896) C (by decide) dX1_indexPlaces_34 rfl ?_
      refine g_iload_n C rfl (q := 1) rfl dX1_indexPlaces_37 rfl ?_
      refine g_iadd C dX1_indexPlaces_38 rfl ?_
      refine g_dup2 C rfl rfl dX1_indexPlaces_39 rfl ?_
      obtain ⟨g37, hf⟩ := gd hf
      refine g_lald C (wL_at 3 rfl) (inB_in g37) dX1_indexPlaces_40 rfl ?_
      refine g_lload_n C rfl (q := 0) rfl dX1_indexPlaces_41 rfl ?_
      refine g_lor C dX1_indexPlaces_42 rfl ?_
      obtain ⟨g38, hf⟩ := gd hf
      refine g_last (h' := (wPc σ a ss ps (va_up hv ((896 : Int32) + (l1 / (64 : Int32))).toNatClampNeg ((hv ((896 : Int32) + (l1 / (64 : Int32))).toNatClampNeg) ||| ((1 : Int64) <<< ((l1 - l1 / (64 : Int32) * (64 : Int32)).toInt64 &&& 63)))) oo cu mm sk pk kw sc pn)) C (wL_at 3 rfl) (inB_in g38) (wL_up 3 (Nat.le_of_ble_eq_true rfl) rfl) dX1_indexPlaces_43 rfl ?_
      refine g_aload_n C rfl (q := 2) rfl dX1_indexPlaces_44 rfl ?_
      refine g_get C fc_X1 1 (by decide) wf_RX1_15 (wL_at0 rfl) rfl dX1_indexPlaces_45 rfl ?_
      refine g_iload_n C rfl (q := 3) rfl dX1_indexPlaces_48 rfl ?_
      obtain ⟨g39, hf⟩ := gd hf
      refine g_lald C (wL_at 2 rfl) (inB_in g39) dX1_indexPlaces_49 rfl ?_
      refine g_lstore (i := 5) (lv' := [(5, .long (ps l1.toNatClampNeg)), (3, .long ((1 : Int64) <<< ((l1 - l1 / (64 : Int32) * (64 : Int32)).toInt64 &&& 63))), (2, .int (l1 / (64 : Int32))), (0, .ref a), (1, .int l1)]) C dX1_indexPlaces_50 rfl (by rw [hKN]; decide) rfl ?_
      refine g_sub (lv' := [(0, .ref a), (1, .int l1), (2, .int (l1 / (64 : Int32))), (3, .long ((1 : Int64) <<< ((l1 - l1 / (64 : Int32) * (64 : Int32)).toInt64 &&& 63))), (5, .long (ps l1.toNatClampNeg))]) [3, 4, 2, 1, 0] rfl ?_
      obtain ⟨q52, hq52, hf⟩ := bd hf
      refine g_X1_indexPlaces_52 (l1 := l1) (l2 := l1 / (64 : Int32)) (l3 := (1 : Int64) <<< ((l1 - l1 / (64 : Int32) * (64 : Int32)).toInt64 &&& 63)) (ss := ss) (ps := ps) (oo := oo) (cu := cu) (mm := mm) (sk := sk) (pk := pk) (kw := kw) (sc := sc) (pn := pn) C hKR hKN _ _ _ _ hq52 ?_
      refine g_iinc (v := l1 + (1 : Int32)) (lv' := [(1, .int (l1 + (1 : Int32))), (0, .ref a)]) (q := 1) C dX1_indexPlaces_90 rfl rfl rfl (by rw [hKN]; decide) rfl ?_
      refine g_goto (pc' := 10) C dX1_indexPlaces_93 (by decide) ?_
      refine g_sub (lv' := [(0, .ref a), (1, .int (l1 + (1 : Int32)))]) [1, 0] rfl ?_
      exact ih _ _ _ hf hx
set_option maxHeartbeats 2000000 in
set_option maxRecDepth 20000 in
theorem c_X1_indexPlaces {l : Launch} {E : Ex} {n : Nat} {σ : AH} {a : Nat}  {ss : Nat → Int64} {ps : Nat → Int64} {hv : Nat → Int64} {oo : Nat → Int64} {cu : Int64} {mm : Int32} {sk : Int32} {pk : Int32} {kw : Int64} {sc : Int32} {pn : Int32}  {fu : Nat} (res : (Nat → Int64)) (hf : f_X1_indexPlaces fu ps hv pn = some res) : Con l E yX1_indexPlaces (.code yX1_indexPlaces cX1_indexPlaces 7 none :: TT) ({ frames := 2, cells := 0, slots := 0, locals := 42 } : Room) 0 0 [.ref a] (wPc σ a ss ps hv oo cu mm sk pk kw sc pn) n none (wPc σ a ss ps res oo cu mm sk pk kw sc pn) n := by
  refine con_intro (by decide +kernel) (Nat.le_of_ble_eq_true rfl) ?_
  intro K C hKR hKL hKE hKN hKQ
  subst hKL
  subst hKE
  have C : Cx K RX1 "indexPlaces" cX1_indexPlaces none := C
  show G K 0 0 0 [(0, .ref a)] [] (wPc σ a ss ps hv oo cu mm sk pk kw sc pn) n
  unfold f_X1_indexPlaces at hf
  refine g_aload_n C rfl (q := 0) rfl dX1_indexPlaces_0 rfl ?_
  refine g_get C fc_X1 2 (by decide) wf_RX1_18 (wL_at0 rfl) rfl dX1_indexPlaces_1 rfl ?_
  refine g_lconst (v := 0) C (by decide) dX1_indexPlaces_4 rfl ?_
  obtain ⟨q1, hq1, hf⟩ := bd hf
  refine g_heap (wA_self (z := 910) (wL_at 3 rfl)) ?_
  refine g_callS0 (st' := []) (as := [.ref (a + 3), .long (0 : Int64)]) (st2 := []) (k := 2) C ⟨wm_RX1_107, ws_J7_fill_d0a16, wi_RJ7, wk_J7_fill_d0a16, by decide +kernel⟩ (c_J7_fill_d0a16 (l := kL K) (E := kE K) (σ := (wPc σ a ss ps hv oo cu mm sk pk kw sc pn)) (a := a + 3) (z := 910) _ hq1) (by rw [hKR]; exact ⟨rfl, rfl, ⟨by decide, by decide⟩, Nat.le_refl _, Nat.le_refl _⟩) rfl rfl (by simp) rfl dX1_indexPlaces_5 rfl ?_
  refine g_heap (h' := (wPc σ a ss ps q1 oo cu mm sk pk kw sc pn)) (wA_up (wL_up 3 (Nat.le_of_ble_eq_true rfl) rfl)) ?_
  refine g_iconst (v := 0) C (by decide) dX1_indexPlaces_8 rfl ?_
  refine g_istore_n (i := 1) (lv' := [(1, .int (0 : Int32)), (0, .ref a)]) C dX1_indexPlaces_9 rfl rfl (by rw [hKN]; decide) rfl ?_
  refine g_sub (lv' := [(0, .ref a), (1, .int (0 : Int32))]) [1, 0] rfl ?_
  obtain ⟨q53, hq53, hf⟩ := bd hf
  refine g_X1_indexPlaces_10 (ss := ss) (ps := ps) (oo := oo) (cu := cu) (mm := mm) (sk := sk) (pk := pk) (kw := kw) (sc := sc) (pn := pn) C hKR hKN _ _ _ _ hq53 ?_
  obtain rfl := Option.some.inj hf
  exact g_vret C hKQ dX1_indexPlaces_96
def f_X1_learnPlaces_28  (l1 : Int64) (ss : Nat → Int64) (sc : Int32) : Nat → Int32 → (Nat → Int64) → (Nat → Int64) → Int32 → Option ((Nat → Int64) × (Nat → Int64) × Int32)
  | 0, _, _, _, _ => none
  | fu + 1, l3, ps, oo, pn => (if sc ≤ l3 then some (ps, oo, pn) else (if inB l3 48 = true then ((f_X1_placeOneShape fu oo (ss l3.toNatClampNeg) l1).bind fun q13 => ((f_X1_mergeIn fu ps q13.2 pn q13.1).bind fun q14 => f_X1_learnPlaces_28 l1 ss sc fu (l3 + (1 : Int32)) q14.1 q13.2 q14.2)) else none))
def f_X1_learnPlaces (fu : Nat) (ss : Nat → Int64) (ps : Nat → Int64) (hv : Nat → Int64) (oo : Nat → Int64) (cu : Int64) (mm : Int32) (sk : Int32) (pk : Int32) (kw : Int64) (sc : Int32) (pn : Int32) (within : Int64) : Option ((Nat → Int64) × (Nat → Int64) × (Nat → Int64) × (Nat → Int64) × Int32 × Int32 × Int64 × Int32 × Int32) := ((f_X1_learnShapes fu ss cu mm sk sc).bind fun q1 => (if pk = 0 then ((f_X1_learnPlaces_28 within q1.1 q1.2.2 fu (0 : Int32) ps oo (0 : Int32)).bind fun q15 => ((f_X1_indexPlaces fu q15.1 hv q15.2.2).bind fun q16 => some (q1.1, q15.1, q16, q15.2.1, q1.2.1, (1 : Int32), within, q1.2.2, q15.2.2))) else (if kw = within then some (q1.1, ps, hv, oo, q1.2.1, pk, kw, q1.2.2, pn) else ((f_X1_learnPlaces_28 within q1.1 q1.2.2 fu (0 : Int32) ps oo (0 : Int32)).bind fun q18 => ((f_X1_indexPlaces fu q18.1 hv q18.2.2).bind fun q19 => some (q1.1, q18.1, q19, q18.2.1, q1.2.1, (1 : Int32), within, q1.2.2, q18.2.2))))))
set_option maxHeartbeats 2000000 in
set_option maxRecDepth 20000 in
theorem g_X1_learnPlaces_28 {K : KX} {n : Nat} {σ : AH} {a : Nat}  {l1 : Int64} {ss : Nat → Int64} {hv : Nat → Int64} {cu : Int64} {mm : Int32} {sk : Int32} {pk : Int32} {kw : Int64} {sc : Int32} (C : Cx K RX1 "learnPlaces" cX1_learnPlaces none) (hKR : kR K = ({ frames := 4, cells := 0, slots := 0, locals := 96 } : Room)) (hKN : kN K = 4) : ∀ (fu : Nat) (l3 : Int32) (ps : Nat → Int64) (oo : Nat → Int64) (pn : Int32) (res : ((Nat → Int64) × (Nat → Int64) × Int32)), f_X1_learnPlaces_28 l1 ss sc fu l3 ps oo pn = some res → G K 0 0 57 [(0, .ref a), (1, .long l1)] [] (wPc σ a ss res.1 hv res.2.1 cu mm sk pk kw sc res.2.2) n → G K 0 0 28 [(0, .ref a), (1, .long l1), (3, .int l3)] [] (wPc σ a ss ps hv oo cu mm sk pk kw sc pn) n := by
  intro fu
  induction fu with
  | zero =>
    intro l3 ps oo pn res hf
    exact absurd hf (by simp [f_X1_learnPlaces_28])
  | succ fu ih =>
    intro l3 ps oo pn res hf hx
    rw [f_X1_learnPlaces_28] at hf
    refine g_iload_n C rfl (q := 2) rfl dX1_learnPlaces_28 rfl ?_
    refine g_aload_n C rfl (q := 0) rfl dX1_learnPlaces_29 rfl ?_
    refine g_get C fc_X1 9 (by decide) wf_RX1_44 (wL_at0 rfl) rfl dX1_learnPlaces_30 rfl ?_
    refine g_icmp_ge (tgt := 57) C dX1_learnPlaces_33 (by decide) rfl (fun c11 => ?_) (fun c11 => ?_)
    · replace hf := ift c11 hf
      obtain rfl := Option.some.inj hf
      refine g_sub (lv' := [(0, .ref a), (1, .long l1)]) [0, 1] rfl ?_
      exact hx
    · replace hf := iff' c11 hf
      refine g_aload_n C rfl (q := 0) rfl dX1_learnPlaces_36 rfl ?_
      refine g_aload_n C rfl (q := 0) rfl dX1_learnPlaces_37 rfl ?_
      refine g_aload_n C rfl (q := 0) rfl dX1_learnPlaces_38 rfl ?_
      refine g_get C fc_X1 0 (by decide) wf_RX1_11 (wL_at0 rfl) rfl dX1_learnPlaces_39 rfl ?_
      refine g_iload_n C rfl (q := 2) rfl dX1_learnPlaces_42 rfl ?_
      obtain ⟨g12, hf⟩ := gd hf
      refine g_lald C (wL_at 1 rfl) (inB_in g12) dX1_learnPlaces_43 rfl ?_
      refine g_lload_n C rfl (q := 1) rfl dX1_learnPlaces_44 rfl ?_
      obtain ⟨q13, hq13, hf⟩ := bd hf
      refine g_callV0 (st' := [.ref a]) (as := [.long (ss l3.toNatClampNeg), .long l1]) (st2 := [.int q13.1, .ref a]) (k := 2) C ⟨wm_RX1_61, wn_X1_placeOneShape, wv_X1_placeOneShape, wi_RX1, wk_X1_placeOneShape, by decide +kernel⟩ rfl (wL_at0 rfl) (c_X1_placeOneShape (l := kL K) (E := kE K)  _ hq13) (by rw [hKR]; exact ⟨rfl, rfl, ⟨by decide, by decide⟩, Nat.le_refl _, Nat.le_refl _⟩) rfl rfl (by simp [Value.category]) rfl dX1_learnPlaces_45 rfl ?_
      obtain ⟨q14, hq14, hf⟩ := bd hf
      refine g_callV0 (st' := []) (as := [.int q13.1]) (st2 := []) (k := 1) C ⟨wm_RX1_65, wn_X1_mergeIn, wv_X1_mergeIn, wi_RX1, wk_X1_mergeIn, by decide +kernel⟩ rfl (wL_at0 rfl) (c_X1_mergeIn (l := kL K) (E := kE K)  _ hq14) (by rw [hKR]; exact ⟨rfl, rfl, ⟨by decide, by decide⟩, Nat.le_refl _, Nat.le_refl _⟩) rfl rfl (by simp) rfl dX1_learnPlaces_48 rfl ?_
      refine g_iinc (v := l3 + (1 : Int32)) (lv' := [(3, .int (l3 + (1 : Int32))), (0, .ref a), (1, .long l1)]) (q := 2) C dX1_learnPlaces_51 rfl rfl rfl (by rw [hKN]; decide) rfl ?_
      refine g_goto (pc' := 28) C dX1_learnPlaces_54 (by decide) ?_
      refine g_sub (lv' := [(0, .ref a), (1, .long l1), (3, .int (l3 + (1 : Int32)))]) [1, 2, 0] rfl ?_
      exact ih _ _ _ _ _ hf hx
set_option maxHeartbeats 2000000 in
set_option maxRecDepth 20000 in
theorem c_X1_learnPlaces {l : Launch} {E : Ex} {n : Nat} {σ : AH} {a : Nat}  {ss : Nat → Int64} {ps : Nat → Int64} {hv : Nat → Int64} {oo : Nat → Int64} {cu : Int64} {mm : Int32} {sk : Int32} {pk : Int32} {kw : Int64} {sc : Int32} {pn : Int32} {within : Int64} {fu : Nat} (res : ((Nat → Int64) × (Nat → Int64) × (Nat → Int64) × (Nat → Int64) × Int32 × Int32 × Int64 × Int32 × Int32)) (hf : f_X1_learnPlaces fu ss ps hv oo cu mm sk pk kw sc pn within = some res) : Con l E yX1_learnPlaces (.code yX1_learnPlaces cX1_learnPlaces 4 none :: TT) ({ frames := 4, cells := 0, slots := 0, locals := 96 } : Room) 0 0 [.ref a, .long within] (wPc σ a ss ps hv oo cu mm sk pk kw sc pn) n none (wPc σ a res.1 res.2.1 res.2.2.1 res.2.2.2.1 cu mm res.2.2.2.2.1 res.2.2.2.2.2.1 res.2.2.2.2.2.2.1 res.2.2.2.2.2.2.2.1 res.2.2.2.2.2.2.2.2) n := by
  refine con_intro (by decide +kernel) (Nat.le_of_ble_eq_true rfl) ?_
  intro K C hKR hKL hKE hKN hKQ
  subst hKL
  subst hKE
  have C : Cx K RX1 "learnPlaces" cX1_learnPlaces none := C
  show G K 0 0 0 [(0, .ref a), (1, .long within)] [] (wPc σ a ss ps hv oo cu mm sk pk kw sc pn) n
  unfold f_X1_learnPlaces at hf
  refine g_aload_n C rfl (q := 0) rfl dX1_learnPlaces_0 rfl ?_
  obtain ⟨q1, hq1, hf⟩ := bd hf
  refine g_callV0 (st' := []) (as := []) (st2 := []) (k := 0) C ⟨wm_RX1_41, wn_X1_learnShapes, wv_X1_learnShapes, wi_RX1, wk_X1_learnShapes, by decide +kernel⟩ rfl (wL_at0 rfl) (c_X1_learnShapes (l := kL K) (E := kE K)  _ hq1) (by rw [hKR]; exact ⟨rfl, rfl, ⟨by decide, by decide⟩, Nat.le_refl _, Nat.le_refl _⟩) rfl rfl (by simp) rfl dX1_learnPlaces_1 rfl ?_
  refine g_aload_n C rfl (q := 0) rfl dX1_learnPlaces_4 rfl ?_
  refine g_get C fc_X1 7 (by decide) wf_RX1_55 (wL_at0 rfl) rfl dX1_learnPlaces_5 rfl ?_
  refine g_if_eq (tgt := 21) C dX1_learnPlaces_8 (by decide) rfl (fun c2 => ?_) (fun c2 => ?_)
  · replace hf := ift c2 hf
    refine g_aload_n C rfl (q := 0) rfl dX1_learnPlaces_21 rfl ?_
    refine g_iconst (v := 0) C (by decide) dX1_learnPlaces_22 rfl ?_
    refine g_put (h' := (wPc σ a q1.1 ps hv oo cu mm q1.2.1 pk kw q1.2.2 (0 : Int32))) C fc_X1 10 (by decide) wf_RX1_52 rfl rfl rfl (Nat.le_of_ble_eq_true rfl) (wL_at0 rfl) (wL_up0 (Nat.le_of_ble_eq_true rfl) rfl) dX1_learnPlaces_23 rfl ?_
    refine g_iconst (v := 0) C (by decide) dX1_learnPlaces_26 rfl ?_
    refine g_istore_n (i := 3) (lv' := [(3, .int (0 : Int32)), (0, .ref a), (1, .long within)]) C dX1_learnPlaces_27 rfl rfl (by rw [hKN]; decide) rfl ?_
    refine g_sub (lv' := [(0, .ref a), (1, .long within), (3, .int (0 : Int32))]) [1, 2, 0] rfl ?_
    obtain ⟨q15, hq15, hf⟩ := bd hf
    refine g_X1_learnPlaces_28 (l1 := within) (ss := q1.1) (hv := hv) (cu := cu) (mm := mm) (sk := q1.2.1) (pk := pk) (kw := kw) (sc := q1.2.2) C hKR hKN _ _ _ _ _ _ hq15 ?_
    refine g_aload_n C rfl (q := 0) rfl dX1_learnPlaces_57 rfl ?_
    obtain ⟨q16, hq16, hf⟩ := bd hf
    refine g_callV0 (st' := []) (as := []) (st2 := []) (k := 0) C ⟨wm_RX1_69, wn_X1_indexPlaces, wv_X1_indexPlaces, wi_RX1, wk_X1_indexPlaces, by decide +kernel⟩ rfl (wL_at0 rfl) (c_X1_indexPlaces (l := kL K) (E := kE K)  _ hq16) (by rw [hKR]; exact ⟨rfl, rfl, ⟨by decide, by decide⟩, Nat.le_refl _, Nat.le_refl _⟩) rfl rfl (by simp) rfl dX1_learnPlaces_58 rfl ?_
    refine g_aload_n C rfl (q := 0) rfl dX1_learnPlaces_61 rfl ?_
    refine g_lload_n C rfl (q := 1) rfl dX1_learnPlaces_62 rfl ?_
    refine g_put (h' := (wPc σ a q1.1 q15.1 q16 q15.2.1 cu mm q1.2.1 pk within q1.2.2 q15.2.2)) C fc_X1 8 (by decide) wf_RX1_58 rfl rfl rfl (Nat.le_of_ble_eq_true rfl) (wL_at0 rfl) (wL_up0 (Nat.le_of_ble_eq_true rfl) rfl) dX1_learnPlaces_63 rfl ?_
    refine g_aload_n C rfl (q := 0) rfl dX1_learnPlaces_66 rfl ?_
    refine g_iconst (v := 1) C (by decide) dX1_learnPlaces_67 rfl ?_
    refine g_put (h' := (wPc σ a q1.1 q15.1 q16 q15.2.1 cu mm q1.2.1 (1 : Int32) within q1.2.2 q15.2.2)) C fc_X1 7 (by decide) wf_RX1_55 rfl rfl rfl (Nat.le_of_ble_eq_true rfl) (wL_at0 rfl) (wL_up0 (Nat.le_of_ble_eq_true rfl) rfl) dX1_learnPlaces_68 rfl ?_
    obtain rfl := Option.some.inj hf
    exact g_vret C hKQ dX1_learnPlaces_71
  · replace hf := iff' c2 hf
    refine g_aload_n C rfl (q := 0) rfl dX1_learnPlaces_11 rfl ?_
    refine g_get C fc_X1 8 (by decide) wf_RX1_58 (wL_at0 rfl) rfl dX1_learnPlaces_12 rfl ?_
    refine g_lload_n C rfl (q := 1) rfl dX1_learnPlaces_15 rfl ?_
    refine g_lif_ne (tgt := 21) C dX1_learnPlaces_16 rfl dX1_learnPlaces_17 (by decide) rfl (fun c17 => ?_) (fun c17 => ?_)
    · replace hf := iff' c17 hf
      refine g_aload_n C rfl (q := 0) rfl dX1_learnPlaces_21 rfl ?_
      refine g_iconst (v := 0) C (by decide) dX1_learnPlaces_22 rfl ?_
      refine g_put (h' := (wPc σ a q1.1 ps hv oo cu mm q1.2.1 pk kw q1.2.2 (0 : Int32))) C fc_X1 10 (by decide) wf_RX1_52 rfl rfl rfl (Nat.le_of_ble_eq_true rfl) (wL_at0 rfl) (wL_up0 (Nat.le_of_ble_eq_true rfl) rfl) dX1_learnPlaces_23 rfl ?_
      refine g_iconst (v := 0) C (by decide) dX1_learnPlaces_26 rfl ?_
      refine g_istore_n (i := 3) (lv' := [(3, .int (0 : Int32)), (0, .ref a), (1, .long within)]) C dX1_learnPlaces_27 rfl rfl (by rw [hKN]; decide) rfl ?_
      refine g_sub (lv' := [(0, .ref a), (1, .long within), (3, .int (0 : Int32))]) [1, 2, 0] rfl ?_
      obtain ⟨q18, hq18, hf⟩ := bd hf
      refine g_X1_learnPlaces_28 (l1 := within) (ss := q1.1) (hv := hv) (cu := cu) (mm := mm) (sk := q1.2.1) (pk := pk) (kw := kw) (sc := q1.2.2) C hKR hKN _ _ _ _ _ _ hq18 ?_
      refine g_aload_n C rfl (q := 0) rfl dX1_learnPlaces_57 rfl ?_
      obtain ⟨q19, hq19, hf⟩ := bd hf
      refine g_callV0 (st' := []) (as := []) (st2 := []) (k := 0) C ⟨wm_RX1_69, wn_X1_indexPlaces, wv_X1_indexPlaces, wi_RX1, wk_X1_indexPlaces, by decide +kernel⟩ rfl (wL_at0 rfl) (c_X1_indexPlaces (l := kL K) (E := kE K)  _ hq19) (by rw [hKR]; exact ⟨rfl, rfl, ⟨by decide, by decide⟩, Nat.le_refl _, Nat.le_refl _⟩) rfl rfl (by simp) rfl dX1_learnPlaces_58 rfl ?_
      refine g_aload_n C rfl (q := 0) rfl dX1_learnPlaces_61 rfl ?_
      refine g_lload_n C rfl (q := 1) rfl dX1_learnPlaces_62 rfl ?_
      refine g_put (h' := (wPc σ a q1.1 q18.1 q19 q18.2.1 cu mm q1.2.1 pk within q1.2.2 q18.2.2)) C fc_X1 8 (by decide) wf_RX1_58 rfl rfl rfl (Nat.le_of_ble_eq_true rfl) (wL_at0 rfl) (wL_up0 (Nat.le_of_ble_eq_true rfl) rfl) dX1_learnPlaces_63 rfl ?_
      refine g_aload_n C rfl (q := 0) rfl dX1_learnPlaces_66 rfl ?_
      refine g_iconst (v := 1) C (by decide) dX1_learnPlaces_67 rfl ?_
      refine g_put (h' := (wPc σ a q1.1 q18.1 q19 q18.2.1 cu mm q1.2.1 (1 : Int32) within q1.2.2 q18.2.2)) C fc_X1 7 (by decide) wf_RX1_55 rfl rfl rfl (Nat.le_of_ble_eq_true rfl) (wL_at0 rfl) (wL_up0 (Nat.le_of_ble_eq_true rfl) rfl) dX1_learnPlaces_68 rfl ?_
      obtain rfl := Option.some.inj hf
      exact g_vret C hKQ dX1_learnPlaces_71
    · replace hf := ift c17 hf
      obtain rfl := Option.some.inj hf
      exact g_vret C hKQ dX1_learnPlaces_20
