def sumB {A B C : Type} (x : Option (A ⊕ B)) (i : A → C) (k : B → Option C) : Option C := x.bind (fun q => match q with
  | .inl t => some (i t)
  | .inr t => k t)
theorem sb {A B C : Type} {x : Option (A ⊕ B)} {i : A → C} {k : B → Option C} {r : C} (e : sumB x i k = some r) : ∃ q, x = some q ∧ (∀ t, q = .inl t → i t = r) ∧ (∀ t, q = .inr t → k t = some r) := by
  obtain ⟨q, h1, h2⟩ := bd e
  refine ⟨q, h1, fun t ht => ?_, fun t ht => ?_⟩
  · subst ht; exact Option.some.inj h2
  · subst ht; exact h2
theorem wc_RJ6_265 : Cond.constant RJ6 265 (1431655765) ∈ TT := tt_mem 427 (by decide +kernel) (by decide +kernel)
theorem wc_RJ6_266 : Cond.constant RJ6 266 (858993459) ∈ TT := tt_mem 428 (by decide +kernel) (by decide +kernel)
theorem wc_RJ6_267 : Cond.constant RJ6 267 (252645135) ∈ TT := tt_mem 429 (by decide +kernel) (by decide +kernel)
theorem wc_RJ13_314 : Cond.constantLong RJ13 314 (6148914691236517205) ∈ TT := tt_mem 370 (by decide +kernel) (by decide +kernel)
theorem wc_RJ13_316 : Cond.constantLong RJ13 316 (3689348814741910323) ∈ TT := tt_mem 371 (by decide +kernel) (by decide +kernel)
theorem wc_RJ13_318 : Cond.constantLong RJ13 318 (1085102592571150095) ∈ TT := tt_mem 372 (by decide +kernel) (by decide +kernel)
theorem wc_RX0_9 : Cond.constantLong RX0 9 (-9223372036854775808) ∈ TT := tt_mem 454 (by decide +kernel) (by decide +kernel)
theorem wk_J13_bitCount_95d88 : Cond.code yJ13_bitCount_95d88 cJ13_bitCount_95d88 2 (some .int) ∈ TT := tt_mem 369 (by decide +kernel) (by decide +kernel)
theorem wi_RJ13 : Cond.initialized RJ13 ∈ TT := tt_mem 46 (by decide +kernel) (by decide +kernel)
theorem ws_J13_bitCount_95d88 : Cond.static yJ13_bitCount_95d88 ∈ TT := tt_mem 368 (by decide +kernel) (by decide +kernel)
theorem wm_RX0_11 : Cond.methodLink RX0 11 yJ13_bitCount_95d88 ∈ TT := tt_mem 436 (by decide +kernel) (by decide +kernel)
theorem wz_RX0_17 : Cond.fieldLink RX0 17 RX0 "FLOOR" "[J" ∈ TT := tt_mem 445 (by decide +kernel) (by decide +kernel)
theorem wz_RX0_23 : Cond.fieldLink RX0 23 RX0 "STRIDE" "[I" ∈ TT := tt_mem 419 (by decide +kernel) (by decide +kernel)
theorem wk_X0_least : Cond.code yX0_least cX0_least 4 (some .int) ∈ TT := tt_mem 444 (by decide +kernel) (by decide +kernel)
theorem wi_RX0 : Cond.initialized RX0 ∈ TT := tt_mem 47 (by decide +kernel) (by decide +kernel)
theorem ws_X0_least : Cond.static yX0_least ∈ TT := tt_mem 443 (by decide +kernel) (by decide +kernel)
theorem wm_RX0_27 : Cond.methodLink RX0 27 yX0_least ∈ TT := tt_mem 442 (by decide +kernel) (by decide +kernel)
theorem wz_RX0_31 : Cond.fieldLink RX0 31 RX0 "STAYS" "[J" ∈ TT := tt_mem 417 (by decide +kernel) (by decide +kernel)
theorem wk_J6_bitCount_0f7a4 : Cond.code yJ6_bitCount_0f7a4 cJ6_bitCount_0f7a4 1 (some .int) ∈ TT := tt_mem 426 (by decide +kernel) (by decide +kernel)
theorem wi_RJ6 : Cond.initialized RJ6 ∈ TT := tt_mem 48 (by decide +kernel) (by decide +kernel)
theorem ws_J6_bitCount_0f7a4 : Cond.static yJ6_bitCount_0f7a4 ∈ TT := tt_mem 425 (by decide +kernel) (by decide +kernel)
theorem wm_RX0_34 : Cond.methodLink RX0 34 yJ6_bitCount_0f7a4 ∈ TT := tt_mem 424 (by decide +kernel) (by decide +kernel)
theorem wz_RX0_42 : Cond.fieldLink RX0 42 RX0 "ORDERS" "[I" ∈ TT := tt_mem 437 (by decide +kernel) (by decide +kernel)
theorem wk_X0_lowest : Cond.code yX0_lowest cX0_lowest 2 (some .int) ∈ TT := tt_mem 435 (by decide +kernel) (by decide +kernel)
theorem ws_X0_lowest : Cond.static yX0_lowest ∈ TT := tt_mem 434 (by decide +kernel) (by decide +kernel)
theorem wm_RX0_39 : Cond.methodLink RX0 39 yX0_lowest ∈ TT := tt_mem 433 (by decide +kernel) (by decide +kernel)
theorem wk_X0_shifted : Cond.code yX0_shifted cX0_shifted 4 (some .long) ∈ TT := tt_mem 416 (by decide +kernel) (by decide +kernel)
theorem ws_X0_shifted : Cond.static yX0_shifted ∈ TT := tt_mem 415 (by decide +kernel) (by decide +kernel)
theorem wm_RX0_49 : Cond.methodLink RX0 49 yX0_shifted ∈ TT := tt_mem 414 (by decide +kernel) (by decide +kernel)
theorem wk_X0_neighbours : Cond.code yX0_neighbours cX0_neighbours 5 (some .long) ∈ TT := tt_mem 413 (by decide +kernel) (by decide +kernel)
theorem ws_X0_neighbours : Cond.static yX0_neighbours ∈ TT := tt_mem 412 (by decide +kernel) (by decide +kernel)
theorem wm_RX0_45 : Cond.methodLink RX0 45 yX0_neighbours ∈ TT := tt_mem 411 (by decide +kernel) (by decide +kernel)
theorem wm_RX6_144 : Cond.methodLink RX6 144 yJ6_bitCount_0f7a4 ∈ TT := tt_mem 557 (by decide +kernel) (by decide +kernel)
def f_J6_bitCount_0f7a4 (x : Int32) : Option Int32 := some ((((((((x - (((x.toUInt32 >>> ((1 : Int32).toUInt32 &&& Int32.toUInt32 31)).toInt32) &&& (1431655765 : Int32))) &&& (858993459 : Int32)) + ((((x - (((x.toUInt32 >>> ((1 : Int32).toUInt32 &&& Int32.toUInt32 31)).toInt32) &&& (1431655765 : Int32))).toUInt32 >>> ((2 : Int32).toUInt32 &&& Int32.toUInt32 31)).toInt32) &&& (858993459 : Int32))) + (((((x - (((x.toUInt32 >>> ((1 : Int32).toUInt32 &&& Int32.toUInt32 31)).toInt32) &&& (1431655765 : Int32))) &&& (858993459 : Int32)) + ((((x - (((x.toUInt32 >>> ((1 : Int32).toUInt32 &&& Int32.toUInt32 31)).toInt32) &&& (1431655765 : Int32))).toUInt32 >>> ((2 : Int32).toUInt32 &&& Int32.toUInt32 31)).toInt32) &&& (858993459 : Int32))).toUInt32 >>> ((4 : Int32).toUInt32 &&& Int32.toUInt32 31)).toInt32)) &&& (252645135 : Int32)) + (((((((x - (((x.toUInt32 >>> ((1 : Int32).toUInt32 &&& Int32.toUInt32 31)).toInt32) &&& (1431655765 : Int32))) &&& (858993459 : Int32)) + ((((x - (((x.toUInt32 >>> ((1 : Int32).toUInt32 &&& Int32.toUInt32 31)).toInt32) &&& (1431655765 : Int32))).toUInt32 >>> ((2 : Int32).toUInt32 &&& Int32.toUInt32 31)).toInt32) &&& (858993459 : Int32))) + (((((x - (((x.toUInt32 >>> ((1 : Int32).toUInt32 &&& Int32.toUInt32 31)).toInt32) &&& (1431655765 : Int32))) &&& (858993459 : Int32)) + ((((x - (((x.toUInt32 >>> ((1 : Int32).toUInt32 &&& Int32.toUInt32 31)).toInt32) &&& (1431655765 : Int32))).toUInt32 >>> ((2 : Int32).toUInt32 &&& Int32.toUInt32 31)).toInt32) &&& (858993459 : Int32))).toUInt32 >>> ((4 : Int32).toUInt32 &&& Int32.toUInt32 31)).toInt32)) &&& (252645135 : Int32)).toUInt32 >>> ((8 : Int32).toUInt32 &&& Int32.toUInt32 31)).toInt32)) + ((((((((x - (((x.toUInt32 >>> ((1 : Int32).toUInt32 &&& Int32.toUInt32 31)).toInt32) &&& (1431655765 : Int32))) &&& (858993459 : Int32)) + ((((x - (((x.toUInt32 >>> ((1 : Int32).toUInt32 &&& Int32.toUInt32 31)).toInt32) &&& (1431655765 : Int32))).toUInt32 >>> ((2 : Int32).toUInt32 &&& Int32.toUInt32 31)).toInt32) &&& (858993459 : Int32))) + (((((x - (((x.toUInt32 >>> ((1 : Int32).toUInt32 &&& Int32.toUInt32 31)).toInt32) &&& (1431655765 : Int32))) &&& (858993459 : Int32)) + ((((x - (((x.toUInt32 >>> ((1 : Int32).toUInt32 &&& Int32.toUInt32 31)).toInt32) &&& (1431655765 : Int32))).toUInt32 >>> ((2 : Int32).toUInt32 &&& Int32.toUInt32 31)).toInt32) &&& (858993459 : Int32))).toUInt32 >>> ((4 : Int32).toUInt32 &&& Int32.toUInt32 31)).toInt32)) &&& (252645135 : Int32)) + (((((((x - (((x.toUInt32 >>> ((1 : Int32).toUInt32 &&& Int32.toUInt32 31)).toInt32) &&& (1431655765 : Int32))) &&& (858993459 : Int32)) + ((((x - (((x.toUInt32 >>> ((1 : Int32).toUInt32 &&& Int32.toUInt32 31)).toInt32) &&& (1431655765 : Int32))).toUInt32 >>> ((2 : Int32).toUInt32 &&& Int32.toUInt32 31)).toInt32) &&& (858993459 : Int32))) + (((((x - (((x.toUInt32 >>> ((1 : Int32).toUInt32 &&& Int32.toUInt32 31)).toInt32) &&& (1431655765 : Int32))) &&& (858993459 : Int32)) + ((((x - (((x.toUInt32 >>> ((1 : Int32).toUInt32 &&& Int32.toUInt32 31)).toInt32) &&& (1431655765 : Int32))).toUInt32 >>> ((2 : Int32).toUInt32 &&& Int32.toUInt32 31)).toInt32) &&& (858993459 : Int32))).toUInt32 >>> ((4 : Int32).toUInt32 &&& Int32.toUInt32 31)).toInt32)) &&& (252645135 : Int32)).toUInt32 >>> ((8 : Int32).toUInt32 &&& Int32.toUInt32 31)).toInt32)).toUInt32 >>> ((16 : Int32).toUInt32 &&& Int32.toUInt32 31)).toInt32)) &&& (63 : Int32))
set_option maxHeartbeats 2000000 in
set_option maxRecDepth 20000 in
theorem c_J6_bitCount_0f7a4 {l : Launch} {E : Ex} {n : Nat} {σ : AH}   {x : Int32} (res : Int32) (hf : f_J6_bitCount_0f7a4 x = some res) : Con l E yJ6_bitCount_0f7a4 (.code yJ6_bitCount_0f7a4 cJ6_bitCount_0f7a4 1 (some .int) :: TT) ({ frames := 0, cells := 0, slots := 0, locals := 0 } : Room) 0 0 [.int x] σ n (some (.int res)) σ n := by
  refine con_intro (by decide +kernel) (Nat.le_of_ble_eq_true rfl) ?_
  intro K C hKR hKL hKE hKN hKQ
  subst hKL
  subst hKE
  have C : Cx K RJ6 "bitCount" cJ6_bitCount_0f7a4 (some .int) := C
  show G K 0 0 0 [(0, .int x)] [] σ n
  unfold f_J6_bitCount_0f7a4 at hf
  refine g_iload_n C rfl (q := 0) rfl dJ6_bitCount_0f7a4_0 rfl ?_
  refine g_iload_n C rfl (q := 0) rfl dJ6_bitCount_0f7a4_1 rfl ?_
  refine g_iconst (v := 1) C (by decide) dJ6_bitCount_0f7a4_2 rfl ?_
  refine g_iushr C dJ6_bitCount_0f7a4_3 rfl ?_
  refine g_ldcw C wc_RJ6_265 dJ6_bitCount_0f7a4_4 rfl ?_
  refine g_iand C dJ6_bitCount_0f7a4_7 rfl ?_
  refine g_isub C dJ6_bitCount_0f7a4_8 rfl ?_
  refine g_istore_n (i := 0) (lv' := [(0, .int (x - (((x.toUInt32 >>> ((1 : Int32).toUInt32 &&& Int32.toUInt32 31)).toInt32) &&& (1431655765 : Int32))))]) C dJ6_bitCount_0f7a4_9 rfl rfl (by rw [hKN]; decide) rfl ?_
  refine g_iload_n C rfl (q := 0) rfl dJ6_bitCount_0f7a4_10 rfl ?_
  refine g_ldcw C wc_RJ6_266 dJ6_bitCount_0f7a4_11 rfl ?_
  refine g_iand C dJ6_bitCount_0f7a4_14 rfl ?_
  refine g_iload_n C rfl (q := 0) rfl dJ6_bitCount_0f7a4_15 rfl ?_
  refine g_iconst (v := 2) C (by decide) dJ6_bitCount_0f7a4_16 rfl ?_
  refine g_iushr C dJ6_bitCount_0f7a4_17 rfl ?_
  refine g_ldcw C wc_RJ6_266 dJ6_bitCount_0f7a4_18 rfl ?_
  refine g_iand C dJ6_bitCount_0f7a4_21 rfl ?_
  refine g_iadd C dJ6_bitCount_0f7a4_22 rfl ?_
  refine g_istore_n (i := 0) (lv' := [(0, .int (((x - (((x.toUInt32 >>> ((1 : Int32).toUInt32 &&& Int32.toUInt32 31)).toInt32) &&& (1431655765 : Int32))) &&& (858993459 : Int32)) + ((((x - (((x.toUInt32 >>> ((1 : Int32).toUInt32 &&& Int32.toUInt32 31)).toInt32) &&& (1431655765 : Int32))).toUInt32 >>> ((2 : Int32).toUInt32 &&& Int32.toUInt32 31)).toInt32) &&& (858993459 : Int32))))]) C dJ6_bitCount_0f7a4_23 rfl rfl (by rw [hKN]; decide) rfl ?_
  refine g_iload_n C rfl (q := 0) rfl dJ6_bitCount_0f7a4_24 rfl ?_
  refine g_iload_n C rfl (q := 0) rfl dJ6_bitCount_0f7a4_25 rfl ?_
  refine g_iconst (v := 4) C (by decide) dJ6_bitCount_0f7a4_26 rfl ?_
  refine g_iushr C dJ6_bitCount_0f7a4_27 rfl ?_
  refine g_iadd C dJ6_bitCount_0f7a4_28 rfl ?_
  refine g_ldcw C wc_RJ6_267 dJ6_bitCount_0f7a4_29 rfl ?_
  refine g_iand C dJ6_bitCount_0f7a4_32 rfl ?_
  refine g_istore_n (i := 0) (lv' := [(0, .int (((((x - (((x.toUInt32 >>> ((1 : Int32).toUInt32 &&& Int32.toUInt32 31)).toInt32) &&& (1431655765 : Int32))) &&& (858993459 : Int32)) + ((((x - (((x.toUInt32 >>> ((1 : Int32).toUInt32 &&& Int32.toUInt32 31)).toInt32) &&& (1431655765 : Int32))).toUInt32 >>> ((2 : Int32).toUInt32 &&& Int32.toUInt32 31)).toInt32) &&& (858993459 : Int32))) + (((((x - (((x.toUInt32 >>> ((1 : Int32).toUInt32 &&& Int32.toUInt32 31)).toInt32) &&& (1431655765 : Int32))) &&& (858993459 : Int32)) + ((((x - (((x.toUInt32 >>> ((1 : Int32).toUInt32 &&& Int32.toUInt32 31)).toInt32) &&& (1431655765 : Int32))).toUInt32 >>> ((2 : Int32).toUInt32 &&& Int32.toUInt32 31)).toInt32) &&& (858993459 : Int32))).toUInt32 >>> ((4 : Int32).toUInt32 &&& Int32.toUInt32 31)).toInt32)) &&& (252645135 : Int32)))]) C dJ6_bitCount_0f7a4_33 rfl rfl (by rw [hKN]; decide) rfl ?_
  refine g_iload_n C rfl (q := 0) rfl dJ6_bitCount_0f7a4_34 rfl ?_
  refine g_iload_n C rfl (q := 0) rfl dJ6_bitCount_0f7a4_35 rfl ?_
  refine g_bipush (v := 8) C (by decide) dJ6_bitCount_0f7a4_36 rfl ?_
  refine g_iushr C dJ6_bitCount_0f7a4_38 rfl ?_
  refine g_iadd C dJ6_bitCount_0f7a4_39 rfl ?_
  refine g_istore_n (i := 0) (lv' := [(0, .int ((((((x - (((x.toUInt32 >>> ((1 : Int32).toUInt32 &&& Int32.toUInt32 31)).toInt32) &&& (1431655765 : Int32))) &&& (858993459 : Int32)) + ((((x - (((x.toUInt32 >>> ((1 : Int32).toUInt32 &&& Int32.toUInt32 31)).toInt32) &&& (1431655765 : Int32))).toUInt32 >>> ((2 : Int32).toUInt32 &&& Int32.toUInt32 31)).toInt32) &&& (858993459 : Int32))) + (((((x - (((x.toUInt32 >>> ((1 : Int32).toUInt32 &&& Int32.toUInt32 31)).toInt32) &&& (1431655765 : Int32))) &&& (858993459 : Int32)) + ((((x - (((x.toUInt32 >>> ((1 : Int32).toUInt32 &&& Int32.toUInt32 31)).toInt32) &&& (1431655765 : Int32))).toUInt32 >>> ((2 : Int32).toUInt32 &&& Int32.toUInt32 31)).toInt32) &&& (858993459 : Int32))).toUInt32 >>> ((4 : Int32).toUInt32 &&& Int32.toUInt32 31)).toInt32)) &&& (252645135 : Int32)) + (((((((x - (((x.toUInt32 >>> ((1 : Int32).toUInt32 &&& Int32.toUInt32 31)).toInt32) &&& (1431655765 : Int32))) &&& (858993459 : Int32)) + ((((x - (((x.toUInt32 >>> ((1 : Int32).toUInt32 &&& Int32.toUInt32 31)).toInt32) &&& (1431655765 : Int32))).toUInt32 >>> ((2 : Int32).toUInt32 &&& Int32.toUInt32 31)).toInt32) &&& (858993459 : Int32))) + (((((x - (((x.toUInt32 >>> ((1 : Int32).toUInt32 &&& Int32.toUInt32 31)).toInt32) &&& (1431655765 : Int32))) &&& (858993459 : Int32)) + ((((x - (((x.toUInt32 >>> ((1 : Int32).toUInt32 &&& Int32.toUInt32 31)).toInt32) &&& (1431655765 : Int32))).toUInt32 >>> ((2 : Int32).toUInt32 &&& Int32.toUInt32 31)).toInt32) &&& (858993459 : Int32))).toUInt32 >>> ((4 : Int32).toUInt32 &&& Int32.toUInt32 31)).toInt32)) &&& (252645135 : Int32)).toUInt32 >>> ((8 : Int32).toUInt32 &&& Int32.toUInt32 31)).toInt32)))]) C dJ6_bitCount_0f7a4_40 rfl rfl (by rw [hKN]; decide) rfl ?_
  refine g_iload_n C rfl (q := 0) rfl dJ6_bitCount_0f7a4_41 rfl ?_
  refine g_iload_n C rfl (q := 0) rfl dJ6_bitCount_0f7a4_42 rfl ?_
  refine g_bipush (v := 16) C (by decide) dJ6_bitCount_0f7a4_43 rfl ?_
  refine g_iushr C dJ6_bitCount_0f7a4_45 rfl ?_
  refine g_iadd C dJ6_bitCount_0f7a4_46 rfl ?_
  refine g_istore_n (i := 0) (lv' := [(0, .int (((((((x - (((x.toUInt32 >>> ((1 : Int32).toUInt32 &&& Int32.toUInt32 31)).toInt32) &&& (1431655765 : Int32))) &&& (858993459 : Int32)) + ((((x - (((x.toUInt32 >>> ((1 : Int32).toUInt32 &&& Int32.toUInt32 31)).toInt32) &&& (1431655765 : Int32))).toUInt32 >>> ((2 : Int32).toUInt32 &&& Int32.toUInt32 31)).toInt32) &&& (858993459 : Int32))) + (((((x - (((x.toUInt32 >>> ((1 : Int32).toUInt32 &&& Int32.toUInt32 31)).toInt32) &&& (1431655765 : Int32))) &&& (858993459 : Int32)) + ((((x - (((x.toUInt32 >>> ((1 : Int32).toUInt32 &&& Int32.toUInt32 31)).toInt32) &&& (1431655765 : Int32))).toUInt32 >>> ((2 : Int32).toUInt32 &&& Int32.toUInt32 31)).toInt32) &&& (858993459 : Int32))).toUInt32 >>> ((4 : Int32).toUInt32 &&& Int32.toUInt32 31)).toInt32)) &&& (252645135 : Int32)) + (((((((x - (((x.toUInt32 >>> ((1 : Int32).toUInt32 &&& Int32.toUInt32 31)).toInt32) &&& (1431655765 : Int32))) &&& (858993459 : Int32)) + ((((x - (((x.toUInt32 >>> ((1 : Int32).toUInt32 &&& Int32.toUInt32 31)).toInt32) &&& (1431655765 : Int32))).toUInt32 >>> ((2 : Int32).toUInt32 &&& Int32.toUInt32 31)).toInt32) &&& (858993459 : Int32))) + (((((x - (((x.toUInt32 >>> ((1 : Int32).toUInt32 &&& Int32.toUInt32 31)).toInt32) &&& (1431655765 : Int32))) &&& (858993459 : Int32)) + ((((x - (((x.toUInt32 >>> ((1 : Int32).toUInt32 &&& Int32.toUInt32 31)).toInt32) &&& (1431655765 : Int32))).toUInt32 >>> ((2 : Int32).toUInt32 &&& Int32.toUInt32 31)).toInt32) &&& (858993459 : Int32))).toUInt32 >>> ((4 : Int32).toUInt32 &&& Int32.toUInt32 31)).toInt32)) &&& (252645135 : Int32)).toUInt32 >>> ((8 : Int32).toUInt32 &&& Int32.toUInt32 31)).toInt32)) + ((((((((x - (((x.toUInt32 >>> ((1 : Int32).toUInt32 &&& Int32.toUInt32 31)).toInt32) &&& (1431655765 : Int32))) &&& (858993459 : Int32)) + ((((x - (((x.toUInt32 >>> ((1 : Int32).toUInt32 &&& Int32.toUInt32 31)).toInt32) &&& (1431655765 : Int32))).toUInt32 >>> ((2 : Int32).toUInt32 &&& Int32.toUInt32 31)).toInt32) &&& (858993459 : Int32))) + (((((x - (((x.toUInt32 >>> ((1 : Int32).toUInt32 &&& Int32.toUInt32 31)).toInt32) &&& (1431655765 : Int32))) &&& (858993459 : Int32)) + ((((x - (((x.toUInt32 >>> ((1 : Int32).toUInt32 &&& Int32.toUInt32 31)).toInt32) &&& (1431655765 : Int32))).toUInt32 >>> ((2 : Int32).toUInt32 &&& Int32.toUInt32 31)).toInt32) &&& (858993459 : Int32))).toUInt32 >>> ((4 : Int32).toUInt32 &&& Int32.toUInt32 31)).toInt32)) &&& (252645135 : Int32)) + (((((((x - (((x.toUInt32 >>> ((1 : Int32).toUInt32 &&& Int32.toUInt32 31)).toInt32) &&& (1431655765 : Int32))) &&& (858993459 : Int32)) + ((((x - (((x.toUInt32 >>> ((1 : Int32).toUInt32 &&& Int32.toUInt32 31)).toInt32) &&& (1431655765 : Int32))).toUInt32 >>> ((2 : Int32).toUInt32 &&& Int32.toUInt32 31)).toInt32) &&& (858993459 : Int32))) + (((((x - (((x.toUInt32 >>> ((1 : Int32).toUInt32 &&& Int32.toUInt32 31)).toInt32) &&& (1431655765 : Int32))) &&& (858993459 : Int32)) + ((((x - (((x.toUInt32 >>> ((1 : Int32).toUInt32 &&& Int32.toUInt32 31)).toInt32) &&& (1431655765 : Int32))).toUInt32 >>> ((2 : Int32).toUInt32 &&& Int32.toUInt32 31)).toInt32) &&& (858993459 : Int32))).toUInt32 >>> ((4 : Int32).toUInt32 &&& Int32.toUInt32 31)).toInt32)) &&& (252645135 : Int32)).toUInt32 >>> ((8 : Int32).toUInt32 &&& Int32.toUInt32 31)).toInt32)).toUInt32 >>> ((16 : Int32).toUInt32 &&& Int32.toUInt32 31)).toInt32)))]) C dJ6_bitCount_0f7a4_47 rfl rfl (by rw [hKN]; decide) rfl ?_
  refine g_iload_n C rfl (q := 0) rfl dJ6_bitCount_0f7a4_48 rfl ?_
  refine g_bipush (v := 63) C (by decide) dJ6_bitCount_0f7a4_49 rfl ?_
  refine g_iand C dJ6_bitCount_0f7a4_51 rfl ?_
  obtain rfl := Option.some.inj hf
  exact g_iret C hKQ dJ6_bitCount_0f7a4_52
def f_J13_bitCount_95d88 (x : Int64) : Option Int32 := some ((((((((((x - (((x.toUInt64 >>> ((1 : Int32).toInt64.toUInt64 &&& Int64.toUInt64 63)).toInt64) &&& (6148914691236517205 : Int64))) &&& (3689348814741910323 : Int64)) + ((((x - (((x.toUInt64 >>> ((1 : Int32).toInt64.toUInt64 &&& Int64.toUInt64 63)).toInt64) &&& (6148914691236517205 : Int64))).toUInt64 >>> ((2 : Int32).toInt64.toUInt64 &&& Int64.toUInt64 63)).toInt64) &&& (3689348814741910323 : Int64))) + (((((x - (((x.toUInt64 >>> ((1 : Int32).toInt64.toUInt64 &&& Int64.toUInt64 63)).toInt64) &&& (6148914691236517205 : Int64))) &&& (3689348814741910323 : Int64)) + ((((x - (((x.toUInt64 >>> ((1 : Int32).toInt64.toUInt64 &&& Int64.toUInt64 63)).toInt64) &&& (6148914691236517205 : Int64))).toUInt64 >>> ((2 : Int32).toInt64.toUInt64 &&& Int64.toUInt64 63)).toInt64) &&& (3689348814741910323 : Int64))).toUInt64 >>> ((4 : Int32).toInt64.toUInt64 &&& Int64.toUInt64 63)).toInt64)) &&& (1085102592571150095 : Int64)) + (((((((x - (((x.toUInt64 >>> ((1 : Int32).toInt64.toUInt64 &&& Int64.toUInt64 63)).toInt64) &&& (6148914691236517205 : Int64))) &&& (3689348814741910323 : Int64)) + ((((x - (((x.toUInt64 >>> ((1 : Int32).toInt64.toUInt64 &&& Int64.toUInt64 63)).toInt64) &&& (6148914691236517205 : Int64))).toUInt64 >>> ((2 : Int32).toInt64.toUInt64 &&& Int64.toUInt64 63)).toInt64) &&& (3689348814741910323 : Int64))) + (((((x - (((x.toUInt64 >>> ((1 : Int32).toInt64.toUInt64 &&& Int64.toUInt64 63)).toInt64) &&& (6148914691236517205 : Int64))) &&& (3689348814741910323 : Int64)) + ((((x - (((x.toUInt64 >>> ((1 : Int32).toInt64.toUInt64 &&& Int64.toUInt64 63)).toInt64) &&& (6148914691236517205 : Int64))).toUInt64 >>> ((2 : Int32).toInt64.toUInt64 &&& Int64.toUInt64 63)).toInt64) &&& (3689348814741910323 : Int64))).toUInt64 >>> ((4 : Int32).toInt64.toUInt64 &&& Int64.toUInt64 63)).toInt64)) &&& (1085102592571150095 : Int64)).toUInt64 >>> ((8 : Int32).toInt64.toUInt64 &&& Int64.toUInt64 63)).toInt64)) + ((((((((x - (((x.toUInt64 >>> ((1 : Int32).toInt64.toUInt64 &&& Int64.toUInt64 63)).toInt64) &&& (6148914691236517205 : Int64))) &&& (3689348814741910323 : Int64)) + ((((x - (((x.toUInt64 >>> ((1 : Int32).toInt64.toUInt64 &&& Int64.toUInt64 63)).toInt64) &&& (6148914691236517205 : Int64))).toUInt64 >>> ((2 : Int32).toInt64.toUInt64 &&& Int64.toUInt64 63)).toInt64) &&& (3689348814741910323 : Int64))) + (((((x - (((x.toUInt64 >>> ((1 : Int32).toInt64.toUInt64 &&& Int64.toUInt64 63)).toInt64) &&& (6148914691236517205 : Int64))) &&& (3689348814741910323 : Int64)) + ((((x - (((x.toUInt64 >>> ((1 : Int32).toInt64.toUInt64 &&& Int64.toUInt64 63)).toInt64) &&& (6148914691236517205 : Int64))).toUInt64 >>> ((2 : Int32).toInt64.toUInt64 &&& Int64.toUInt64 63)).toInt64) &&& (3689348814741910323 : Int64))).toUInt64 >>> ((4 : Int32).toInt64.toUInt64 &&& Int64.toUInt64 63)).toInt64)) &&& (1085102592571150095 : Int64)) + (((((((x - (((x.toUInt64 >>> ((1 : Int32).toInt64.toUInt64 &&& Int64.toUInt64 63)).toInt64) &&& (6148914691236517205 : Int64))) &&& (3689348814741910323 : Int64)) + ((((x - (((x.toUInt64 >>> ((1 : Int32).toInt64.toUInt64 &&& Int64.toUInt64 63)).toInt64) &&& (6148914691236517205 : Int64))).toUInt64 >>> ((2 : Int32).toInt64.toUInt64 &&& Int64.toUInt64 63)).toInt64) &&& (3689348814741910323 : Int64))) + (((((x - (((x.toUInt64 >>> ((1 : Int32).toInt64.toUInt64 &&& Int64.toUInt64 63)).toInt64) &&& (6148914691236517205 : Int64))) &&& (3689348814741910323 : Int64)) + ((((x - (((x.toUInt64 >>> ((1 : Int32).toInt64.toUInt64 &&& Int64.toUInt64 63)).toInt64) &&& (6148914691236517205 : Int64))).toUInt64 >>> ((2 : Int32).toInt64.toUInt64 &&& Int64.toUInt64 63)).toInt64) &&& (3689348814741910323 : Int64))).toUInt64 >>> ((4 : Int32).toInt64.toUInt64 &&& Int64.toUInt64 63)).toInt64)) &&& (1085102592571150095 : Int64)).toUInt64 >>> ((8 : Int32).toInt64.toUInt64 &&& Int64.toUInt64 63)).toInt64)).toUInt64 >>> ((16 : Int32).toInt64.toUInt64 &&& Int64.toUInt64 63)).toInt64)) + (((((((((x - (((x.toUInt64 >>> ((1 : Int32).toInt64.toUInt64 &&& Int64.toUInt64 63)).toInt64) &&& (6148914691236517205 : Int64))) &&& (3689348814741910323 : Int64)) + ((((x - (((x.toUInt64 >>> ((1 : Int32).toInt64.toUInt64 &&& Int64.toUInt64 63)).toInt64) &&& (6148914691236517205 : Int64))).toUInt64 >>> ((2 : Int32).toInt64.toUInt64 &&& Int64.toUInt64 63)).toInt64) &&& (3689348814741910323 : Int64))) + (((((x - (((x.toUInt64 >>> ((1 : Int32).toInt64.toUInt64 &&& Int64.toUInt64 63)).toInt64) &&& (6148914691236517205 : Int64))) &&& (3689348814741910323 : Int64)) + ((((x - (((x.toUInt64 >>> ((1 : Int32).toInt64.toUInt64 &&& Int64.toUInt64 63)).toInt64) &&& (6148914691236517205 : Int64))).toUInt64 >>> ((2 : Int32).toInt64.toUInt64 &&& Int64.toUInt64 63)).toInt64) &&& (3689348814741910323 : Int64))).toUInt64 >>> ((4 : Int32).toInt64.toUInt64 &&& Int64.toUInt64 63)).toInt64)) &&& (1085102592571150095 : Int64)) + (((((((x - (((x.toUInt64 >>> ((1 : Int32).toInt64.toUInt64 &&& Int64.toUInt64 63)).toInt64) &&& (6148914691236517205 : Int64))) &&& (3689348814741910323 : Int64)) + ((((x - (((x.toUInt64 >>> ((1 : Int32).toInt64.toUInt64 &&& Int64.toUInt64 63)).toInt64) &&& (6148914691236517205 : Int64))).toUInt64 >>> ((2 : Int32).toInt64.toUInt64 &&& Int64.toUInt64 63)).toInt64) &&& (3689348814741910323 : Int64))) + (((((x - (((x.toUInt64 >>> ((1 : Int32).toInt64.toUInt64 &&& Int64.toUInt64 63)).toInt64) &&& (6148914691236517205 : Int64))) &&& (3689348814741910323 : Int64)) + ((((x - (((x.toUInt64 >>> ((1 : Int32).toInt64.toUInt64 &&& Int64.toUInt64 63)).toInt64) &&& (6148914691236517205 : Int64))).toUInt64 >>> ((2 : Int32).toInt64.toUInt64 &&& Int64.toUInt64 63)).toInt64) &&& (3689348814741910323 : Int64))).toUInt64 >>> ((4 : Int32).toInt64.toUInt64 &&& Int64.toUInt64 63)).toInt64)) &&& (1085102592571150095 : Int64)).toUInt64 >>> ((8 : Int32).toInt64.toUInt64 &&& Int64.toUInt64 63)).toInt64)) + ((((((((x - (((x.toUInt64 >>> ((1 : Int32).toInt64.toUInt64 &&& Int64.toUInt64 63)).toInt64) &&& (6148914691236517205 : Int64))) &&& (3689348814741910323 : Int64)) + ((((x - (((x.toUInt64 >>> ((1 : Int32).toInt64.toUInt64 &&& Int64.toUInt64 63)).toInt64) &&& (6148914691236517205 : Int64))).toUInt64 >>> ((2 : Int32).toInt64.toUInt64 &&& Int64.toUInt64 63)).toInt64) &&& (3689348814741910323 : Int64))) + (((((x - (((x.toUInt64 >>> ((1 : Int32).toInt64.toUInt64 &&& Int64.toUInt64 63)).toInt64) &&& (6148914691236517205 : Int64))) &&& (3689348814741910323 : Int64)) + ((((x - (((x.toUInt64 >>> ((1 : Int32).toInt64.toUInt64 &&& Int64.toUInt64 63)).toInt64) &&& (6148914691236517205 : Int64))).toUInt64 >>> ((2 : Int32).toInt64.toUInt64 &&& Int64.toUInt64 63)).toInt64) &&& (3689348814741910323 : Int64))).toUInt64 >>> ((4 : Int32).toInt64.toUInt64 &&& Int64.toUInt64 63)).toInt64)) &&& (1085102592571150095 : Int64)) + (((((((x - (((x.toUInt64 >>> ((1 : Int32).toInt64.toUInt64 &&& Int64.toUInt64 63)).toInt64) &&& (6148914691236517205 : Int64))) &&& (3689348814741910323 : Int64)) + ((((x - (((x.toUInt64 >>> ((1 : Int32).toInt64.toUInt64 &&& Int64.toUInt64 63)).toInt64) &&& (6148914691236517205 : Int64))).toUInt64 >>> ((2 : Int32).toInt64.toUInt64 &&& Int64.toUInt64 63)).toInt64) &&& (3689348814741910323 : Int64))) + (((((x - (((x.toUInt64 >>> ((1 : Int32).toInt64.toUInt64 &&& Int64.toUInt64 63)).toInt64) &&& (6148914691236517205 : Int64))) &&& (3689348814741910323 : Int64)) + ((((x - (((x.toUInt64 >>> ((1 : Int32).toInt64.toUInt64 &&& Int64.toUInt64 63)).toInt64) &&& (6148914691236517205 : Int64))).toUInt64 >>> ((2 : Int32).toInt64.toUInt64 &&& Int64.toUInt64 63)).toInt64) &&& (3689348814741910323 : Int64))).toUInt64 >>> ((4 : Int32).toInt64.toUInt64 &&& Int64.toUInt64 63)).toInt64)) &&& (1085102592571150095 : Int64)).toUInt64 >>> ((8 : Int32).toInt64.toUInt64 &&& Int64.toUInt64 63)).toInt64)).toUInt64 >>> ((16 : Int32).toInt64.toUInt64 &&& Int64.toUInt64 63)).toInt64)).toUInt64 >>> ((32 : Int32).toInt64.toUInt64 &&& Int64.toUInt64 63)).toInt64)).toInt32) &&& (127 : Int32))
set_option maxHeartbeats 2000000 in
set_option maxRecDepth 20000 in
theorem c_J13_bitCount_95d88 {l : Launch} {E : Ex} {n : Nat} {σ : AH}   {x : Int64} (res : Int32) (hf : f_J13_bitCount_95d88 x = some res) : Con l E yJ13_bitCount_95d88 (.code yJ13_bitCount_95d88 cJ13_bitCount_95d88 2 (some .int) :: TT) ({ frames := 0, cells := 0, slots := 0, locals := 0 } : Room) 0 0 [.long x] σ n (some (.int res)) σ n := by
  refine con_intro (by decide +kernel) (Nat.le_of_ble_eq_true rfl) ?_
  intro K C hKR hKL hKE hKN hKQ
  subst hKL
  subst hKE
  have C : Cx K RJ13 "bitCount" cJ13_bitCount_95d88 (some .int) := C
  show G K 0 0 0 [(0, .long x)] [] σ n
  unfold f_J13_bitCount_95d88 at hf
  refine g_lload_n C rfl (q := 0) rfl dJ13_bitCount_95d88_0 rfl ?_
  refine g_lload_n C rfl (q := 0) rfl dJ13_bitCount_95d88_1 rfl ?_
  refine g_iconst (v := 1) C (by decide) dJ13_bitCount_95d88_2 rfl ?_
  refine g_lushr C dJ13_bitCount_95d88_3 rfl ?_
  refine g_ldc2 C wc_RJ13_314 dJ13_bitCount_95d88_4 rfl ?_
  refine g_land C dJ13_bitCount_95d88_7 rfl ?_
  refine g_lsub C dJ13_bitCount_95d88_8 rfl ?_
  refine g_lstore_n (i := 0) (lv' := [(0, .long (x - (((x.toUInt64 >>> ((1 : Int32).toInt64.toUInt64 &&& Int64.toUInt64 63)).toInt64) &&& (6148914691236517205 : Int64))))]) C dJ13_bitCount_95d88_9 rfl rfl (by rw [hKN]; decide) rfl ?_
  refine g_lload_n C rfl (q := 0) rfl dJ13_bitCount_95d88_10 rfl ?_
  refine g_ldc2 C wc_RJ13_316 dJ13_bitCount_95d88_11 rfl ?_
  refine g_land C dJ13_bitCount_95d88_14 rfl ?_
  refine g_lload_n C rfl (q := 0) rfl dJ13_bitCount_95d88_15 rfl ?_
  refine g_iconst (v := 2) C (by decide) dJ13_bitCount_95d88_16 rfl ?_
  refine g_lushr C dJ13_bitCount_95d88_17 rfl ?_
  refine g_ldc2 C wc_RJ13_316 dJ13_bitCount_95d88_18 rfl ?_
  refine g_land C dJ13_bitCount_95d88_21 rfl ?_
  refine g_ladd C dJ13_bitCount_95d88_22 rfl ?_
  refine g_lstore_n (i := 0) (lv' := [(0, .long (((x - (((x.toUInt64 >>> ((1 : Int32).toInt64.toUInt64 &&& Int64.toUInt64 63)).toInt64) &&& (6148914691236517205 : Int64))) &&& (3689348814741910323 : Int64)) + ((((x - (((x.toUInt64 >>> ((1 : Int32).toInt64.toUInt64 &&& Int64.toUInt64 63)).toInt64) &&& (6148914691236517205 : Int64))).toUInt64 >>> ((2 : Int32).toInt64.toUInt64 &&& Int64.toUInt64 63)).toInt64) &&& (3689348814741910323 : Int64))))]) C dJ13_bitCount_95d88_23 rfl rfl (by rw [hKN]; decide) rfl ?_
  refine g_lload_n C rfl (q := 0) rfl dJ13_bitCount_95d88_24 rfl ?_
  refine g_lload_n C rfl (q := 0) rfl dJ13_bitCount_95d88_25 rfl ?_
  refine g_iconst (v := 4) C (by decide) dJ13_bitCount_95d88_26 rfl ?_
  refine g_lushr C dJ13_bitCount_95d88_27 rfl ?_
  refine g_ladd C dJ13_bitCount_95d88_28 rfl ?_
  refine g_ldc2 C wc_RJ13_318 dJ13_bitCount_95d88_29 rfl ?_
  refine g_land C dJ13_bitCount_95d88_32 rfl ?_
  refine g_lstore_n (i := 0) (lv' := [(0, .long (((((x - (((x.toUInt64 >>> ((1 : Int32).toInt64.toUInt64 &&& Int64.toUInt64 63)).toInt64) &&& (6148914691236517205 : Int64))) &&& (3689348814741910323 : Int64)) + ((((x - (((x.toUInt64 >>> ((1 : Int32).toInt64.toUInt64 &&& Int64.toUInt64 63)).toInt64) &&& (6148914691236517205 : Int64))).toUInt64 >>> ((2 : Int32).toInt64.toUInt64 &&& Int64.toUInt64 63)).toInt64) &&& (3689348814741910323 : Int64))) + (((((x - (((x.toUInt64 >>> ((1 : Int32).toInt64.toUInt64 &&& Int64.toUInt64 63)).toInt64) &&& (6148914691236517205 : Int64))) &&& (3689348814741910323 : Int64)) + ((((x - (((x.toUInt64 >>> ((1 : Int32).toInt64.toUInt64 &&& Int64.toUInt64 63)).toInt64) &&& (6148914691236517205 : Int64))).toUInt64 >>> ((2 : Int32).toInt64.toUInt64 &&& Int64.toUInt64 63)).toInt64) &&& (3689348814741910323 : Int64))).toUInt64 >>> ((4 : Int32).toInt64.toUInt64 &&& Int64.toUInt64 63)).toInt64)) &&& (1085102592571150095 : Int64)))]) C dJ13_bitCount_95d88_33 rfl rfl (by rw [hKN]; decide) rfl ?_
  refine g_lload_n C rfl (q := 0) rfl dJ13_bitCount_95d88_34 rfl ?_
  refine g_lload_n C rfl (q := 0) rfl dJ13_bitCount_95d88_35 rfl ?_
  refine g_bipush (v := 8) C (by decide) dJ13_bitCount_95d88_36 rfl ?_
  refine g_lushr C dJ13_bitCount_95d88_38 rfl ?_
  refine g_ladd C dJ13_bitCount_95d88_39 rfl ?_
  refine g_lstore_n (i := 0) (lv' := [(0, .long ((((((x - (((x.toUInt64 >>> ((1 : Int32).toInt64.toUInt64 &&& Int64.toUInt64 63)).toInt64) &&& (6148914691236517205 : Int64))) &&& (3689348814741910323 : Int64)) + ((((x - (((x.toUInt64 >>> ((1 : Int32).toInt64.toUInt64 &&& Int64.toUInt64 63)).toInt64) &&& (6148914691236517205 : Int64))).toUInt64 >>> ((2 : Int32).toInt64.toUInt64 &&& Int64.toUInt64 63)).toInt64) &&& (3689348814741910323 : Int64))) + (((((x - (((x.toUInt64 >>> ((1 : Int32).toInt64.toUInt64 &&& Int64.toUInt64 63)).toInt64) &&& (6148914691236517205 : Int64))) &&& (3689348814741910323 : Int64)) + ((((x - (((x.toUInt64 >>> ((1 : Int32).toInt64.toUInt64 &&& Int64.toUInt64 63)).toInt64) &&& (6148914691236517205 : Int64))).toUInt64 >>> ((2 : Int32).toInt64.toUInt64 &&& Int64.toUInt64 63)).toInt64) &&& (3689348814741910323 : Int64))).toUInt64 >>> ((4 : Int32).toInt64.toUInt64 &&& Int64.toUInt64 63)).toInt64)) &&& (1085102592571150095 : Int64)) + (((((((x - (((x.toUInt64 >>> ((1 : Int32).toInt64.toUInt64 &&& Int64.toUInt64 63)).toInt64) &&& (6148914691236517205 : Int64))) &&& (3689348814741910323 : Int64)) + ((((x - (((x.toUInt64 >>> ((1 : Int32).toInt64.toUInt64 &&& Int64.toUInt64 63)).toInt64) &&& (6148914691236517205 : Int64))).toUInt64 >>> ((2 : Int32).toInt64.toUInt64 &&& Int64.toUInt64 63)).toInt64) &&& (3689348814741910323 : Int64))) + (((((x - (((x.toUInt64 >>> ((1 : Int32).toInt64.toUInt64 &&& Int64.toUInt64 63)).toInt64) &&& (6148914691236517205 : Int64))) &&& (3689348814741910323 : Int64)) + ((((x - (((x.toUInt64 >>> ((1 : Int32).toInt64.toUInt64 &&& Int64.toUInt64 63)).toInt64) &&& (6148914691236517205 : Int64))).toUInt64 >>> ((2 : Int32).toInt64.toUInt64 &&& Int64.toUInt64 63)).toInt64) &&& (3689348814741910323 : Int64))).toUInt64 >>> ((4 : Int32).toInt64.toUInt64 &&& Int64.toUInt64 63)).toInt64)) &&& (1085102592571150095 : Int64)).toUInt64 >>> ((8 : Int32).toInt64.toUInt64 &&& Int64.toUInt64 63)).toInt64)))]) C dJ13_bitCount_95d88_40 rfl rfl (by rw [hKN]; decide) rfl ?_
  refine g_lload_n C rfl (q := 0) rfl dJ13_bitCount_95d88_41 rfl ?_
  refine g_lload_n C rfl (q := 0) rfl dJ13_bitCount_95d88_42 rfl ?_
  refine g_bipush (v := 16) C (by decide) dJ13_bitCount_95d88_43 rfl ?_
  refine g_lushr C dJ13_bitCount_95d88_45 rfl ?_
  refine g_ladd C dJ13_bitCount_95d88_46 rfl ?_
  refine g_lstore_n (i := 0) (lv' := [(0, .long (((((((x - (((x.toUInt64 >>> ((1 : Int32).toInt64.toUInt64 &&& Int64.toUInt64 63)).toInt64) &&& (6148914691236517205 : Int64))) &&& (3689348814741910323 : Int64)) + ((((x - (((x.toUInt64 >>> ((1 : Int32).toInt64.toUInt64 &&& Int64.toUInt64 63)).toInt64) &&& (6148914691236517205 : Int64))).toUInt64 >>> ((2 : Int32).toInt64.toUInt64 &&& Int64.toUInt64 63)).toInt64) &&& (3689348814741910323 : Int64))) + (((((x - (((x.toUInt64 >>> ((1 : Int32).toInt64.toUInt64 &&& Int64.toUInt64 63)).toInt64) &&& (6148914691236517205 : Int64))) &&& (3689348814741910323 : Int64)) + ((((x - (((x.toUInt64 >>> ((1 : Int32).toInt64.toUInt64 &&& Int64.toUInt64 63)).toInt64) &&& (6148914691236517205 : Int64))).toUInt64 >>> ((2 : Int32).toInt64.toUInt64 &&& Int64.toUInt64 63)).toInt64) &&& (3689348814741910323 : Int64))).toUInt64 >>> ((4 : Int32).toInt64.toUInt64 &&& Int64.toUInt64 63)).toInt64)) &&& (1085102592571150095 : Int64)) + (((((((x - (((x.toUInt64 >>> ((1 : Int32).toInt64.toUInt64 &&& Int64.toUInt64 63)).toInt64) &&& (6148914691236517205 : Int64))) &&& (3689348814741910323 : Int64)) + ((((x - (((x.toUInt64 >>> ((1 : Int32).toInt64.toUInt64 &&& Int64.toUInt64 63)).toInt64) &&& (6148914691236517205 : Int64))).toUInt64 >>> ((2 : Int32).toInt64.toUInt64 &&& Int64.toUInt64 63)).toInt64) &&& (3689348814741910323 : Int64))) + (((((x - (((x.toUInt64 >>> ((1 : Int32).toInt64.toUInt64 &&& Int64.toUInt64 63)).toInt64) &&& (6148914691236517205 : Int64))) &&& (3689348814741910323 : Int64)) + ((((x - (((x.toUInt64 >>> ((1 : Int32).toInt64.toUInt64 &&& Int64.toUInt64 63)).toInt64) &&& (6148914691236517205 : Int64))).toUInt64 >>> ((2 : Int32).toInt64.toUInt64 &&& Int64.toUInt64 63)).toInt64) &&& (3689348814741910323 : Int64))).toUInt64 >>> ((4 : Int32).toInt64.toUInt64 &&& Int64.toUInt64 63)).toInt64)) &&& (1085102592571150095 : Int64)).toUInt64 >>> ((8 : Int32).toInt64.toUInt64 &&& Int64.toUInt64 63)).toInt64)) + ((((((((x - (((x.toUInt64 >>> ((1 : Int32).toInt64.toUInt64 &&& Int64.toUInt64 63)).toInt64) &&& (6148914691236517205 : Int64))) &&& (3689348814741910323 : Int64)) + ((((x - (((x.toUInt64 >>> ((1 : Int32).toInt64.toUInt64 &&& Int64.toUInt64 63)).toInt64) &&& (6148914691236517205 : Int64))).toUInt64 >>> ((2 : Int32).toInt64.toUInt64 &&& Int64.toUInt64 63)).toInt64) &&& (3689348814741910323 : Int64))) + (((((x - (((x.toUInt64 >>> ((1 : Int32).toInt64.toUInt64 &&& Int64.toUInt64 63)).toInt64) &&& (6148914691236517205 : Int64))) &&& (3689348814741910323 : Int64)) + ((((x - (((x.toUInt64 >>> ((1 : Int32).toInt64.toUInt64 &&& Int64.toUInt64 63)).toInt64) &&& (6148914691236517205 : Int64))).toUInt64 >>> ((2 : Int32).toInt64.toUInt64 &&& Int64.toUInt64 63)).toInt64) &&& (3689348814741910323 : Int64))).toUInt64 >>> ((4 : Int32).toInt64.toUInt64 &&& Int64.toUInt64 63)).toInt64)) &&& (1085102592571150095 : Int64)) + (((((((x - (((x.toUInt64 >>> ((1 : Int32).toInt64.toUInt64 &&& Int64.toUInt64 63)).toInt64) &&& (6148914691236517205 : Int64))) &&& (3689348814741910323 : Int64)) + ((((x - (((x.toUInt64 >>> ((1 : Int32).toInt64.toUInt64 &&& Int64.toUInt64 63)).toInt64) &&& (6148914691236517205 : Int64))).toUInt64 >>> ((2 : Int32).toInt64.toUInt64 &&& Int64.toUInt64 63)).toInt64) &&& (3689348814741910323 : Int64))) + (((((x - (((x.toUInt64 >>> ((1 : Int32).toInt64.toUInt64 &&& Int64.toUInt64 63)).toInt64) &&& (6148914691236517205 : Int64))) &&& (3689348814741910323 : Int64)) + ((((x - (((x.toUInt64 >>> ((1 : Int32).toInt64.toUInt64 &&& Int64.toUInt64 63)).toInt64) &&& (6148914691236517205 : Int64))).toUInt64 >>> ((2 : Int32).toInt64.toUInt64 &&& Int64.toUInt64 63)).toInt64) &&& (3689348814741910323 : Int64))).toUInt64 >>> ((4 : Int32).toInt64.toUInt64 &&& Int64.toUInt64 63)).toInt64)) &&& (1085102592571150095 : Int64)).toUInt64 >>> ((8 : Int32).toInt64.toUInt64 &&& Int64.toUInt64 63)).toInt64)).toUInt64 >>> ((16 : Int32).toInt64.toUInt64 &&& Int64.toUInt64 63)).toInt64)))]) C dJ13_bitCount_95d88_47 rfl rfl (by rw [hKN]; decide) rfl ?_
  refine g_lload_n C rfl (q := 0) rfl dJ13_bitCount_95d88_48 rfl ?_
  refine g_lload_n C rfl (q := 0) rfl dJ13_bitCount_95d88_49 rfl ?_
  refine g_bipush (v := 32) C (by decide) dJ13_bitCount_95d88_50 rfl ?_
  refine g_lushr C dJ13_bitCount_95d88_52 rfl ?_
  refine g_ladd C dJ13_bitCount_95d88_53 rfl ?_
  refine g_lstore_n (i := 0) (lv' := [(0, .long ((((((((x - (((x.toUInt64 >>> ((1 : Int32).toInt64.toUInt64 &&& Int64.toUInt64 63)).toInt64) &&& (6148914691236517205 : Int64))) &&& (3689348814741910323 : Int64)) + ((((x - (((x.toUInt64 >>> ((1 : Int32).toInt64.toUInt64 &&& Int64.toUInt64 63)).toInt64) &&& (6148914691236517205 : Int64))).toUInt64 >>> ((2 : Int32).toInt64.toUInt64 &&& Int64.toUInt64 63)).toInt64) &&& (3689348814741910323 : Int64))) + (((((x - (((x.toUInt64 >>> ((1 : Int32).toInt64.toUInt64 &&& Int64.toUInt64 63)).toInt64) &&& (6148914691236517205 : Int64))) &&& (3689348814741910323 : Int64)) + ((((x - (((x.toUInt64 >>> ((1 : Int32).toInt64.toUInt64 &&& Int64.toUInt64 63)).toInt64) &&& (6148914691236517205 : Int64))).toUInt64 >>> ((2 : Int32).toInt64.toUInt64 &&& Int64.toUInt64 63)).toInt64) &&& (3689348814741910323 : Int64))).toUInt64 >>> ((4 : Int32).toInt64.toUInt64 &&& Int64.toUInt64 63)).toInt64)) &&& (1085102592571150095 : Int64)) + (((((((x - (((x.toUInt64 >>> ((1 : Int32).toInt64.toUInt64 &&& Int64.toUInt64 63)).toInt64) &&& (6148914691236517205 : Int64))) &&& (3689348814741910323 : Int64)) + ((((x - (((x.toUInt64 >>> ((1 : Int32).toInt64.toUInt64 &&& Int64.toUInt64 63)).toInt64) &&& (6148914691236517205 : Int64))).toUInt64 >>> ((2 : Int32).toInt64.toUInt64 &&& Int64.toUInt64 63)).toInt64) &&& (3689348814741910323 : Int64))) + (((((x - (((x.toUInt64 >>> ((1 : Int32).toInt64.toUInt64 &&& Int64.toUInt64 63)).toInt64) &&& (6148914691236517205 : Int64))) &&& (3689348814741910323 : Int64)) + ((((x - (((x.toUInt64 >>> ((1 : Int32).toInt64.toUInt64 &&& Int64.toUInt64 63)).toInt64) &&& (6148914691236517205 : Int64))).toUInt64 >>> ((2 : Int32).toInt64.toUInt64 &&& Int64.toUInt64 63)).toInt64) &&& (3689348814741910323 : Int64))).toUInt64 >>> ((4 : Int32).toInt64.toUInt64 &&& Int64.toUInt64 63)).toInt64)) &&& (1085102592571150095 : Int64)).toUInt64 >>> ((8 : Int32).toInt64.toUInt64 &&& Int64.toUInt64 63)).toInt64)) + ((((((((x - (((x.toUInt64 >>> ((1 : Int32).toInt64.toUInt64 &&& Int64.toUInt64 63)).toInt64) &&& (6148914691236517205 : Int64))) &&& (3689348814741910323 : Int64)) + ((((x - (((x.toUInt64 >>> ((1 : Int32).toInt64.toUInt64 &&& Int64.toUInt64 63)).toInt64) &&& (6148914691236517205 : Int64))).toUInt64 >>> ((2 : Int32).toInt64.toUInt64 &&& Int64.toUInt64 63)).toInt64) &&& (3689348814741910323 : Int64))) + (((((x - (((x.toUInt64 >>> ((1 : Int32).toInt64.toUInt64 &&& Int64.toUInt64 63)).toInt64) &&& (6148914691236517205 : Int64))) &&& (3689348814741910323 : Int64)) + ((((x - (((x.toUInt64 >>> ((1 : Int32).toInt64.toUInt64 &&& Int64.toUInt64 63)).toInt64) &&& (6148914691236517205 : Int64))).toUInt64 >>> ((2 : Int32).toInt64.toUInt64 &&& Int64.toUInt64 63)).toInt64) &&& (3689348814741910323 : Int64))).toUInt64 >>> ((4 : Int32).toInt64.toUInt64 &&& Int64.toUInt64 63)).toInt64)) &&& (1085102592571150095 : Int64)) + (((((((x - (((x.toUInt64 >>> ((1 : Int32).toInt64.toUInt64 &&& Int64.toUInt64 63)).toInt64) &&& (6148914691236517205 : Int64))) &&& (3689348814741910323 : Int64)) + ((((x - (((x.toUInt64 >>> ((1 : Int32).toInt64.toUInt64 &&& Int64.toUInt64 63)).toInt64) &&& (6148914691236517205 : Int64))).toUInt64 >>> ((2 : Int32).toInt64.toUInt64 &&& Int64.toUInt64 63)).toInt64) &&& (3689348814741910323 : Int64))) + (((((x - (((x.toUInt64 >>> ((1 : Int32).toInt64.toUInt64 &&& Int64.toUInt64 63)).toInt64) &&& (6148914691236517205 : Int64))) &&& (3689348814741910323 : Int64)) + ((((x - (((x.toUInt64 >>> ((1 : Int32).toInt64.toUInt64 &&& Int64.toUInt64 63)).toInt64) &&& (6148914691236517205 : Int64))).toUInt64 >>> ((2 : Int32).toInt64.toUInt64 &&& Int64.toUInt64 63)).toInt64) &&& (3689348814741910323 : Int64))).toUInt64 >>> ((4 : Int32).toInt64.toUInt64 &&& Int64.toUInt64 63)).toInt64)) &&& (1085102592571150095 : Int64)).toUInt64 >>> ((8 : Int32).toInt64.toUInt64 &&& Int64.toUInt64 63)).toInt64)).toUInt64 >>> ((16 : Int32).toInt64.toUInt64 &&& Int64.toUInt64 63)).toInt64)) + (((((((((x - (((x.toUInt64 >>> ((1 : Int32).toInt64.toUInt64 &&& Int64.toUInt64 63)).toInt64) &&& (6148914691236517205 : Int64))) &&& (3689348814741910323 : Int64)) + ((((x - (((x.toUInt64 >>> ((1 : Int32).toInt64.toUInt64 &&& Int64.toUInt64 63)).toInt64) &&& (6148914691236517205 : Int64))).toUInt64 >>> ((2 : Int32).toInt64.toUInt64 &&& Int64.toUInt64 63)).toInt64) &&& (3689348814741910323 : Int64))) + (((((x - (((x.toUInt64 >>> ((1 : Int32).toInt64.toUInt64 &&& Int64.toUInt64 63)).toInt64) &&& (6148914691236517205 : Int64))) &&& (3689348814741910323 : Int64)) + ((((x - (((x.toUInt64 >>> ((1 : Int32).toInt64.toUInt64 &&& Int64.toUInt64 63)).toInt64) &&& (6148914691236517205 : Int64))).toUInt64 >>> ((2 : Int32).toInt64.toUInt64 &&& Int64.toUInt64 63)).toInt64) &&& (3689348814741910323 : Int64))).toUInt64 >>> ((4 : Int32).toInt64.toUInt64 &&& Int64.toUInt64 63)).toInt64)) &&& (1085102592571150095 : Int64)) + (((((((x - (((x.toUInt64 >>> ((1 : Int32).toInt64.toUInt64 &&& Int64.toUInt64 63)).toInt64) &&& (6148914691236517205 : Int64))) &&& (3689348814741910323 : Int64)) + ((((x - (((x.toUInt64 >>> ((1 : Int32).toInt64.toUInt64 &&& Int64.toUInt64 63)).toInt64) &&& (6148914691236517205 : Int64))).toUInt64 >>> ((2 : Int32).toInt64.toUInt64 &&& Int64.toUInt64 63)).toInt64) &&& (3689348814741910323 : Int64))) + (((((x - (((x.toUInt64 >>> ((1 : Int32).toInt64.toUInt64 &&& Int64.toUInt64 63)).toInt64) &&& (6148914691236517205 : Int64))) &&& (3689348814741910323 : Int64)) + ((((x - (((x.toUInt64 >>> ((1 : Int32).toInt64.toUInt64 &&& Int64.toUInt64 63)).toInt64) &&& (6148914691236517205 : Int64))).toUInt64 >>> ((2 : Int32).toInt64.toUInt64 &&& Int64.toUInt64 63)).toInt64) &&& (3689348814741910323 : Int64))).toUInt64 >>> ((4 : Int32).toInt64.toUInt64 &&& Int64.toUInt64 63)).toInt64)) &&& (1085102592571150095 : Int64)).toUInt64 >>> ((8 : Int32).toInt64.toUInt64 &&& Int64.toUInt64 63)).toInt64)) + ((((((((x - (((x.toUInt64 >>> ((1 : Int32).toInt64.toUInt64 &&& Int64.toUInt64 63)).toInt64) &&& (6148914691236517205 : Int64))) &&& (3689348814741910323 : Int64)) + ((((x - (((x.toUInt64 >>> ((1 : Int32).toInt64.toUInt64 &&& Int64.toUInt64 63)).toInt64) &&& (6148914691236517205 : Int64))).toUInt64 >>> ((2 : Int32).toInt64.toUInt64 &&& Int64.toUInt64 63)).toInt64) &&& (3689348814741910323 : Int64))) + (((((x - (((x.toUInt64 >>> ((1 : Int32).toInt64.toUInt64 &&& Int64.toUInt64 63)).toInt64) &&& (6148914691236517205 : Int64))) &&& (3689348814741910323 : Int64)) + ((((x - (((x.toUInt64 >>> ((1 : Int32).toInt64.toUInt64 &&& Int64.toUInt64 63)).toInt64) &&& (6148914691236517205 : Int64))).toUInt64 >>> ((2 : Int32).toInt64.toUInt64 &&& Int64.toUInt64 63)).toInt64) &&& (3689348814741910323 : Int64))).toUInt64 >>> ((4 : Int32).toInt64.toUInt64 &&& Int64.toUInt64 63)).toInt64)) &&& (1085102592571150095 : Int64)) + (((((((x - (((x.toUInt64 >>> ((1 : Int32).toInt64.toUInt64 &&& Int64.toUInt64 63)).toInt64) &&& (6148914691236517205 : Int64))) &&& (3689348814741910323 : Int64)) + ((((x - (((x.toUInt64 >>> ((1 : Int32).toInt64.toUInt64 &&& Int64.toUInt64 63)).toInt64) &&& (6148914691236517205 : Int64))).toUInt64 >>> ((2 : Int32).toInt64.toUInt64 &&& Int64.toUInt64 63)).toInt64) &&& (3689348814741910323 : Int64))) + (((((x - (((x.toUInt64 >>> ((1 : Int32).toInt64.toUInt64 &&& Int64.toUInt64 63)).toInt64) &&& (6148914691236517205 : Int64))) &&& (3689348814741910323 : Int64)) + ((((x - (((x.toUInt64 >>> ((1 : Int32).toInt64.toUInt64 &&& Int64.toUInt64 63)).toInt64) &&& (6148914691236517205 : Int64))).toUInt64 >>> ((2 : Int32).toInt64.toUInt64 &&& Int64.toUInt64 63)).toInt64) &&& (3689348814741910323 : Int64))).toUInt64 >>> ((4 : Int32).toInt64.toUInt64 &&& Int64.toUInt64 63)).toInt64)) &&& (1085102592571150095 : Int64)).toUInt64 >>> ((8 : Int32).toInt64.toUInt64 &&& Int64.toUInt64 63)).toInt64)).toUInt64 >>> ((16 : Int32).toInt64.toUInt64 &&& Int64.toUInt64 63)).toInt64)).toUInt64 >>> ((32 : Int32).toInt64.toUInt64 &&& Int64.toUInt64 63)).toInt64)))]) C dJ13_bitCount_95d88_54 rfl rfl (by rw [hKN]; decide) rfl ?_
  refine g_lload_n C rfl (q := 0) rfl dJ13_bitCount_95d88_55 rfl ?_
  refine g_l2i C dJ13_bitCount_95d88_56 rfl ?_
  refine g_bipush (v := 127) C (by decide) dJ13_bitCount_95d88_57 rfl ?_
  refine g_iand C dJ13_bitCount_95d88_59 rfl ?_
  obtain rfl := Option.some.inj hf
  exact g_iret C hKQ dJ13_bitCount_95d88_60
def f_X0_isBelow (a : Int64) (b : Int64) : Option Int32 := (if bOk (if (b ^^^ (-9223372036854775808 : Int64)) ≤ (a ^^^ (-9223372036854775808 : Int64)) then (0 : Int32) else (1 : Int32)) = true then some (if (b ^^^ (-9223372036854775808 : Int64)) ≤ (a ^^^ (-9223372036854775808 : Int64)) then (0 : Int32) else (1 : Int32)) else none)
set_option maxHeartbeats 2000000 in
set_option maxRecDepth 20000 in
theorem c_X0_isBelow {l : Launch} {E : Ex} {n : Nat} {σ : AH}   {a : Int64} {b : Int64} (res : Int32) (hf : f_X0_isBelow a b = some res) : Con l E yX0_isBelow (.code yX0_isBelow cX0_isBelow 4 (some .boolean) :: TT) ({ frames := 0, cells := 0, slots := 0, locals := 0 } : Room) 0 0 [.long a, .long b] σ n (some (.int res)) σ n := by
  refine con_intro (by decide +kernel) (Nat.le_of_ble_eq_true rfl) ?_
  intro K C hKR hKL hKE hKN hKQ
  subst hKL
  subst hKE
  have C : Cx K RX0 "isBelow" cX0_isBelow (some .boolean) := C
  show G K 0 0 0 [(0, .long a), (2, .long b)] [] σ n
  unfold f_X0_isBelow at hf
  refine g_lload_n C rfl (q := 0) rfl dX0_isBelow_0 rfl ?_
  refine g_ldc2 C wc_RX0_9 dX0_isBelow_1 rfl ?_
  refine g_lxor C dX0_isBelow_4 rfl ?_
  refine g_lload_n C rfl (q := 1) rfl dX0_isBelow_5 rfl ?_
  refine g_ldc2 C wc_RX0_9 dX0_isBelow_6 rfl ?_
  refine g_lxor C dX0_isBelow_9 rfl ?_
  have j2 : G K 0 0 19 [(0, .long a), (2, .long b)] [.int (if (b ^^^ (-9223372036854775808 : Int64)) ≤ (a ^^^ (-9223372036854775808 : Int64)) then (0 : Int32) else (1 : Int32))] σ n := by
    obtain ⟨g1, hf⟩ := gd hf
    obtain rfl := Option.some.inj hf
    exact g_zret C (bOk_n g1) hKQ dX0_isBelow_19
  refine g_lif_ge (tgt := 18) C dX0_isBelow_10 rfl dX0_isBelow_11 (by decide) rfl (fun c3 => ?_) (fun c3 => ?_)
  · refine g_iconst (v := 0) C (by decide) dX0_isBelow_18 rfl ?_
    exact g_topI (by rw [if_pos c3]) j2
  · refine g_iconst (v := 1) C (by decide) dX0_isBelow_14 rfl ?_
    refine g_goto (pc' := 19) C dX0_isBelow_15 (by decide) ?_
    exact g_topI (by rw [if_neg c3]) j2
def f_X0_lowest (set : Int64) : Option Int32 := ((f_J13_bitCount_95d88 ((set &&& (-set)) - (1 : Int64))).bind fun q1 => some q1)
set_option maxHeartbeats 2000000 in
set_option maxRecDepth 20000 in
theorem c_X0_lowest {l : Launch} {E : Ex} {n : Nat} {σ : AH}   {set : Int64} (res : Int32) (hf : f_X0_lowest set = some res) : Con l E yX0_lowest (.code yX0_lowest cX0_lowest 2 (some .int) :: TT) ({ frames := 1, cells := 0, slots := 0, locals := 21 } : Room) 0 0 [.long set] σ n (some (.int res)) σ n := by
  refine con_intro (by decide +kernel) (Nat.le_of_ble_eq_true rfl) ?_
  intro K C hKR hKL hKE hKN hKQ
  subst hKL
  subst hKE
  have C : Cx K RX0 "lowest" cX0_lowest (some .int) := C
  show G K 0 0 0 [(0, .long set)] [] σ n
  unfold f_X0_lowest at hf
  refine g_lload_n C rfl (q := 0) rfl dX0_lowest_0 rfl ?_
  refine g_lload_n C rfl (q := 0) rfl dX0_lowest_1 rfl ?_
  refine g_lneg C dX0_lowest_2 rfl ?_
  refine g_land C dX0_lowest_3 rfl ?_
  refine g_lconst (v := 1) C (by decide) dX0_lowest_4 rfl ?_
  refine g_lsub C dX0_lowest_5 rfl ?_
  obtain ⟨q1, hq1, hf⟩ := bd hf
  refine g_callS0 (st' := []) (as := [.long ((set &&& (-set)) - (1 : Int64))]) (st2 := [.int q1]) (k := 1) C ⟨wm_RX0_11, ws_J13_bitCount_95d88, wi_RJ13, wk_J13_bitCount_95d88, by decide +kernel⟩ (c_J13_bitCount_95d88 (l := kL K) (E := kE K)  _ hq1) (by rw [hKR]; exact ⟨rfl, rfl, ⟨by decide, by decide⟩, Nat.le_refl _, Nat.le_refl _⟩) rfl rfl (by simp) rfl dX0_lowest_6 rfl ?_
  obtain rfl := Option.some.inj hf
  exact g_iret C hKQ dX0_lowest_9
def f_X0_least_2  (l0 : Int64) (l2 : Int32) : Nat → Int32 → Option Int32
  | 0, _ => none
  | fu + 1, l3 => (if (3 : Int32) ≤ l3 then some l3 else (if inB l2 3 = true then (if inB l2 3 = true then (if (l0 &&& ((z_FLOOR l2.toNatClampNeg) <<< ((l3 * (z_STRIDE l2.toNatClampNeg)).toInt64 &&& 63))) = (0 : Int64) then f_X0_least_2 l0 l2 fu (l3 + (1 : Int32)) else some l3) else none) else none))
def f_X0_least (fu : Nat) (set : Int64) (axis : Int32) : Option Int32 := ((f_X0_least_2 set axis fu (0 : Int32)).bind fun q13 => some q13)
set_option maxHeartbeats 2000000 in
set_option maxRecDepth 20000 in
theorem g_X0_least_2 {K : KX} {n : Nat} {σ : AH}  {l0 : Int64} {l2 : Int32} (C : Cx K RX0 "least" cX0_least (some .int)) (hKR : kR K = ({ frames := 0, cells := 0, slots := 0, locals := 0 } : Room)) (hKN : kN K = 4) : ∀ (fu : Nat) (l3 : Int32) (res : Int32), f_X0_least_2 l0 l2 fu l3 = some res → G K 0 0 33 [(3, .int res)] [] σ n → G K 0 0 2 [(0, .long l0), (2, .int l2), (3, .int l3)] [] σ n := by
  intro fu
  induction fu with
  | zero =>
    intro l3 res hf
    exact absurd hf (by simp [f_X0_least_2])
  | succ fu ih =>
    intro l3 res hf hx
    rw [f_X0_least_2] at hf
    refine g_iload_n C rfl (q := 2) rfl dX0_least_2 rfl ?_
    refine g_iconst (v := 3) C (by decide) dX0_least_3 rfl ?_
    refine g_icmp_ge (tgt := 33) C dX0_least_4 (by decide) rfl (fun c9 => ?_) (fun c9 => ?_)
    · replace hf := ift c9 hf
      obtain rfl := Option.some.inj hf
      refine g_sub (lv' := [(3, .int l3)]) [2] rfl ?_
      exact hx
    · replace hf := iff' c9 hf
      refine g_lload_n C rfl (q := 0) rfl dX0_least_7 rfl ?_
      refine g_gets C (zS C).2.1.1 wz_RX0_17 dX0_least_8 rfl ?_
      refine g_iload_n C rfl (q := 1) rfl dX0_least_11 rfl ?_
      obtain ⟨g10, hf⟩ := gd hf
      refine g_slld C (zS C).2.1.2 (inB_in g10) dX0_least_12 rfl ?_
      refine g_iload_n C rfl (q := 2) rfl dX0_least_13 rfl ?_
      refine g_gets C (zS C).1.1 wz_RX0_23 dX0_least_14 rfl ?_
      refine g_iload_n C rfl (q := 1) rfl dX0_least_17 rfl ?_
      obtain ⟨g11, hf⟩ := gd hf
      refine g_sild C (zS C).1.2 (inB_in g11) dX0_least_18 rfl ?_
      refine g_imul C dX0_least_19 rfl ?_
      refine g_lshl C dX0_least_20 rfl ?_
      refine g_land C dX0_least_21 rfl ?_
      refine g_lconst (v := 0) C (by decide) dX0_least_22 rfl ?_
      refine g_lif_ne (tgt := 33) C dX0_least_23 rfl dX0_least_24 (by decide) rfl (fun c12 => ?_) (fun c12 => ?_)
      · replace hf := iff' c12 hf
        obtain rfl := Option.some.inj hf
        refine g_sub (lv' := [(3, .int l3)]) [2] rfl ?_
        exact hx
      · replace hf := ift c12 hf
        refine g_iinc (v := l3 + (1 : Int32)) (lv' := [(3, .int (l3 + (1 : Int32))), (0, .long l0), (2, .int l2)]) (q := 2) C dX0_least_27 rfl rfl rfl (by rw [hKN]; decide) rfl ?_
        refine g_goto (pc' := 2) C dX0_least_30 (by decide) ?_
        refine g_sub (lv' := [(0, .long l0), (2, .int l2), (3, .int (l3 + (1 : Int32)))]) [1, 2, 0] rfl ?_
        exact ih _ _ hf hx
set_option maxHeartbeats 2000000 in
set_option maxRecDepth 20000 in
theorem c_X0_least {l : Launch} {E : Ex} {n : Nat} {σ : AH}   {set : Int64} {axis : Int32} {fu : Nat} (res : Int32) (hf : f_X0_least fu set axis = some res) : Con l E yX0_least (.code yX0_least cX0_least 4 (some .int) :: TT) ({ frames := 0, cells := 0, slots := 0, locals := 0 } : Room) 0 0 [.long set, .int axis] σ n (some (.int res)) σ n := by
  refine con_intro (by decide +kernel) (Nat.le_of_ble_eq_true rfl) ?_
  intro K C hKR hKL hKE hKN hKQ
  subst hKL
  subst hKE
  have C : Cx K RX0 "least" cX0_least (some .int) := C
  show G K 0 0 0 [(0, .long set), (2, .int axis)] [] σ n
  unfold f_X0_least at hf
  refine g_iconst (v := 0) C (by decide) dX0_least_0 rfl ?_
  refine g_istore_n (i := 3) (lv' := [(3, .int (0 : Int32)), (0, .long set), (2, .int axis)]) C dX0_least_1 rfl rfl (by rw [hKN]; decide) rfl ?_
  refine g_sub (lv' := [(0, .long set), (2, .int axis), (3, .int (0 : Int32))]) [1, 2, 0] rfl ?_
  obtain ⟨q13, hq13, hf⟩ := bd hf
  refine g_X0_least_2 (l0 := set) (l2 := axis) C hKR hKN _ _ _ hq13 ?_
  refine g_iload_n C rfl (q := 0) rfl dX0_least_33 rfl ?_
  obtain rfl := Option.some.inj hf
  exact g_iret C hKQ dX0_least_34
def f_X0_greatest_2  (l0 : Int64) (l2 : Int32) : Nat → Int32 → Option Int32
  | 0, _ => none
  | fu + 1, l3 => (if l3 ≤ 0 then some l3 else (if inB l2 3 = true then (if inB l2 3 = true then (if (l0 &&& ((z_FLOOR l2.toNatClampNeg) <<< ((l3 * (z_STRIDE l2.toNatClampNeg)).toInt64 &&& 63))) = (0 : Int64) then f_X0_greatest_2 l0 l2 fu (l3 + (-1 : Int32)) else some l3) else none) else none))
def f_X0_greatest (fu : Nat) (set : Int64) (axis : Int32) : Option Int32 := ((f_X0_greatest_2 set axis fu (3 : Int32)).bind fun q13 => some q13)
set_option maxHeartbeats 2000000 in
set_option maxRecDepth 20000 in
theorem g_X0_greatest_2 {K : KX} {n : Nat} {σ : AH}  {l0 : Int64} {l2 : Int32} (C : Cx K RX0 "greatest" cX0_greatest (some .int)) (hKR : kR K = ({ frames := 0, cells := 0, slots := 0, locals := 0 } : Room)) (hKN : kN K = 4) : ∀ (fu : Nat) (l3 : Int32) (res : Int32), f_X0_greatest_2 l0 l2 fu l3 = some res → G K 0 0 32 [(3, .int res)] [] σ n → G K 0 0 2 [(0, .long l0), (2, .int l2), (3, .int l3)] [] σ n := by
  intro fu
  induction fu with
  | zero =>
    intro l3 res hf
    exact absurd hf (by simp [f_X0_greatest_2])
  | succ fu ih =>
    intro l3 res hf hx
    rw [f_X0_greatest_2] at hf
    refine g_iload_n C rfl (q := 2) rfl dX0_greatest_2 rfl ?_
    refine g_if_le (tgt := 32) C dX0_greatest_3 (by decide) rfl (fun c9 => ?_) (fun c9 => ?_)
    · replace hf := ift c9 hf
      obtain rfl := Option.some.inj hf
      refine g_sub (lv' := [(3, .int l3)]) [2] rfl ?_
      exact hx
    · replace hf := iff' c9 hf
      refine g_lload_n C rfl (q := 0) rfl dX0_greatest_6 rfl ?_
      refine g_gets C (zS C).2.1.1 wz_RX0_17 dX0_greatest_7 rfl ?_
      refine g_iload_n C rfl (q := 1) rfl dX0_greatest_10 rfl ?_
      obtain ⟨g10, hf⟩ := gd hf
      refine g_slld C (zS C).2.1.2 (inB_in g10) dX0_greatest_11 rfl ?_
      refine g_iload_n C rfl (q := 2) rfl dX0_greatest_12 rfl ?_
      refine g_gets C (zS C).1.1 wz_RX0_23 dX0_greatest_13 rfl ?_
      refine g_iload_n C rfl (q := 1) rfl dX0_greatest_16 rfl ?_
      obtain ⟨g11, hf⟩ := gd hf
      refine g_sild C (zS C).1.2 (inB_in g11) dX0_greatest_17 rfl ?_
      refine g_imul C dX0_greatest_18 rfl ?_
      refine g_lshl C dX0_greatest_19 rfl ?_
      refine g_land C dX0_greatest_20 rfl ?_
      refine g_lconst (v := 0) C (by decide) dX0_greatest_21 rfl ?_
      refine g_lif_ne (tgt := 32) C dX0_greatest_22 rfl dX0_greatest_23 (by decide) rfl (fun c12 => ?_) (fun c12 => ?_)
      · replace hf := iff' c12 hf
        obtain rfl := Option.some.inj hf
        refine g_sub (lv' := [(3, .int l3)]) [2] rfl ?_
        exact hx
      · replace hf := ift c12 hf
        refine g_iinc (v := l3 + (-1 : Int32)) (lv' := [(3, .int (l3 + (-1 : Int32))), (0, .long l0), (2, .int l2)]) (q := 2) C dX0_greatest_26 rfl rfl rfl (by rw [hKN]; decide) rfl ?_
        refine g_goto (pc' := 2) C dX0_greatest_29 (by decide) ?_
        refine g_sub (lv' := [(0, .long l0), (2, .int l2), (3, .int (l3 + (-1 : Int32)))]) [1, 2, 0] rfl ?_
        exact ih _ _ hf hx
set_option maxHeartbeats 2000000 in
set_option maxRecDepth 20000 in
theorem c_X0_greatest {l : Launch} {E : Ex} {n : Nat} {σ : AH}   {set : Int64} {axis : Int32} {fu : Nat} (res : Int32) (hf : f_X0_greatest fu set axis = some res) : Con l E yX0_greatest (.code yX0_greatest cX0_greatest 4 (some .int) :: TT) ({ frames := 0, cells := 0, slots := 0, locals := 0 } : Room) 0 0 [.long set, .int axis] σ n (some (.int res)) σ n := by
  refine con_intro (by decide +kernel) (Nat.le_of_ble_eq_true rfl) ?_
  intro K C hKR hKL hKE hKN hKQ
  subst hKL
  subst hKE
  have C : Cx K RX0 "greatest" cX0_greatest (some .int) := C
  show G K 0 0 0 [(0, .long set), (2, .int axis)] [] σ n
  unfold f_X0_greatest at hf
  refine g_iconst (v := 3) C (by decide) dX0_greatest_0 rfl ?_
  refine g_istore_n (i := 3) (lv' := [(3, .int (3 : Int32)), (0, .long set), (2, .int axis)]) C dX0_greatest_1 rfl rfl (by rw [hKN]; decide) rfl ?_
  refine g_sub (lv' := [(0, .long set), (2, .int axis), (3, .int (3 : Int32))]) [1, 2, 0] rfl ?_
  obtain ⟨q13, hq13, hf⟩ := bd hf
  refine g_X0_greatest_2 (l0 := set) (l2 := axis) C hKR hKN _ _ _ hq13 ?_
  refine g_iload_n C rfl (q := 0) rfl dX0_greatest_32 rfl ?_
  obtain rfl := Option.some.inj hf
  exact g_iret C hKQ dX0_greatest_33
def f_X0_settled_5   : Nat → Int64 → Int32 → Option Int64
  | 0, _, _ => none
  | fu + 1, l2, l4 => (if (3 : Int32) ≤ l4 then some l2 else ((f_X0_least fu l2 l4).bind fun q8 => (if inB l4 3 = true then f_X0_settled_5  fu ((l2.toUInt64 >>> ((q8 * (z_STRIDE l4.toNatClampNeg)).toInt64.toUInt64 &&& Int64.toUInt64 63)).toInt64) (l4 + (1 : Int32)) else none)))
def f_X0_settled (fu : Nat) (set : Int64) : Option Int64 := ((f_X0_settled_5  fu set (0 : Int32)).bind fun q10 => some q10)
set_option maxHeartbeats 2000000 in
set_option maxRecDepth 20000 in
theorem g_X0_settled_5 {K : KX} {n : Nat} {σ : AH}   (C : Cx K RX0 "settled" cX0_settled (some .long)) (hKR : kR K = ({ frames := 1, cells := 0, slots := 0, locals := 23 } : Room)) (hKN : kN K = 5) : ∀ (fu : Nat) (l2 : Int64) (l4 : Int32) (res : Int64), f_X0_settled_5  fu l2 l4 = some res → G K 0 0 33 [(2, .long res)] [] σ n → G K 0 0 5 [(2, .long l2), (4, .int l4)] [] σ n := by
  intro fu
  induction fu with
  | zero =>
    intro l2 l4 res hf
    exact absurd hf (by simp [f_X0_settled_5])
  | succ fu ih =>
    intro l2 l4 res hf hx
    rw [f_X0_settled_5] at hf
    refine g_iload C (q := 1) rfl dX0_settled_5 rfl ?_
    refine g_iconst (v := 3) C (by decide) dX0_settled_7 rfl ?_
    refine g_icmp_ge (tgt := 33) C dX0_settled_8 (by decide) rfl (fun c7 => ?_) (fun c7 => ?_)
    · replace hf := ift c7 hf
      obtain rfl := Option.some.inj hf
      refine g_sub (lv' := [(2, .long l2)]) [0] rfl ?_
      exact hx
    · replace hf := iff' c7 hf
      refine g_lload_n C rfl (q := 0) rfl dX0_settled_11 rfl ?_
      refine g_lload_n C rfl (q := 0) rfl dX0_settled_12 rfl ?_
      refine g_iload C (q := 1) rfl dX0_settled_13 rfl ?_
      obtain ⟨q8, hq8, hf⟩ := bd hf
      refine g_callS0 (st' := [.long l2]) (as := [.long l2, .int l4]) (st2 := [.int q8, .long l2]) (k := 2) C ⟨wm_RX0_27, ws_X0_least, wi_RX0, wk_X0_least, by decide +kernel⟩ (c_X0_least (l := kL K) (E := kE K)  _ hq8) (by rw [hKR]; exact ⟨rfl, rfl, ⟨by decide, by decide⟩, Nat.le_refl _, Nat.le_refl _⟩) rfl rfl (by simp [Value.category]) rfl dX0_settled_15 rfl ?_
      refine g_gets C (zS C).1.1 wz_RX0_23 dX0_settled_18 rfl ?_
      refine g_iload C (q := 1) rfl dX0_settled_21 rfl ?_
      obtain ⟨g9, hf⟩ := gd hf
      refine g_sild C (zS C).1.2 (inB_in g9) dX0_settled_23 rfl ?_
      refine g_imul C dX0_settled_24 rfl ?_
      refine g_lushr C dX0_settled_25 rfl ?_
      refine g_lstore_n (i := 2) (lv' := [(2, .long ((l2.toUInt64 >>> ((q8 * (z_STRIDE l4.toNatClampNeg)).toInt64.toUInt64 &&& Int64.toUInt64 63)).toInt64)), (4, .int l4)]) C dX0_settled_26 rfl rfl (by rw [hKN]; decide) rfl ?_
      refine g_iinc (v := l4 + (1 : Int32)) (lv' := [(4, .int (l4 + (1 : Int32))), (2, .long ((l2.toUInt64 >>> ((q8 * (z_STRIDE l4.toNatClampNeg)).toInt64.toUInt64 &&& Int64.toUInt64 63)).toInt64))]) (q := 1) C dX0_settled_27 rfl rfl rfl (by rw [hKN]; decide) rfl ?_
      refine g_goto (pc' := 5) C dX0_settled_30 (by decide) ?_
      refine g_sub (lv' := [(2, .long ((l2.toUInt64 >>> ((q8 * (z_STRIDE l4.toNatClampNeg)).toInt64.toUInt64 &&& Int64.toUInt64 63)).toInt64)), (4, .int (l4 + (1 : Int32)))]) [1, 0] rfl ?_
      exact ih _ _ _ hf hx
set_option maxHeartbeats 2000000 in
set_option maxRecDepth 20000 in
theorem c_X0_settled {l : Launch} {E : Ex} {n : Nat} {σ : AH}   {set : Int64} {fu : Nat} (res : Int64) (hf : f_X0_settled fu set = some res) : Con l E yX0_settled (.code yX0_settled cX0_settled 5 (some .long) :: TT) ({ frames := 1, cells := 0, slots := 0, locals := 23 } : Room) 0 0 [.long set] σ n (some (.long res)) σ n := by
  refine con_intro (by decide +kernel) (Nat.le_of_ble_eq_true rfl) ?_
  intro K C hKR hKL hKE hKN hKQ
  subst hKL
  subst hKE
  have C : Cx K RX0 "settled" cX0_settled (some .long) := C
  show G K 0 0 0 [(0, .long set)] [] σ n
  unfold f_X0_settled at hf
  refine g_lload_n C rfl (q := 0) rfl dX0_settled_0 rfl ?_
  refine g_lstore_n (i := 2) (lv' := [(2, .long set), (0, .long set)]) C dX0_settled_1 rfl rfl (by rw [hKN]; decide) rfl ?_
  refine g_iconst (v := 0) C (by decide) dX0_settled_2 rfl ?_
  refine g_istore (i := 4) (lv' := [(4, .int (0 : Int32)), (2, .long set), (0, .long set)]) C dX0_settled_3 rfl (by rw [hKN]; decide) rfl ?_
  refine g_sub (lv' := [(2, .long set), (4, .int (0 : Int32))]) [1, 0] rfl ?_
  obtain ⟨q10, hq10, hf⟩ := bd hf
  refine g_X0_settled_5  C hKR hKN _ _ _ _ hq10 ?_
  refine g_lload_n C rfl (q := 0) rfl dX0_settled_33 rfl ?_
  obtain rfl := Option.some.inj hf
  exact g_lret C hKQ dX0_settled_34
def f_X0_shifted (set : Int64) (axis : Int32) (steps : Int32) : Option Int64 := (if steps ≤ (-4 : Int32) then some (0 : Int64) else (if steps < (4 : Int32) then (if steps < 0 then (if inB axis 3 = true then (if inB ((axis * (4 : Int32)) - steps) 12 = true then some (((set.toUInt64 >>> (((-steps) * (z_STRIDE axis.toNatClampNeg)).toInt64.toUInt64 &&& Int64.toUInt64 63)).toInt64) &&& (z_STAYS ((axis * (4 : Int32)) - steps).toNatClampNeg)) else none) else none) else (if inB ((axis * (4 : Int32)) + steps) 12 = true then (if inB axis 3 = true then some ((set &&& (z_STAYS ((axis * (4 : Int32)) + steps).toNatClampNeg)) <<< ((steps * (z_STRIDE axis.toNatClampNeg)).toInt64 &&& 63)) else none) else none)) else some (0 : Int64)))
set_option maxHeartbeats 2000000 in
set_option maxRecDepth 20000 in
theorem c_X0_shifted {l : Launch} {E : Ex} {n : Nat} {σ : AH}   {set : Int64} {axis : Int32} {steps : Int32} (res : Int64) (hf : f_X0_shifted set axis steps = some res) : Con l E yX0_shifted (.code yX0_shifted cX0_shifted 4 (some .long) :: TT) ({ frames := 0, cells := 0, slots := 0, locals := 0 } : Room) 0 0 [.long set, .int axis, .int steps] σ n (some (.long res)) σ n := by
  refine con_intro (by decide +kernel) (Nat.le_of_ble_eq_true rfl) ?_
  intro K C hKR hKL hKE hKN hKQ
  subst hKL
  subst hKE
  have C : Cx K RX0 "shifted" cX0_shifted (some .long) := C
  show G K 0 0 0 [(0, .long set), (2, .int axis), (3, .int steps)] [] σ n
  unfold f_X0_shifted at hf
  refine g_iload_n C rfl (q := 2) rfl dX0_shifted_0 rfl ?_
  refine g_bipush (v := (-4)) C (by decide) dX0_shifted_1 rfl ?_
  refine g_icmp_le (tgt := 11) C dX0_shifted_3 (by decide) rfl (fun c1 => ?_) (fun c1 => ?_)
  · replace hf := ift c1 hf
    refine g_lconst (v := 0) C (by decide) dX0_shifted_11 rfl ?_
    obtain rfl := Option.some.inj hf
    exact g_lret C hKQ dX0_shifted_12
  · replace hf := iff' c1 hf
    refine g_iload_n C rfl (q := 2) rfl dX0_shifted_6 rfl ?_
    refine g_iconst (v := 4) C (by decide) dX0_shifted_7 rfl ?_
    refine g_icmp_lt (tgt := 13) C dX0_shifted_8 (by decide) rfl (fun c2 => ?_) (fun c2 => ?_)
    · replace hf := ift c2 hf
      refine g_iload_n C rfl (q := 2) rfl dX0_shifted_13 rfl ?_
      refine g_if_lt (tgt := 37) C dX0_shifted_14 (by decide) rfl (fun c3 => ?_) (fun c3 => ?_)
      · replace hf := ift c3 hf
        refine g_lload_n C rfl (q := 0) rfl dX0_shifted_37 rfl ?_
        refine g_iload_n C rfl (q := 2) rfl dX0_shifted_38 rfl ?_
        refine g_ineg C dX0_shifted_39 rfl ?_
        refine g_gets C (zS C).1.1 wz_RX0_23 dX0_shifted_40 rfl ?_
        refine g_iload_n C rfl (q := 1) rfl dX0_shifted_43 rfl ?_
        obtain ⟨g4, hf⟩ := gd hf
        refine g_sild C (zS C).1.2 (inB_in g4) dX0_shifted_44 rfl ?_
        refine g_imul C dX0_shifted_45 rfl ?_
        refine g_lushr C dX0_shifted_46 rfl ?_
        refine g_gets C (zS C).2.2.1.1 wz_RX0_31 dX0_shifted_47 rfl ?_
        refine g_iload_n C rfl (q := 1) rfl dX0_shifted_50 rfl ?_
        refine g_iconst (v := 4) C (by decide) dX0_shifted_51 rfl ?_
        refine g_imul C dX0_shifted_52 rfl ?_
        refine g_iload_n C rfl (q := 2) rfl dX0_shifted_53 rfl ?_
        refine g_isub C dX0_shifted_54 rfl ?_
        obtain ⟨g5, hf⟩ := gd hf
        refine g_slld C (zS C).2.2.1.2 (inB_in g5) dX0_shifted_55 rfl ?_
        refine g_land C dX0_shifted_56 rfl ?_
        obtain rfl := Option.some.inj hf
        exact g_lret C hKQ dX0_shifted_57
      · replace hf := iff' c3 hf
        refine g_lload_n C rfl (q := 0) rfl dX0_shifted_17 rfl ?_
        refine g_gets C (zS C).2.2.1.1 wz_RX0_31 dX0_shifted_18 rfl ?_
        refine g_iload_n C rfl (q := 1) rfl dX0_shifted_21 rfl ?_
        refine g_iconst (v := 4) C (by decide) dX0_shifted_22 rfl ?_
        refine g_imul C dX0_shifted_23 rfl ?_
        refine g_iload_n C rfl (q := 2) rfl dX0_shifted_24 rfl ?_
        refine g_iadd C dX0_shifted_25 rfl ?_
        obtain ⟨g6, hf⟩ := gd hf
        refine g_slld C (zS C).2.2.1.2 (inB_in g6) dX0_shifted_26 rfl ?_
        refine g_land C dX0_shifted_27 rfl ?_
        refine g_iload_n C rfl (q := 2) rfl dX0_shifted_28 rfl ?_
        refine g_gets C (zS C).1.1 wz_RX0_23 dX0_shifted_29 rfl ?_
        refine g_iload_n C rfl (q := 1) rfl dX0_shifted_32 rfl ?_
        obtain ⟨g7, hf⟩ := gd hf
        refine g_sild C (zS C).1.2 (inB_in g7) dX0_shifted_33 rfl ?_
        refine g_imul C dX0_shifted_34 rfl ?_
        refine g_lshl C dX0_shifted_35 rfl ?_
        obtain rfl := Option.some.inj hf
        exact g_lret C hKQ dX0_shifted_36
    · replace hf := iff' c2 hf
      refine g_lconst (v := 0) C (by decide) dX0_shifted_11 rfl ?_
      obtain rfl := Option.some.inj hf
      exact g_lret C hKQ dX0_shifted_12
def f_X0_mirrors (turn : Int32) : Option Int32 := ((f_J6_bitCount_0f7a4 (turn - turn / (8 : Int32) * (8 : Int32))).bind fun q1 => (if bOk (if (if (turn / (8 : Int32)) < (3 : Int32) then (0 : Int32) else (1 : Int32)) = (if (q1 &&& (1 : Int32)) = 0 then (0 : Int32) else (1 : Int32)) then (0 : Int32) else (1 : Int32)) = true then some (if (if (turn / (8 : Int32)) < (3 : Int32) then (0 : Int32) else (1 : Int32)) = (if (q1 &&& (1 : Int32)) = 0 then (0 : Int32) else (1 : Int32)) then (0 : Int32) else (1 : Int32)) else none))
set_option maxHeartbeats 2000000 in
set_option maxRecDepth 20000 in
theorem c_X0_mirrors {l : Launch} {E : Ex} {n : Nat} {σ : AH}   {turn : Int32} (res : Int32) (hf : f_X0_mirrors turn = some res) : Con l E yX0_mirrors (.code yX0_mirrors cX0_mirrors 3 (some .boolean) :: TT) ({ frames := 1, cells := 0, slots := 0, locals := 20 } : Room) 0 0 [.int turn] σ n (some (.int res)) σ n := by
  refine con_intro (by decide +kernel) (Nat.le_of_ble_eq_true rfl) ?_
  intro K C hKR hKL hKE hKN hKQ
  subst hKL
  subst hKE
  have C : Cx K RX0 "mirrors" cX0_mirrors (some .boolean) := C
  show G K 0 0 0 [(0, .int turn)] [] σ n
  unfold f_X0_mirrors at hf
  refine g_iload_n C rfl (q := 0) rfl dX0_mirrors_0 rfl ?_
  refine g_bipush (v := 8) C (by decide) dX0_mirrors_1 rfl ?_
  refine g_idiv C (by decide) dX0_mirrors_3 rfl ?_
  refine g_iconst (v := 3) C (by decide) dX0_mirrors_4 rfl ?_
  have j7 : G K 0 0 13 [(0, .int turn)] [.int (if (turn / (8 : Int32)) < (3 : Int32) then (0 : Int32) else (1 : Int32))] σ n := by
    refine g_istore_n (i := 1) (lv' := [(1, .int (if (turn / (8 : Int32)) < (3 : Int32) then (0 : Int32) else (1 : Int32))), (0, .int turn)]) C dX0_mirrors_13 rfl rfl (by rw [hKN]; decide) rfl ?_
    refine g_iload_n C rfl (q := 1) rfl dX0_mirrors_14 rfl ?_
    refine g_bipush (v := 8) C (by decide) dX0_mirrors_15 rfl ?_
    refine g_irem C (by decide) dX0_mirrors_17 rfl ?_
    obtain ⟨q1, hq1, hf⟩ := bd hf
    refine g_callS0 (st' := []) (as := [.int (turn - turn / (8 : Int32) * (8 : Int32))]) (st2 := [.int q1]) (k := 1) C ⟨wm_RX0_34, ws_J6_bitCount_0f7a4, wi_RJ6, wk_J6_bitCount_0f7a4, by decide +kernel⟩ (c_J6_bitCount_0f7a4 (l := kL K) (E := kE K)  _ hq1) (by rw [hKR]; exact ⟨rfl, rfl, ⟨by decide, by decide⟩, Nat.le_refl _, Nat.le_refl _⟩) rfl rfl (by simp) rfl dX0_mirrors_18 rfl ?_
    refine g_iconst (v := 1) C (by decide) dX0_mirrors_21 rfl ?_
    refine g_iand C dX0_mirrors_22 rfl ?_
    have j5 : G K 0 0 31 [(1, .int (if (turn / (8 : Int32)) < (3 : Int32) then (0 : Int32) else (1 : Int32))), (0, .int turn)] [.int (if (q1 &&& (1 : Int32)) = 0 then (0 : Int32) else (1 : Int32))] σ n := by
      refine g_istore_n (i := 2) (lv' := [(2, .int (if (q1 &&& (1 : Int32)) = 0 then (0 : Int32) else (1 : Int32))), (1, .int (if (turn / (8 : Int32)) < (3 : Int32) then (0 : Int32) else (1 : Int32))), (0, .int turn)]) C dX0_mirrors_31 rfl rfl (by rw [hKN]; decide) rfl ?_
      refine g_iload_n C rfl (q := 1) rfl dX0_mirrors_32 rfl ?_
      refine g_iload_n C rfl (q := 0) rfl dX0_mirrors_33 rfl ?_
      have j3 : G K 0 0 42 [(2, .int (if (q1 &&& (1 : Int32)) = 0 then (0 : Int32) else (1 : Int32))), (1, .int (if (turn / (8 : Int32)) < (3 : Int32) then (0 : Int32) else (1 : Int32))), (0, .int turn)] [.int (if (if (turn / (8 : Int32)) < (3 : Int32) then (0 : Int32) else (1 : Int32)) = (if (q1 &&& (1 : Int32)) = 0 then (0 : Int32) else (1 : Int32)) then (0 : Int32) else (1 : Int32))] σ n := by
        obtain ⟨g2, hf⟩ := gd hf
        obtain rfl := Option.some.inj hf
        exact g_zret C (bOk_n g2) hKQ dX0_mirrors_42
      refine g_icmp_eq (tgt := 41) C dX0_mirrors_34 (by decide) rfl (fun c4 => ?_) (fun c4 => ?_)
      · refine g_iconst (v := 0) C (by decide) dX0_mirrors_41 rfl ?_
        exact g_topI (by rw [if_pos c4]) j3
      · refine g_iconst (v := 1) C (by decide) dX0_mirrors_37 rfl ?_
        refine g_goto (pc' := 42) C dX0_mirrors_38 (by decide) ?_
        exact g_topI (by rw [if_neg c4]) j3
    refine g_if_eq (tgt := 30) C dX0_mirrors_23 (by decide) rfl (fun c6 => ?_) (fun c6 => ?_)
    · refine g_iconst (v := 0) C (by decide) dX0_mirrors_30 rfl ?_
      exact g_topI (by rw [if_pos c6]) j5
    · refine g_iconst (v := 1) C (by decide) dX0_mirrors_26 rfl ?_
      refine g_goto (pc' := 31) C dX0_mirrors_27 (by decide) ?_
      exact g_topI (by rw [if_neg c6]) j5
  refine g_icmp_lt (tgt := 12) C dX0_mirrors_5 (by decide) rfl (fun c8 => ?_) (fun c8 => ?_)
  · refine g_iconst (v := 0) C (by decide) dX0_mirrors_12 rfl ?_
    exact g_topI (by rw [if_pos c8]) j7
  · refine g_iconst (v := 1) C (by decide) dX0_mirrors_8 rfl ?_
    refine g_goto (pc' := 13) C dX0_mirrors_9 (by decide) ?_
    exact g_topI (by rw [if_neg c8]) j7
def f_X0_turned_39  (l3 : Int32) (l4 : Int32) (l9 : Int32) : Nat → Int32 → Int32 → Option Int32
  | 0, _, _ => none
  | fu + 1, l10, l11 => (if (3 : Int32) ≤ l11 then some l10 else (if inB (l3 + l11) 18 = true then (if inB (z_ORDERS (l3 + l11).toNatClampNeg) 3 = true then (if ¬ (z_STRIDE (z_ORDERS (l3 + l11).toNatClampNeg).toNatClampNeg) = 0 then (if inB l11 3 = true then f_X0_turned_39 l3 l4 l9 fu (l10 + ((if (if ((l4 >>> (l11 &&& 31)) &&& (1 : Int32)) = 0 then (0 : Int32) else (1 : Int32)) = 0 then ((l9 / (z_STRIDE (z_ORDERS (l3 + l11).toNatClampNeg).toNatClampNeg)) - (l9 / (z_STRIDE (z_ORDERS (l3 + l11).toNatClampNeg).toNatClampNeg)) / (4 : Int32) * (4 : Int32)) else ((3 : Int32) - ((l9 / (z_STRIDE (z_ORDERS (l3 + l11).toNatClampNeg).toNatClampNeg)) - (l9 / (z_STRIDE (z_ORDERS (l3 + l11).toNatClampNeg).toNatClampNeg)) / (4 : Int32) * (4 : Int32)))) * (z_STRIDE l11.toNatClampNeg))) (l11 + (1 : Int32)) else none) else none) else none) else none))
def f_X0_turned_19  (l3 : Int32) (l4 : Int32) : Nat → Int64 → Int64 → Option Int64
  | 0, _, _ => none
  | fu + 1, l5, l7 => (if l7 = (0 : Int64) then some l5 else ((f_X0_lowest l7).bind fun q62 => ((f_X0_turned_39 l3 l4 q62 fu (0 : Int32) (0 : Int32)).bind fun q90 => f_X0_turned_19 l3 l4 fu (l5 ||| ((1 : Int64) <<< (q90.toInt64 &&& 63))) (l7 &&& (l7 - (1 : Int64))))))
def f_X0_turned (fu : Nat) (set : Int64) (turn : Int32) : Option Int64 := ((f_X0_turned_19 ((turn / (8 : Int32)) * (3 : Int32)) (turn - turn / (8 : Int32) * (8 : Int32)) fu (0 : Int64) set).bind fun q91 => some q91)
set_option maxHeartbeats 2000000 in
set_option maxRecDepth 20000 in
theorem g_X0_turned_39 {K : KX} {n : Nat} {σ : AH}  {l3 : Int32} {l4 : Int32} {l5 : Int64} {l7 : Int64} {l9 : Int32} (C : Cx K RX0 "turned" cX0_turned (some .long)) (hKR : kR K = ({ frames := 2, cells := 0, slots := 0, locals := 42 } : Room)) (hKN : kN K = 14) : ∀ (fu : Nat) (l10 : Int32) (l11 : Int32) (res : Int32), f_X0_turned_39 l3 l4 l9 fu l10 l11 = some res → G K 0 0 113 [(3, .int l3), (4, .int l4), (5, .long l5), (7, .long l7), (10, .int res)] [] σ n → G K 0 0 39 [(3, .int l3), (4, .int l4), (5, .long l5), (7, .long l7), (9, .int l9), (10, .int l10), (11, .int l11)] [] σ n := by
  intro fu
  induction fu with
  | zero =>
    intro l10 l11 res hf
    exact absurd hf (by simp [f_X0_turned_39])
  | succ fu ih =>
    intro l10 l11 res hf hx
    rw [f_X0_turned_39] at hf
    refine g_iload C (q := 6) rfl dX0_turned_39 rfl ?_
    refine g_iconst (v := 3) C (by decide) dX0_turned_41 rfl ?_
    refine g_icmp_ge (tgt := 113) C dX0_turned_42 (by decide) rfl (fun c81 => ?_) (fun c81 => ?_)
    · replace hf := ift c81 hf
      obtain rfl := Option.some.inj hf
      refine g_sub (lv' := [(3, .int l3), (4, .int l4), (5, .long l5), (7, .long l7), (10, .int l10)]) [0, 1, 2, 3, 5] rfl ?_
      exact hx
    · replace hf := iff' c81 hf
      refine g_iload C (q := 4) rfl dX0_turned_45 rfl ?_
      refine g_gets C (zS C).1.1 wz_RX0_23 dX0_turned_47 rfl ?_
      refine g_gets C (zS C).2.2.2.1 wz_RX0_42 dX0_turned_50 rfl ?_
      refine g_iload_n C rfl (q := 0) rfl dX0_turned_53 rfl ?_
      refine g_iload C (q := 6) rfl dX0_turned_54 rfl ?_
      refine g_iadd C dX0_turned_56 rfl ?_
      obtain ⟨g82, hf⟩ := gd hf
      refine g_sild C (zS C).2.2.2.2 (inB_in g82) dX0_turned_57 rfl ?_
      obtain ⟨g83, hf⟩ := gd hf
      refine g_sild C (zS C).1.2 (inB_in g83) dX0_turned_58 rfl ?_
      obtain ⟨g84, hf⟩ := gd hf
      refine g_idiv C g84 dX0_turned_59 rfl ?_
      refine g_iconst (v := 4) C (by decide) dX0_turned_60 rfl ?_
      refine g_irem C (by decide) dX0_turned_61 rfl ?_
      refine g_istore (i := 12) (lv' := [(12, .int ((l9 / (z_STRIDE (z_ORDERS (l3 + l11).toNatClampNeg).toNatClampNeg)) - (l9 / (z_STRIDE (z_ORDERS (l3 + l11).toNatClampNeg).toNatClampNeg)) / (4 : Int32) * (4 : Int32))), (3, .int l3), (4, .int l4), (5, .long l5), (7, .long l7), (9, .int l9), (10, .int l10), (11, .int l11)]) C dX0_turned_62 rfl (by rw [hKN]; decide) rfl ?_
      refine g_iload C (q := 2) rfl dX0_turned_64 rfl ?_
      refine g_iload C (q := 7) rfl dX0_turned_66 rfl ?_
      refine g_ishr C dX0_turned_68 rfl ?_
      refine g_iconst (v := 1) C (by decide) dX0_turned_69 rfl ?_
      refine g_iand C dX0_turned_70 rfl ?_
      have j88 : G K 0 0 79 [(12, .int ((l9 / (z_STRIDE (z_ORDERS (l3 + l11).toNatClampNeg).toNatClampNeg)) - (l9 / (z_STRIDE (z_ORDERS (l3 + l11).toNatClampNeg).toNatClampNeg)) / (4 : Int32) * (4 : Int32))), (3, .int l3), (4, .int l4), (5, .long l5), (7, .long l7), (9, .int l9), (10, .int l10), (11, .int l11)] [.int (if ((l4 >>> (l11 &&& 31)) &&& (1 : Int32)) = 0 then (0 : Int32) else (1 : Int32))] σ n := by
        refine g_istore (i := 13) (lv' := [(13, .int (if ((l4 >>> (l11 &&& 31)) &&& (1 : Int32)) = 0 then (0 : Int32) else (1 : Int32))), (12, .int ((l9 / (z_STRIDE (z_ORDERS (l3 + l11).toNatClampNeg).toNatClampNeg)) - (l9 / (z_STRIDE (z_ORDERS (l3 + l11).toNatClampNeg).toNatClampNeg)) / (4 : Int32) * (4 : Int32))), (3, .int l3), (4, .int l4), (5, .long l5), (7, .long l7), (9, .int l9), (10, .int l10), (11, .int l11)]) C dX0_turned_79 rfl (by rw [hKN]; decide) rfl ?_
        refine g_iload C (q := 7) rfl dX0_turned_81 rfl ?_
        refine g_iload C (q := 0) rfl dX0_turned_83 rfl ?_
        have j86 : G K 0 0 97 [(13, .int (if ((l4 >>> (l11 &&& 31)) &&& (1 : Int32)) = 0 then (0 : Int32) else (1 : Int32))), (12, .int ((l9 / (z_STRIDE (z_ORDERS (l3 + l11).toNatClampNeg).toNatClampNeg)) - (l9 / (z_STRIDE (z_ORDERS (l3 + l11).toNatClampNeg).toNatClampNeg)) / (4 : Int32) * (4 : Int32))), (3, .int l3), (4, .int l4), (5, .long l5), (7, .long l7), (9, .int l9), (10, .int l10), (11, .int l11)] [.int (if (if ((l4 >>> (l11 &&& 31)) &&& (1 : Int32)) = 0 then (0 : Int32) else (1 : Int32)) = 0 then ((l9 / (z_STRIDE (z_ORDERS (l3 + l11).toNatClampNeg).toNatClampNeg)) - (l9 / (z_STRIDE (z_ORDERS (l3 + l11).toNatClampNeg).toNatClampNeg)) / (4 : Int32) * (4 : Int32)) else ((3 : Int32) - ((l9 / (z_STRIDE (z_ORDERS (l3 + l11).toNatClampNeg).toNatClampNeg)) - (l9 / (z_STRIDE (z_ORDERS (l3 + l11).toNatClampNeg).toNatClampNeg)) / (4 : Int32) * (4 : Int32)))), .int l10] σ n := by
          refine g_gets C (zS C).1.1 wz_RX0_23 dX0_turned_97 rfl ?_
          refine g_iload C (q := 8) rfl dX0_turned_100 rfl ?_
          obtain ⟨g85, hf⟩ := gd hf
          refine g_sild C (zS C).1.2 (inB_in g85) dX0_turned_102 rfl ?_
          refine g_imul C dX0_turned_103 rfl ?_
          refine g_iadd C dX0_turned_104 rfl ?_
          refine g_istore (i := 10) (lv' := [(10, .int (l10 + ((if (if ((l4 >>> (l11 &&& 31)) &&& (1 : Int32)) = 0 then (0 : Int32) else (1 : Int32)) = 0 then ((l9 / (z_STRIDE (z_ORDERS (l3 + l11).toNatClampNeg).toNatClampNeg)) - (l9 / (z_STRIDE (z_ORDERS (l3 + l11).toNatClampNeg).toNatClampNeg)) / (4 : Int32) * (4 : Int32)) else ((3 : Int32) - ((l9 / (z_STRIDE (z_ORDERS (l3 + l11).toNatClampNeg).toNatClampNeg)) - (l9 / (z_STRIDE (z_ORDERS (l3 + l11).toNatClampNeg).toNatClampNeg)) / (4 : Int32) * (4 : Int32)))) * (z_STRIDE l11.toNatClampNeg)))), (13, .int (if ((l4 >>> (l11 &&& 31)) &&& (1 : Int32)) = 0 then (0 : Int32) else (1 : Int32))), (12, .int ((l9 / (z_STRIDE (z_ORDERS (l3 + l11).toNatClampNeg).toNatClampNeg)) - (l9 / (z_STRIDE (z_ORDERS (l3 + l11).toNatClampNeg).toNatClampNeg)) / (4 : Int32) * (4 : Int32))), (3, .int l3), (4, .int l4), (5, .long l5), (7, .long l7), (9, .int l9), (11, .int l11)]) C dX0_turned_105 rfl (by rw [hKN]; decide) rfl ?_
          refine g_iinc (v := l11 + (1 : Int32)) (lv' := [(11, .int (l11 + (1 : Int32))), (10, .int (l10 + ((if (if ((l4 >>> (l11 &&& 31)) &&& (1 : Int32)) = 0 then (0 : Int32) else (1 : Int32)) = 0 then ((l9 / (z_STRIDE (z_ORDERS (l3 + l11).toNatClampNeg).toNatClampNeg)) - (l9 / (z_STRIDE (z_ORDERS (l3 + l11).toNatClampNeg).toNatClampNeg)) / (4 : Int32) * (4 : Int32)) else ((3 : Int32) - ((l9 / (z_STRIDE (z_ORDERS (l3 + l11).toNatClampNeg).toNatClampNeg)) - (l9 / (z_STRIDE (z_ORDERS (l3 + l11).toNatClampNeg).toNatClampNeg)) / (4 : Int32) * (4 : Int32)))) * (z_STRIDE l11.toNatClampNeg)))), (13, .int (if ((l4 >>> (l11 &&& 31)) &&& (1 : Int32)) = 0 then (0 : Int32) else (1 : Int32))), (12, .int ((l9 / (z_STRIDE (z_ORDERS (l3 + l11).toNatClampNeg).toNatClampNeg)) - (l9 / (z_STRIDE (z_ORDERS (l3 + l11).toNatClampNeg).toNatClampNeg)) / (4 : Int32) * (4 : Int32))), (3, .int l3), (4, .int l4), (5, .long l5), (7, .long l7), (9, .int l9)]) (q := 8) C dX0_turned_107 rfl rfl rfl (by rw [hKN]; decide) rfl ?_
          refine g_goto (pc' := 39) C dX0_turned_110 (by decide) ?_
          refine g_sub (lv' := [(3, .int l3), (4, .int l4), (5, .long l5), (7, .long l7), (9, .int l9), (10, .int (l10 + ((if (if ((l4 >>> (l11 &&& 31)) &&& (1 : Int32)) = 0 then (0 : Int32) else (1 : Int32)) = 0 then ((l9 / (z_STRIDE (z_ORDERS (l3 + l11).toNatClampNeg).toNatClampNeg)) - (l9 / (z_STRIDE (z_ORDERS (l3 + l11).toNatClampNeg).toNatClampNeg)) / (4 : Int32) * (4 : Int32)) else ((3 : Int32) - ((l9 / (z_STRIDE (z_ORDERS (l3 + l11).toNatClampNeg).toNatClampNeg)) - (l9 / (z_STRIDE (z_ORDERS (l3 + l11).toNatClampNeg).toNatClampNeg)) / (4 : Int32) * (4 : Int32)))) * (z_STRIDE l11.toNatClampNeg)))), (11, .int (l11 + (1 : Int32)))]) [4, 5, 6, 7, 8, 1, 0] rfl ?_
          exact ih _ _ _ hf hx
        refine g_if_eq (tgt := 95) C dX0_turned_85 (by decide) rfl (fun c87 => ?_) (fun c87 => ?_)
        · refine g_iload C (q := 1) rfl dX0_turned_95 rfl ?_
          exact g_topI (by rw [if_pos c87]) j86
        · refine g_iconst (v := 3) C (by decide) dX0_turned_88 rfl ?_
          refine g_iload C (q := 1) rfl dX0_turned_89 rfl ?_
          refine g_isub C dX0_turned_91 rfl ?_
          refine g_goto (pc' := 97) C dX0_turned_92 (by decide) ?_
          exact g_topI (by rw [if_neg c87]) j86
      refine g_if_eq (tgt := 78) C dX0_turned_71 (by decide) rfl (fun c89 => ?_) (fun c89 => ?_)
      · refine g_iconst (v := 0) C (by decide) dX0_turned_78 rfl ?_
        exact g_topI (by rw [if_pos c89]) j88
      · refine g_iconst (v := 1) C (by decide) dX0_turned_74 rfl ?_
        refine g_goto (pc' := 79) C dX0_turned_75 (by decide) ?_
        exact g_topI (by rw [if_neg c89]) j88
set_option maxHeartbeats 2000000 in
set_option maxRecDepth 20000 in
theorem g_X0_turned_19 {K : KX} {n : Nat} {σ : AH}  {l3 : Int32} {l4 : Int32} (C : Cx K RX0 "turned" cX0_turned (some .long)) (hKR : kR K = ({ frames := 2, cells := 0, slots := 0, locals := 42 } : Room)) (hKN : kN K = 14) : ∀ (fu : Nat) (l5 : Int64) (l7 : Int64) (res : Int64), f_X0_turned_19 l3 l4 fu l5 l7 = some res → G K 0 0 134 [(5, .long res)] [] σ n → G K 0 0 19 [(3, .int l3), (4, .int l4), (5, .long l5), (7, .long l7)] [] σ n := by
  intro fu
  induction fu with
  | zero =>
    intro l5 l7 res hf
    exact absurd hf (by simp [f_X0_turned_19])
  | succ fu ih =>
    intro l5 l7 res hf hx
    rw [f_X0_turned_19] at hf
    refine g_lload C (q := 3) rfl dX0_turned_19 rfl ?_
    refine g_lconst (v := 0) C (by decide) dX0_turned_21 rfl ?_
    refine g_lif_eq (tgt := 134) C dX0_turned_22 rfl dX0_turned_23 (by decide) rfl (fun c61 => ?_) (fun c61 => ?_)
    · replace hf := ift c61 hf
      obtain rfl := Option.some.inj hf
      refine g_sub (lv' := [(5, .long l5)]) [2] rfl ?_
      exact hx
    · replace hf := iff' c61 hf
      refine g_lload C (q := 3) rfl dX0_turned_26 rfl ?_
      obtain ⟨q62, hq62, hf⟩ := bd hf
      refine g_callS0 (st' := []) (as := [.long l7]) (st2 := [.int q62]) (k := 1) C ⟨wm_RX0_39, ws_X0_lowest, wi_RX0, wk_X0_lowest, by decide +kernel⟩ (c_X0_lowest (l := kL K) (E := kE K)  _ hq62) (by rw [hKR]; exact ⟨rfl, rfl, ⟨by decide, by decide⟩, Nat.le_refl _, Nat.le_refl _⟩) rfl rfl (by simp) rfl dX0_turned_28 rfl ?_
      refine g_istore (i := 9) (lv' := [(9, .int q62), (3, .int l3), (4, .int l4), (5, .long l5), (7, .long l7)]) C dX0_turned_31 rfl (by rw [hKN]; decide) rfl ?_
      refine g_iconst (v := 0) C (by decide) dX0_turned_33 rfl ?_
      refine g_istore (i := 10) (lv' := [(10, .int (0 : Int32)), (9, .int q62), (3, .int l3), (4, .int l4), (5, .long l5), (7, .long l7)]) C dX0_turned_34 rfl (by rw [hKN]; decide) rfl ?_
      refine g_iconst (v := 0) C (by decide) dX0_turned_36 rfl ?_
      refine g_istore (i := 11) (lv' := [(11, .int (0 : Int32)), (10, .int (0 : Int32)), (9, .int q62), (3, .int l3), (4, .int l4), (5, .long l5), (7, .long l7)]) C dX0_turned_37 rfl (by rw [hKN]; decide) rfl ?_
      refine g_sub (lv' := [(3, .int l3), (4, .int l4), (5, .long l5), (7, .long l7), (9, .int q62), (10, .int (0 : Int32)), (11, .int (0 : Int32))]) [3, 4, 5, 6, 2, 1, 0] rfl ?_
      obtain ⟨q90, hq90, hf⟩ := bd hf
      refine g_X0_turned_39 (l3 := l3) (l4 := l4) (l5 := l5) (l7 := l7) (l9 := q62) C hKR hKN _ _ _ _ hq90 ?_
      refine g_lload C (q := 2) rfl dX0_turned_113 rfl ?_
      refine g_lconst (v := 1) C (by decide) dX0_turned_115 rfl ?_
      refine g_iload C (q := 4) rfl dX0_turned_116 rfl ?_
      refine g_lshl C dX0_turned_118 rfl ?_
      refine g_lor C dX0_turned_119 rfl ?_
      refine g_lstore (i := 5) (lv' := [(5, .long (l5 ||| ((1 : Int64) <<< (q90.toInt64 &&& 63)))), (3, .int l3), (4, .int l4), (7, .long l7), (10, .int q90)]) C dX0_turned_120 rfl (by rw [hKN]; decide) rfl ?_
      refine g_lload C (q := 3) rfl dX0_turned_122 rfl ?_
      refine g_lload C (q := 3) rfl dX0_turned_124 rfl ?_
      refine g_lconst (v := 1) C (by decide) dX0_turned_126 rfl ?_
      refine g_lsub C dX0_turned_127 rfl ?_
      refine g_land C dX0_turned_128 rfl ?_
      refine g_lstore (i := 7) (lv' := [(7, .long (l7 &&& (l7 - (1 : Int64)))), (5, .long (l5 ||| ((1 : Int64) <<< (q90.toInt64 &&& 63)))), (3, .int l3), (4, .int l4), (10, .int q90)]) C dX0_turned_129 rfl (by rw [hKN]; decide) rfl ?_
      refine g_goto (pc' := 19) C dX0_turned_131 (by decide) ?_
      refine g_sub (lv' := [(3, .int l3), (4, .int l4), (5, .long (l5 ||| ((1 : Int64) <<< (q90.toInt64 &&& 63)))), (7, .long (l7 &&& (l7 - (1 : Int64))))]) [2, 3, 1, 0] rfl ?_
      exact ih _ _ _ hf hx
set_option maxHeartbeats 2000000 in
set_option maxRecDepth 20000 in
theorem c_X0_turned {l : Launch} {E : Ex} {n : Nat} {σ : AH}   {set : Int64} {turn : Int32} {fu : Nat} (res : Int64) (hf : f_X0_turned fu set turn = some res) : Con l E yX0_turned (.code yX0_turned cX0_turned 14 (some .long) :: TT) ({ frames := 2, cells := 0, slots := 0, locals := 42 } : Room) 0 0 [.long set, .int turn] σ n (some (.long res)) σ n := by
  refine con_intro (by decide +kernel) (Nat.le_of_ble_eq_true rfl) ?_
  intro K C hKR hKL hKE hKN hKQ
  subst hKL
  subst hKE
  have C : Cx K RX0 "turned" cX0_turned (some .long) := C
  show G K 0 0 0 [(0, .long set), (2, .int turn)] [] σ n
  unfold f_X0_turned at hf
  refine g_iload_n C rfl (q := 1) rfl dX0_turned_0 rfl ?_
  refine g_bipush (v := 8) C (by decide) dX0_turned_1 rfl ?_
  refine g_idiv C (by decide) dX0_turned_3 rfl ?_
  refine g_iconst (v := 3) C (by decide) dX0_turned_4 rfl ?_
  refine g_imul C dX0_turned_5 rfl ?_
  refine g_istore_n (i := 3) (lv' := [(3, .int ((turn / (8 : Int32)) * (3 : Int32))), (0, .long set), (2, .int turn)]) C dX0_turned_6 rfl rfl (by rw [hKN]; decide) rfl ?_
  refine g_iload_n C rfl (q := 2) rfl dX0_turned_7 rfl ?_
  refine g_bipush (v := 8) C (by decide) dX0_turned_8 rfl ?_
  refine g_irem C (by decide) dX0_turned_10 rfl ?_
  refine g_istore (i := 4) (lv' := [(4, .int (turn - turn / (8 : Int32) * (8 : Int32))), (3, .int ((turn / (8 : Int32)) * (3 : Int32))), (0, .long set), (2, .int turn)]) C dX0_turned_11 rfl (by rw [hKN]; decide) rfl ?_
  refine g_lconst (v := 0) C (by decide) dX0_turned_13 rfl ?_
  refine g_lstore (i := 5) (lv' := [(5, .long (0 : Int64)), (4, .int (turn - turn / (8 : Int32) * (8 : Int32))), (3, .int ((turn / (8 : Int32)) * (3 : Int32))), (0, .long set), (2, .int turn)]) C dX0_turned_14 rfl (by rw [hKN]; decide) rfl ?_
  refine g_lload_n C rfl (q := 3) rfl dX0_turned_16 rfl ?_
  refine g_lstore (i := 7) (lv' := [(7, .long set), (5, .long (0 : Int64)), (4, .int (turn - turn / (8 : Int32) * (8 : Int32))), (3, .int ((turn / (8 : Int32)) * (3 : Int32))), (0, .long set), (2, .int turn)]) C dX0_turned_17 rfl (by rw [hKN]; decide) rfl ?_
  refine g_sub (lv' := [(3, .int ((turn / (8 : Int32)) * (3 : Int32))), (4, .int (turn - turn / (8 : Int32) * (8 : Int32))), (5, .long (0 : Int64)), (7, .long set)]) [3, 2, 1, 0] rfl ?_
  obtain ⟨q91, hq91, hf⟩ := bd hf
  refine g_X0_turned_19 (l3 := (turn / (8 : Int32)) * (3 : Int32)) (l4 := turn - turn / (8 : Int32) * (8 : Int32)) C hKR hKN _ _ _ _ hq91 ?_
  refine g_lload C (q := 0) rfl dX0_turned_134 rfl ?_
  obtain rfl := Option.some.inj hf
  exact g_lret C hKQ dX0_turned_136
def f_X0_neighbours_5  (l0 : Int64) : Nat → Int64 → Int32 → Option Int64
  | 0, _, _ => none
  | fu + 1, l2, l4 => (if (3 : Int32) ≤ l4 then some l2 else ((f_X0_shifted l0 l4 (1 : Int32)).bind fun q8 => ((f_X0_shifted l0 l4 (-1 : Int32)).bind fun q9 => f_X0_neighbours_5 l0 fu (l2 ||| (q8 ||| q9)) (l4 + (1 : Int32)))))
def f_X0_neighbours (fu : Nat) (set : Int64) : Option Int64 := ((f_X0_neighbours_5 set fu (0 : Int64) (0 : Int32)).bind fun q10 => some q10)
set_option maxHeartbeats 2000000 in
set_option maxRecDepth 20000 in
theorem g_X0_neighbours_5 {K : KX} {n : Nat} {σ : AH}  {l0 : Int64} (C : Cx K RX0 "neighbours" cX0_neighbours (some .long)) (hKR : kR K = ({ frames := 1, cells := 0, slots := 0, locals := 23 } : Room)) (hKN : kN K = 5) : ∀ (fu : Nat) (l2 : Int64) (l4 : Int32) (res : Int64), f_X0_neighbours_5 l0 fu l2 l4 = some res → G K 0 0 35 [(2, .long res)] [] σ n → G K 0 0 5 [(0, .long l0), (2, .long l2), (4, .int l4)] [] σ n := by
  intro fu
  induction fu with
  | zero =>
    intro l2 l4 res hf
    exact absurd hf (by simp [f_X0_neighbours_5])
  | succ fu ih =>
    intro l2 l4 res hf hx
    rw [f_X0_neighbours_5] at hf
    refine g_iload C (q := 2) rfl dX0_neighbours_5 rfl ?_
    refine g_iconst (v := 3) C (by decide) dX0_neighbours_7 rfl ?_
    refine g_icmp_ge (tgt := 35) C dX0_neighbours_8 (by decide) rfl (fun c7 => ?_) (fun c7 => ?_)
    · replace hf := ift c7 hf
      obtain rfl := Option.some.inj hf
      refine g_sub (lv' := [(2, .long l2)]) [1] rfl ?_
      exact hx
    · replace hf := iff' c7 hf
      refine g_lload_n C rfl (q := 1) rfl dX0_neighbours_11 rfl ?_
      refine g_lload_n C rfl (q := 0) rfl dX0_neighbours_12 rfl ?_
      refine g_iload C (q := 2) rfl dX0_neighbours_13 rfl ?_
      refine g_iconst (v := 1) C (by decide) dX0_neighbours_15 rfl ?_
      obtain ⟨q8, hq8, hf⟩ := bd hf
      refine g_callS0 (st' := [.long l2]) (as := [.long l0, .int l4, .int (1 : Int32)]) (st2 := [.long q8, .long l2]) (k := 3) C ⟨wm_RX0_49, ws_X0_shifted, wi_RX0, wk_X0_shifted, by decide +kernel⟩ (c_X0_shifted (l := kL K) (E := kE K)  _ hq8) (by rw [hKR]; exact ⟨rfl, rfl, ⟨by decide, by decide⟩, Nat.le_refl _, Nat.le_refl _⟩) rfl rfl (by simp [Value.category]) rfl dX0_neighbours_16 rfl ?_
      refine g_lload_n C rfl (q := 0) rfl dX0_neighbours_19 rfl ?_
      refine g_iload C (q := 2) rfl dX0_neighbours_20 rfl ?_
      refine g_iconst (v := (-1)) C (by decide) dX0_neighbours_22 rfl ?_
      obtain ⟨q9, hq9, hf⟩ := bd hf
      refine g_callS0 (st' := [.long q8, .long l2]) (as := [.long l0, .int l4, .int (-1 : Int32)]) (st2 := [.long q9, .long q8, .long l2]) (k := 3) C ⟨wm_RX0_49, ws_X0_shifted, wi_RX0, wk_X0_shifted, by decide +kernel⟩ (c_X0_shifted (l := kL K) (E := kE K)  _ hq9) (by rw [hKR]; exact ⟨rfl, rfl, ⟨by decide, by decide⟩, Nat.le_refl _, Nat.le_refl _⟩) rfl rfl (by simp [Value.category]) rfl dX0_neighbours_23 rfl ?_
      refine g_lor C dX0_neighbours_26 rfl ?_
      refine g_lor C dX0_neighbours_27 rfl ?_
      refine g_lstore_n (i := 2) (lv' := [(2, .long (l2 ||| (q8 ||| q9))), (0, .long l0), (4, .int l4)]) C dX0_neighbours_28 rfl rfl (by rw [hKN]; decide) rfl ?_
      refine g_iinc (v := l4 + (1 : Int32)) (lv' := [(4, .int (l4 + (1 : Int32))), (2, .long (l2 ||| (q8 ||| q9))), (0, .long l0)]) (q := 2) C dX0_neighbours_29 rfl rfl rfl (by rw [hKN]; decide) rfl ?_
      refine g_goto (pc' := 5) C dX0_neighbours_32 (by decide) ?_
      refine g_sub (lv' := [(0, .long l0), (2, .long (l2 ||| (q8 ||| q9))), (4, .int (l4 + (1 : Int32)))]) [2, 1, 0] rfl ?_
      exact ih _ _ _ hf hx
set_option maxHeartbeats 2000000 in
set_option maxRecDepth 20000 in
theorem c_X0_neighbours {l : Launch} {E : Ex} {n : Nat} {σ : AH}   {set : Int64} {fu : Nat} (res : Int64) (hf : f_X0_neighbours fu set = some res) : Con l E yX0_neighbours (.code yX0_neighbours cX0_neighbours 5 (some .long) :: TT) ({ frames := 1, cells := 0, slots := 0, locals := 23 } : Room) 0 0 [.long set] σ n (some (.long res)) σ n := by
  refine con_intro (by decide +kernel) (Nat.le_of_ble_eq_true rfl) ?_
  intro K C hKR hKL hKE hKN hKQ
  subst hKL
  subst hKE
  have C : Cx K RX0 "neighbours" cX0_neighbours (some .long) := C
  show G K 0 0 0 [(0, .long set)] [] σ n
  unfold f_X0_neighbours at hf
  refine g_lconst (v := 0) C (by decide) dX0_neighbours_0 rfl ?_
  refine g_lstore_n (i := 2) (lv' := [(2, .long (0 : Int64)), (0, .long set)]) C dX0_neighbours_1 rfl rfl (by rw [hKN]; decide) rfl ?_
  refine g_iconst (v := 0) C (by decide) dX0_neighbours_2 rfl ?_
  refine g_istore (i := 4) (lv' := [(4, .int (0 : Int32)), (2, .long (0 : Int64)), (0, .long set)]) C dX0_neighbours_3 rfl (by rw [hKN]; decide) rfl ?_
  refine g_sub (lv' := [(0, .long set), (2, .long (0 : Int64)), (4, .int (0 : Int32))]) [2, 1, 0] rfl ?_
  obtain ⟨q10, hq10, hf⟩ := bd hf
  refine g_X0_neighbours_5 (l0 := set) C hKR hKN _ _ _ _ hq10 ?_
  refine g_lload_n C rfl (q := 0) rfl dX0_neighbours_35 rfl ?_
  obtain rfl := Option.some.inj hf
  exact g_lret C hKQ dX0_neighbours_36
def f_X0_hangsTogether_8  (l0 : Int64) : Nat → Int64 → Int32 → Option Int64
  | 0, _, _ => none
  | fu + 1, l2, l4 => (if (10 : Int32) ≤ l4 then some l2 else ((f_X0_neighbours fu l2).bind fun q6 => f_X0_hangsTogether_8 l0 fu (l2 ||| (q6 &&& l0)) (l4 + (1 : Int32))))
def f_X0_hangsTogether (fu : Nat) (set : Int64) : Option Int32 := ((f_X0_hangsTogether_8 set fu (set &&& (-set)) (0 : Int32)).bind fun q7 => (if bOk (if set = (0 : Int64) then (0 : Int32) else (if q7 = set then (1 : Int32) else (0 : Int32))) = true then some (if set = (0 : Int64) then (0 : Int32) else (if q7 = set then (1 : Int32) else (0 : Int32))) else none))
set_option maxHeartbeats 2000000 in
set_option maxRecDepth 20000 in
theorem g_X0_hangsTogether_8 {K : KX} {n : Nat} {σ : AH}  {l0 : Int64} (C : Cx K RX0 "hangsTogether" cX0_hangsTogether (some .boolean)) (hKR : kR K = ({ frames := 2, cells := 0, slots := 0, locals := 47 } : Room)) (hKN : kN K = 5) : ∀ (fu : Nat) (l2 : Int64) (l4 : Int32) (res : Int64), f_X0_hangsTogether_8 l0 fu l2 l4 = some res → G K 0 0 30 [(0, .long l0), (2, .long res)] [] σ n → G K 0 0 8 [(0, .long l0), (2, .long l2), (4, .int l4)] [] σ n := by
  intro fu
  induction fu with
  | zero =>
    intro l2 l4 res hf
    exact absurd hf (by simp [f_X0_hangsTogether_8])
  | succ fu ih =>
    intro l2 l4 res hf hx
    rw [f_X0_hangsTogether_8] at hf
    refine g_iload C (q := 2) rfl dX0_hangsTogether_8 rfl ?_
    refine g_bipush (v := 10) C (by decide) dX0_hangsTogether_10 rfl ?_
    refine g_icmp_ge (tgt := 30) C dX0_hangsTogether_12 (by decide) rfl (fun c5 => ?_) (fun c5 => ?_)
    · replace hf := ift c5 hf
      obtain rfl := Option.some.inj hf
      refine g_sub (lv' := [(0, .long l0), (2, .long l2)]) [0, 1] rfl ?_
      exact hx
    · replace hf := iff' c5 hf
      refine g_lload_n C rfl (q := 1) rfl dX0_hangsTogether_15 rfl ?_
      refine g_lload_n C rfl (q := 1) rfl dX0_hangsTogether_16 rfl ?_
      obtain ⟨q6, hq6, hf⟩ := bd hf
      refine g_callS0 (st' := [.long l2]) (as := [.long l2]) (st2 := [.long q6, .long l2]) (k := 1) C ⟨wm_RX0_45, ws_X0_neighbours, wi_RX0, wk_X0_neighbours, by decide +kernel⟩ (c_X0_neighbours (l := kL K) (E := kE K)  _ hq6) (by rw [hKR]; exact ⟨rfl, rfl, ⟨by decide, by decide⟩, Nat.le_refl _, Nat.le_refl _⟩) rfl rfl (by simp [Value.category]) rfl dX0_hangsTogether_17 rfl ?_
      refine g_lload_n C rfl (q := 0) rfl dX0_hangsTogether_20 rfl ?_
      refine g_land C dX0_hangsTogether_21 rfl ?_
      refine g_lor C dX0_hangsTogether_22 rfl ?_
      refine g_lstore_n (i := 2) (lv' := [(2, .long (l2 ||| (q6 &&& l0))), (0, .long l0), (4, .int l4)]) C dX0_hangsTogether_23 rfl rfl (by rw [hKN]; decide) rfl ?_
      refine g_iinc (v := l4 + (1 : Int32)) (lv' := [(4, .int (l4 + (1 : Int32))), (2, .long (l2 ||| (q6 &&& l0))), (0, .long l0)]) (q := 2) C dX0_hangsTogether_24 rfl rfl rfl (by rw [hKN]; decide) rfl ?_
      refine g_goto (pc' := 8) C dX0_hangsTogether_27 (by decide) ?_
      refine g_sub (lv' := [(0, .long l0), (2, .long (l2 ||| (q6 &&& l0))), (4, .int (l4 + (1 : Int32)))]) [2, 1, 0] rfl ?_
      exact ih _ _ _ hf hx
set_option maxHeartbeats 2000000 in
set_option maxRecDepth 20000 in
theorem c_X0_hangsTogether {l : Launch} {E : Ex} {n : Nat} {σ : AH}   {set : Int64} {fu : Nat} (res : Int32) (hf : f_X0_hangsTogether fu set = some res) : Con l E yX0_hangsTogether (.code yX0_hangsTogether cX0_hangsTogether 5 (some .boolean) :: TT) ({ frames := 2, cells := 0, slots := 0, locals := 47 } : Room) 0 0 [.long set] σ n (some (.int res)) σ n := by
  refine con_intro (by decide +kernel) (Nat.le_of_ble_eq_true rfl) ?_
  intro K C hKR hKL hKE hKN hKQ
  subst hKL
  subst hKE
  have C : Cx K RX0 "hangsTogether" cX0_hangsTogether (some .boolean) := C
  show G K 0 0 0 [(0, .long set)] [] σ n
  unfold f_X0_hangsTogether at hf
  refine g_lload_n C rfl (q := 0) rfl dX0_hangsTogether_0 rfl ?_
  refine g_lload_n C rfl (q := 0) rfl dX0_hangsTogether_1 rfl ?_
  refine g_lneg C dX0_hangsTogether_2 rfl ?_
  refine g_land C dX0_hangsTogether_3 rfl ?_
  refine g_lstore_n (i := 2) (lv' := [(2, .long (set &&& (-set))), (0, .long set)]) C dX0_hangsTogether_4 rfl rfl (by rw [hKN]; decide) rfl ?_
  refine g_iconst (v := 0) C (by decide) dX0_hangsTogether_5 rfl ?_
  refine g_istore (i := 4) (lv' := [(4, .int (0 : Int32)), (2, .long (set &&& (-set))), (0, .long set)]) C dX0_hangsTogether_6 rfl (by rw [hKN]; decide) rfl ?_
  refine g_sub (lv' := [(0, .long set), (2, .long (set &&& (-set))), (4, .int (0 : Int32))]) [2, 1, 0] rfl ?_
  obtain ⟨q7, hq7, hf⟩ := bd hf
  refine g_X0_hangsTogether_8 (l0 := set) C hKR hKN _ _ _ _ hq7 ?_
  refine g_lload_n C rfl (q := 0) rfl dX0_hangsTogether_30 rfl ?_
  refine g_lconst (v := 0) C (by decide) dX0_hangsTogether_31 rfl ?_
  have j9 : G K 0 0 47 [(0, .long set), (2, .long q7)] [.int (if set = (0 : Int64) then (0 : Int32) else (if q7 = set then (1 : Int32) else (0 : Int32)))] σ n := by
    obtain ⟨g8, hf⟩ := gd hf
    obtain rfl := Option.some.inj hf
    exact g_zret C (bOk_n g8) hKQ dX0_hangsTogether_47
  refine g_lif_eq (tgt := 46) C dX0_hangsTogether_32 rfl dX0_hangsTogether_33 (by decide) rfl (fun c10 => ?_) (fun c10 => ?_)
  · refine g_iconst (v := 0) C (by decide) dX0_hangsTogether_46 rfl ?_
    exact g_topI (by rw [if_pos c10]) j9
  · refine g_lload_n C rfl (q := 1) rfl dX0_hangsTogether_36 rfl ?_
    refine g_lload_n C rfl (q := 0) rfl dX0_hangsTogether_37 rfl ?_
    refine g_lif_ne (tgt := 46) C dX0_hangsTogether_38 rfl dX0_hangsTogether_39 (by decide) rfl (fun c11 => ?_) (fun c11 => ?_)
    · refine g_iconst (v := 0) C (by decide) dX0_hangsTogether_46 rfl ?_
      exact g_topI (by rw [if_neg c10, if_neg c11]) j9
    · refine g_iconst (v := 1) C (by decide) dX0_hangsTogether_42 rfl ?_
      refine g_goto (pc' := 47) C dX0_hangsTogether_43 (by decide) ?_
      exact g_topI (by rw [if_neg c10, if_pos c11]) j9
def f_X6_lowestPiece (mask : Int32) : Option Int32 := ((f_J6_bitCount_0f7a4 ((mask &&& (-mask)) - (1 : Int32))).bind fun q1 => some q1)
set_option maxHeartbeats 2000000 in
set_option maxRecDepth 20000 in
theorem c_X6_lowestPiece {l : Launch} {E : Ex} {n : Nat} {σ : AH}   {mask : Int32} (res : Int32) (hf : f_X6_lowestPiece mask = some res) : Con l E yX6_lowestPiece (.code yX6_lowestPiece cX6_lowestPiece 1 (some .int) :: TT) ({ frames := 1, cells := 0, slots := 0, locals := 20 } : Room) 0 0 [.int mask] σ n (some (.int res)) σ n := by
  refine con_intro (by decide +kernel) (Nat.le_of_ble_eq_true rfl) ?_
  intro K C hKR hKL hKE hKN hKQ
  subst hKL
  subst hKE
  have C : Cx K RX6 "lowestPiece" cX6_lowestPiece (some .int) := C
  show G K 0 0 0 [(0, .int mask)] [] σ n
  unfold f_X6_lowestPiece at hf
  refine g_iload_n C rfl (q := 0) rfl dX6_lowestPiece_0 rfl ?_
  refine g_iload_n C rfl (q := 0) rfl dX6_lowestPiece_1 rfl ?_
  refine g_ineg C dX6_lowestPiece_2 rfl ?_
  refine g_iand C dX6_lowestPiece_3 rfl ?_
  refine g_iconst (v := 1) C (by decide) dX6_lowestPiece_4 rfl ?_
  refine g_isub C dX6_lowestPiece_5 rfl ?_
  obtain ⟨q1, hq1, hf⟩ := bd hf
  refine g_callS0 (st' := []) (as := [.int ((mask &&& (-mask)) - (1 : Int32))]) (st2 := [.int q1]) (k := 1) C ⟨wm_RX6_144, ws_J6_bitCount_0f7a4, wi_RJ6, wk_J6_bitCount_0f7a4, by decide +kernel⟩ (c_J6_bitCount_0f7a4 (l := kL K) (E := kE K)  _ hq1) (by rw [hKR]; exact ⟨rfl, rfl, ⟨by decide, by decide⟩, Nat.le_refl _, Nat.le_refl _⟩) rfl rfl (by simp) rfl dX6_lowestPiece_6 rfl ?_
  obtain rfl := Option.some.inj hf
  exact g_iret C hKQ dX6_lowestPiece_9
