theorem wk_X1_learnPlaces : Cond.code yX1_learnPlaces cX1_learnPlaces 4 none ∈ TT := tt_mem 502 (by decide +kernel) (by decide +kernel)
theorem wm_RX2_49 : Cond.methodLink RX2 49 yX1_learnPlaces ∈ TT := tt_mem 544 (by decide +kernel) (by decide +kernel)
theorem wn_X1_learnPlaces : Cond.instanceMethod yX1_learnPlaces ∈ TT := tt_mem 500 (by decide +kernel) (by decide +kernel)
theorem wv_X1_learnPlaces : Cond.selects yX1_learnPlaces.cls yX1_learnPlaces yX1_learnPlaces ∈ TT := tt_mem 501 (by decide +kernel) (by decide +kernel)
theorem wm_RX2_43 : Cond.methodLink RX2 43 yX1_countShapes ∈ TT := tt_mem 543 (by decide +kernel) (by decide +kernel)
def f_X2_run_43  (l1 : Int64) (l3 : Int64) (pcu : Nat → Int64) (pmm : Nat → Int32) : Nat → Int32 → Int32 → (Nat → Nat → Int64) → (Nat → Nat → Int64) → (Nat → Nat → Int64) → (Nat → Nat → Int64) → (Nat → Int32) → (Nat → Int32) → (Nat → Int64) → (Nat → Int32) → (Nat → Int32) → (Nat → Int64) → Option (Int32 × (Nat → Nat → Int64) × (Nat → Nat → Int64) × (Nat → Nat → Int64) × (Nat → Nat → Int64) × (Nat → Int32) × (Nat → Int32) × (Nat → Int64) × (Nat → Int32) × (Nat → Int32) × (Nat → Int64))
  | 0, _, _, _, _, _, _, _, _, _, _, _, _ => none
  | fu + 1, l7, l8, pss, pps, phv, poo, psk, ppk, pkw, psc, ppn, cho => (if (6 : Int32) ≤ l8 then some (l7, pss, pps, phv, poo, psk, ppk, pkw, psc, ppn, cho) else (if inB l8 6 = true then (if inB l8 6 = true then (if inB l8 6 = true then ((f_X1_countShapes fu (pss l8.toNatClampNeg) (pcu l8.toNatClampNeg) (pmm l8.toNatClampNeg) (psk l8.toNatClampNeg) (psc l8.toNatClampNeg)).bind fun q23 => (if q23.1 ≤ 0 then f_X2_run_43 l1 l3 pcu pmm fu l7 (l8 + (1 : Int32)) (va_up pss l8.toNatClampNeg q23.2.1) pps phv poo (va_up psk l8.toNatClampNeg q23.2.2.1) ppk pkw (va_up psc l8.toNatClampNeg q23.2.2.2) ppn (va_up cho l8.toNatClampNeg (0 : Int64)) else (if inB l8 6 = true then (if inB l8 6 = true then ((f_X1_learnPlaces fu ((va_up pss l8.toNatClampNeg q23.2.1) l8.toNatClampNeg) (pps l8.toNatClampNeg) (phv l8.toNatClampNeg) (poo l8.toNatClampNeg) (pcu l8.toNatClampNeg) (pmm l8.toNatClampNeg) ((va_up psk l8.toNatClampNeg q23.2.2.1) l8.toNatClampNeg) (ppk l8.toNatClampNeg) (pkw l8.toNatClampNeg) ((va_up psc l8.toNatClampNeg q23.2.2.2) l8.toNatClampNeg) (ppn l8.toNatClampNeg) (l1 ||| l3)).bind fun q27 => f_X2_run_43 l1 l3 pcu pmm fu (l7 ||| ((1 : Int32) <<< (l8 &&& 31))) (l8 + (1 : Int32)) (va_up (va_up pss l8.toNatClampNeg q23.2.1) l8.toNatClampNeg q27.1) (va_up pps l8.toNatClampNeg q27.2.1) (va_up phv l8.toNatClampNeg q27.2.2.1) (va_up poo l8.toNatClampNeg q27.2.2.2.1) (va_up (va_up psk l8.toNatClampNeg q23.2.2.1) l8.toNatClampNeg q27.2.2.2.2.1) (va_up ppk l8.toNatClampNeg q27.2.2.2.2.2.1) (va_up pkw l8.toNatClampNeg q27.2.2.2.2.2.2.1) (va_up (va_up psc l8.toNatClampNeg q23.2.2.2) l8.toNatClampNeg q27.2.2.2.2.2.2.2.1) (va_up ppn l8.toNatClampNeg q27.2.2.2.2.2.2.2.2) (va_up cho l8.toNatClampNeg (0 : Int64))) else none) else none))) else none) else none) else none))
def f_X2_run (fu : Nat) (pss : Nat → Nat → Int64) (pps : Nat → Nat → Int64) (phv : Nat → Nat → Int64) (poo : Nat → Nat → Int64) (pcu : Nat → Int64) (pmm : Nat → Int32) (psk : Nat → Int32) (ppk : Nat → Int32) (pkw : Nat → Int64) (psc : Nat → Int32) (ppn : Nat → Int32) (cho : Nat → Int64) (l1 : Int64) (l3 : Int64) (l5 : Int32) (l6 : Int32) : Option ((Nat → Nat → Int64) × (Nat → Nat → Int64) × (Nat → Nat → Int64) × (Nat → Nat → Int64) × (Nat → Int32) × (Nat → Int32) × (Nat → Int64) × (Nat → Int32) × (Nat → Int32) × Int64 × Int32 × Int32 × Int32 × Int32 × Int32 × Int32 × (Nat → Int64)) := ((f_X2_run_43 l1 l3 pcu pmm fu (0 : Int32) (0 : Int32) pss pps phv poo psk ppk pkw psc ppn cho).bind fun q28 => ((f_X2_goOn fu q28.2.2.1 q28.2.2.2.1 q28.2.2.2.2.2.2.2.2.2.1 l1 l5 l6 7 (0 : Int32) (0 : Int32) (0 : Int32) (1 : Int32) q28.2.2.2.2.2.2.2.2.2.2 (0 : Int32) (0 : Int64) q28.1).bind fun q29 => some (q28.2.1, q28.2.2.1, q28.2.2.2.1, q28.2.2.2.2.1, q28.2.2.2.2.2.1, q28.2.2.2.2.2.2.1, q28.2.2.2.2.2.2.2.1, q28.2.2.2.2.2.2.2.2.1, q28.2.2.2.2.2.2.2.2.2.1, l1, l5, l6, q29.1, q29.2.1, q29.2.2.1, q29.2.2.2.1, q29.2.2.2.2)))
set_option maxHeartbeats 2000000 in
set_option maxRecDepth 20000 in
theorem g_X2_run_43 {K : KX} {n : Nat} {σ : AH} {k : Nat}  {l1 : Int64} {l3 : Int64} {pcu : Nat → Int64} {pmm : Nat → Int32} {asm : Nat → Int64} {sur : Int64} {bud : Int32} {wan : Int32} {tri : Int32} {fou : Int32} {en : Int32} {eh : Int32} (C : Cx K RX2 "run" cX2_run none) (hKR : kR K = ({ frames := 36, cells := 0, slots := 0, locals := 1428 } : Room)) (hKN : kN K = 9) : ∀ (fu : Nat) (l7 : Int32) (l8 : Int32) (pss : Nat → Nat → Int64) (pps : Nat → Nat → Int64) (phv : Nat → Nat → Int64) (poo : Nat → Nat → Int64) (psk : Nat → Int32) (ppk : Nat → Int32) (pkw : Nat → Int64) (psc : Nat → Int32) (ppn : Nat → Int32) (cho : Nat → Int64) (res : (Int32 × (Nat → Nat → Int64) × (Nat → Nat → Int64) × (Nat → Nat → Int64) × (Nat → Nat → Int64) × (Nat → Int32) × (Nat → Int32) × (Nat → Int64) × (Nat → Int32) × (Nat → Int32) × (Nat → Int64))), f_X2_run_43 l1 l3 pcu pmm fu l7 l8 pss pps phv poo psk ppk pkw psc ppn cho = some res → G K 0 0 99 [(0, .ref (k + 32)), (7, .int res.1)] [] (wSe σ k res.2.1 res.2.2.1 res.2.2.2.1 res.2.2.2.2.1 pcu pmm res.2.2.2.2.2.1 res.2.2.2.2.2.2.1 res.2.2.2.2.2.2.2.1 res.2.2.2.2.2.2.2.2.1 res.2.2.2.2.2.2.2.2.2.1 asm sur bud wan tri fou en eh res.2.2.2.2.2.2.2.2.2.2) n → G K 0 0 43 [(0, .ref (k + 32)), (1, .long l1), (3, .long l3), (7, .int l7), (8, .int l8)] [] (wSe σ k pss pps phv poo pcu pmm psk ppk pkw psc ppn asm sur bud wan tri fou en eh cho) n := by
  intro fu
  induction fu with
  | zero =>
    intro l7 l8 pss pps phv poo psk ppk pkw psc ppn cho res hf
    exact absurd hf (by simp [f_X2_run_43])
  | succ fu ih =>
    intro l7 l8 pss pps phv poo psk ppk pkw psc ppn cho res hf hx
    rw [f_X2_run_43] at hf
    refine g_iload C (q := 4) rfl dX2_run_43 rfl ?_
    refine g_bipush (v := 6) C (by decide) dX2_run_45 rfl ?_
    refine g_icmp_ge (tgt := 99) C dX2_run_47 (by decide) rfl (fun c19 => ?_) (fun c19 => ?_)
    · replace hf := ift c19 hf
      obtain rfl := Option.some.inj hf
      refine g_sub (lv' := [(0, .ref (k + 32)), (7, .int l7)]) [0, 3] rfl ?_
      exact hx
    · replace hf := iff' c19 hf
      refine g_aload_n C rfl (q := 0) rfl dX2_run_50 rfl ?_
      refine g_get C fc_X2 1 (by decide) wf_RX2_15 (wL_at 32 rfl) rfl dX2_run_51 rfl ?_
      refine g_iload C (q := 4) rfl dX2_run_54 rfl ?_
      refine g_lconst (v := 0) C (by decide) dX2_run_56 rfl ?_
      obtain ⟨g20, hf⟩ := gd hf
      refine g_last (h' := (wSe σ k pss pps phv poo pcu pmm psk ppk pkw psc ppn asm sur bud wan tri fou en eh (va_up cho l8.toNatClampNeg (0 : Int64)))) C (wL_at 33 rfl) (inB_in g20) (wL_up 33 (Nat.le_of_ble_eq_true rfl) rfl) dX2_run_57 rfl ?_
      refine g_aload_n C rfl (q := 0) rfl dX2_run_58 rfl ?_
      refine g_get C fc_X2 0 (by decide) wf_RX2_9 (wL_at 32 rfl) rfl dX2_run_59 rfl ?_
      refine g_iload C (q := 4) rfl dX2_run_62 rfl ?_
      obtain ⟨g21, hf⟩ := gd hf
      refine g_aald C (by decide) (wL_at0 rfl) (inB_in g21) rfl dX2_run_64 rfl ?_
      obtain ⟨g22, hf⟩ := gd hf
      obtain ⟨q23, hq23, hf⟩ := bd hf
      refine g_heap (se_pc_s l8.toNatClampNeg (vp_lt g22)) ?_
      refine g_callV0 (st' := []) (as := []) (st2 := [.int q23.1]) (k := 0) C ⟨wm_RX2_43, wn_X1_countShapes, wv_X1_countShapes, wi_RX1, wk_X1_countShapes, by decide +kernel⟩ rfl (wL_at0 rfl) (c_X1_countShapes (l := kL K) (E := kE K) (σ := (wSe σ k pss pps phv poo pcu pmm psk ppk pkw psc ppn asm sur bud wan tri fou en eh (va_up cho l8.toNatClampNeg (0 : Int64)))) (a := k + (1 + 5 * l8.toNatClampNeg)) _ hq23) (by rw [hKR]; exact ⟨rfl, rfl, ⟨by decide, by decide⟩, Nat.le_refl _, Nat.le_refl _⟩) rfl rfl (by simp) rfl dX2_run_65 rfl ?_
      refine g_heap (h' := (wSe σ k (va_up pss l8.toNatClampNeg q23.2.1) pps phv poo pcu pmm (va_up psk l8.toNatClampNeg q23.2.2.1) ppk pkw (va_up psc l8.toNatClampNeg q23.2.2.2) ppn asm sur bud wan tri fou en eh (va_up cho l8.toNatClampNeg (0 : Int64)))) (by rw [se_pc_r l8.toNatClampNeg (vp_lt g22)]; simp only [va_up_id]) ?_
      refine g_if_le (tgt := 93) C dX2_run_68 (by decide) rfl (fun c24 => ?_) (fun c24 => ?_)
      · replace hf := ift c24 hf
        refine g_iinc (v := l8 + (1 : Int32)) (lv' := [(8, .int (l8 + (1 : Int32))), (0, .ref (k + 32)), (1, .long l1), (3, .long l3), (7, .int l7)]) (q := 4) C dX2_run_93 rfl rfl rfl (by rw [hKN]; decide) rfl ?_
        refine g_goto (pc' := 43) C dX2_run_96 (by decide) ?_
        refine g_sub (lv' := [(0, .ref (k + 32)), (1, .long l1), (3, .long l3), (7, .int l7), (8, .int (l8 + (1 : Int32)))]) [1, 2, 3, 4, 0] rfl ?_
        exact ih _ _ _ _ _ _ _ _ _ _ _ _ _ hf hx
      · replace hf := iff' c24 hf
        refine g_aload_n C rfl (q := 0) rfl dX2_run_71 rfl ?_
        refine g_get C fc_X2 0 (by decide) wf_RX2_9 (wL_at 32 rfl) rfl dX2_run_72 rfl ?_
        refine g_iload C (q := 4) rfl dX2_run_75 rfl ?_
        obtain ⟨g25, hf⟩ := gd hf
        refine g_aald C (by decide) (wL_at0 rfl) (inB_in g25) rfl dX2_run_77 rfl ?_
        refine g_lload_n C rfl (q := 1) rfl dX2_run_78 rfl ?_
        refine g_lload_n C rfl (q := 2) rfl dX2_run_79 rfl ?_
        refine g_lor C dX2_run_80 rfl ?_
        obtain ⟨g26, hf⟩ := gd hf
        obtain ⟨q27, hq27, hf⟩ := bd hf
        refine g_heap (se_pc_s l8.toNatClampNeg (vp_lt g26)) ?_
        refine g_callV0 (st' := []) (as := [.long (l1 ||| l3)]) (st2 := []) (k := 1) C ⟨wm_RX2_49, wn_X1_learnPlaces, wv_X1_learnPlaces, wi_RX1, wk_X1_learnPlaces, by decide +kernel⟩ rfl (wL_at0 rfl) (c_X1_learnPlaces (l := kL K) (E := kE K) (σ := (wSe σ k (va_up pss l8.toNatClampNeg q23.2.1) pps phv poo pcu pmm (va_up psk l8.toNatClampNeg q23.2.2.1) ppk pkw (va_up psc l8.toNatClampNeg q23.2.2.2) ppn asm sur bud wan tri fou en eh (va_up cho l8.toNatClampNeg (0 : Int64)))) (a := k + (1 + 5 * l8.toNatClampNeg)) _ hq27) (by rw [hKR]; exact ⟨rfl, rfl, ⟨by decide, by decide⟩, Nat.le_refl _, Nat.le_refl _⟩) rfl rfl (by simp) rfl dX2_run_81 rfl ?_
        refine g_heap (h' := (wSe σ k (va_up (va_up pss l8.toNatClampNeg q23.2.1) l8.toNatClampNeg q27.1) (va_up pps l8.toNatClampNeg q27.2.1) (va_up phv l8.toNatClampNeg q27.2.2.1) (va_up poo l8.toNatClampNeg q27.2.2.2.1) pcu pmm (va_up (va_up psk l8.toNatClampNeg q23.2.2.1) l8.toNatClampNeg q27.2.2.2.2.1) (va_up ppk l8.toNatClampNeg q27.2.2.2.2.2.1) (va_up pkw l8.toNatClampNeg q27.2.2.2.2.2.2.1) (va_up (va_up psc l8.toNatClampNeg q23.2.2.2) l8.toNatClampNeg q27.2.2.2.2.2.2.2.1) (va_up ppn l8.toNatClampNeg q27.2.2.2.2.2.2.2.2) asm sur bud wan tri fou en eh (va_up cho l8.toNatClampNeg (0 : Int64)))) (by rw [se_pc_r l8.toNatClampNeg (vp_lt g26)]; simp only [va_up_id]) ?_
        refine g_iload C (q := 3) rfl dX2_run_84 rfl ?_
        refine g_iconst (v := 1) C (by decide) dX2_run_86 rfl ?_
        refine g_iload C (q := 4) rfl dX2_run_87 rfl ?_
        refine g_ishl C dX2_run_89 rfl ?_
        refine g_ior C dX2_run_90 rfl ?_
        refine g_istore (i := 7) (lv' := [(7, .int (l7 ||| ((1 : Int32) <<< (l8 &&& 31)))), (0, .ref (k + 32)), (1, .long l1), (3, .long l3), (8, .int l8)]) C dX2_run_91 rfl (by rw [hKN]; decide) rfl ?_
        refine g_iinc (v := l8 + (1 : Int32)) (lv' := [(8, .int (l8 + (1 : Int32))), (7, .int (l7 ||| ((1 : Int32) <<< (l8 &&& 31)))), (0, .ref (k + 32)), (1, .long l1), (3, .long l3)]) (q := 4) C dX2_run_93 rfl rfl rfl (by rw [hKN]; decide) rfl ?_
        refine g_goto (pc' := 43) C dX2_run_96 (by decide) ?_
        refine g_sub (lv' := [(0, .ref (k + 32)), (1, .long l1), (3, .long l3), (7, .int (l7 ||| ((1 : Int32) <<< (l8 &&& 31)))), (8, .int (l8 + (1 : Int32)))]) [2, 3, 4, 1, 0] rfl ?_
        exact ih _ _ _ _ _ _ _ _ _ _ _ _ _ hf hx
set_option maxHeartbeats 2000000 in
set_option maxRecDepth 20000 in
theorem c_X2_run {l : Launch} {E : Ex} {n : Nat} {σ : AH} {k : Nat}  {pss : Nat → Nat → Int64} {pps : Nat → Nat → Int64} {phv : Nat → Nat → Int64} {poo : Nat → Nat → Int64} {pcu : Nat → Int64} {pmm : Nat → Int32} {psk : Nat → Int32} {ppk : Nat → Int32} {pkw : Nat → Int64} {psc : Nat → Int32} {ppn : Nat → Int32} {asm : Nat → Int64} {sur : Int64} {bud : Int32} {wan : Int32} {tri : Int32} {fou : Int32} {en : Int32} {eh : Int32} {cho : Nat → Int64} {l1 : Int64} {l3 : Int64} {l5 : Int32} {l6 : Int32} {fu : Nat} (res : ((Nat → Nat → Int64) × (Nat → Nat → Int64) × (Nat → Nat → Int64) × (Nat → Nat → Int64) × (Nat → Int32) × (Nat → Int32) × (Nat → Int64) × (Nat → Int32) × (Nat → Int32) × Int64 × Int32 × Int32 × Int32 × Int32 × Int32 × Int32 × (Nat → Int64))) (hf : f_X2_run fu pss pps phv poo pcu pmm psk ppk pkw psc ppn cho l1 l3 l5 l6 = some res) : Con l E yX2_run (.code yX2_run cX2_run 9 none :: TT) ({ frames := 36, cells := 0, slots := 0, locals := 1428 } : Room) 0 0 [.ref (k + 32), .long l1, .long l3, .int l5, .int l6] (wSe σ k pss pps phv poo pcu pmm psk ppk pkw psc ppn asm sur bud wan tri fou en eh cho) n none (wSe σ k res.1 res.2.1 res.2.2.1 res.2.2.2.1 pcu pmm res.2.2.2.2.1 res.2.2.2.2.2.1 res.2.2.2.2.2.2.1 res.2.2.2.2.2.2.2.1 res.2.2.2.2.2.2.2.2.1 asm res.2.2.2.2.2.2.2.2.2.1 res.2.2.2.2.2.2.2.2.2.2.1 res.2.2.2.2.2.2.2.2.2.2.2.1 res.2.2.2.2.2.2.2.2.2.2.2.2.1 res.2.2.2.2.2.2.2.2.2.2.2.2.2.1 res.2.2.2.2.2.2.2.2.2.2.2.2.2.2.1 res.2.2.2.2.2.2.2.2.2.2.2.2.2.2.2.1 res.2.2.2.2.2.2.2.2.2.2.2.2.2.2.2.2) n := by
  refine con_intro (by decide +kernel) (Nat.le_of_ble_eq_true rfl) ?_
  intro K C hKR hKL hKE hKN hKQ
  subst hKL
  subst hKE
  have C : Cx K RX2 "run" cX2_run none := C
  show G K 0 0 0 [(0, .ref (k + 32)), (1, .long l1), (3, .long l3), (5, .int l5), (6, .int l6)] [] (wSe σ k pss pps phv poo pcu pmm psk ppk pkw psc ppn asm sur bud wan tri fou en eh cho) n
  unfold f_X2_run at hf
  refine g_aload_n C rfl (q := 0) rfl dX2_run_0 rfl ?_
  refine g_lload_n C rfl (q := 1) rfl dX2_run_1 rfl ?_
  refine g_put (h' := (wSe σ k pss pps phv poo pcu pmm psk ppk pkw psc ppn asm l1 bud wan tri fou en eh cho)) C fc_X2 2 (by decide) wf_RX2_33 rfl rfl rfl (Nat.le_of_ble_eq_true rfl) (wL_at 32 rfl) (wL_up 32 (Nat.le_of_ble_eq_true rfl) rfl) dX2_run_2 rfl ?_
  refine g_aload_n C rfl (q := 0) rfl dX2_run_5 rfl ?_
  refine g_iload C (q := 3) rfl dX2_run_6 rfl ?_
  refine g_put (h' := (wSe σ k pss pps phv poo pcu pmm psk ppk pkw psc ppn asm l1 l5 wan tri fou en eh cho)) C fc_X2 3 (by decide) wf_RX2_37 rfl rfl rfl (Nat.le_of_ble_eq_true rfl) (wL_at 32 rfl) (wL_up 32 (Nat.le_of_ble_eq_true rfl) rfl) dX2_run_8 rfl ?_
  refine g_aload_n C rfl (q := 0) rfl dX2_run_11 rfl ?_
  refine g_iload C (q := 4) rfl dX2_run_12 rfl ?_
  refine g_put (h' := (wSe σ k pss pps phv poo pcu pmm psk ppk pkw psc ppn asm l1 l5 l6 tri fou en eh cho)) C fc_X2 4 (by decide) wf_RX2_30 rfl rfl rfl (Nat.le_of_ble_eq_true rfl) (wL_at 32 rfl) (wL_up 32 (Nat.le_of_ble_eq_true rfl) rfl) dX2_run_14 rfl ?_
  refine g_aload_n C rfl (q := 0) rfl dX2_run_17 rfl ?_
  refine g_iconst (v := 0) C (by decide) dX2_run_18 rfl ?_
  refine g_put (h' := (wSe σ k pss pps phv poo pcu pmm psk ppk pkw psc ppn asm l1 l5 l6 (0 : Int32) fou en eh cho)) C fc_X2 5 (by decide) wf_RX2_19 rfl rfl rfl (Nat.le_of_ble_eq_true rfl) (wL_at 32 rfl) (wL_up 32 (Nat.le_of_ble_eq_true rfl) rfl) dX2_run_19 rfl ?_
  refine g_aload_n C rfl (q := 0) rfl dX2_run_22 rfl ?_
  refine g_iconst (v := 0) C (by decide) dX2_run_23 rfl ?_
  refine g_put (h' := (wSe σ k pss pps phv poo pcu pmm psk ppk pkw psc ppn asm l1 l5 l6 (0 : Int32) (0 : Int32) en eh cho)) C fc_X2 6 (by decide) wf_RX2_23 rfl rfl rfl (Nat.le_of_ble_eq_true rfl) (wL_at 32 rfl) (wL_up 32 (Nat.le_of_ble_eq_true rfl) rfl) dX2_run_24 rfl ?_
  refine g_aload_n C rfl (q := 0) rfl dX2_run_27 rfl ?_
  refine g_iconst (v := 0) C (by decide) dX2_run_28 rfl ?_
  refine g_put (h' := (wSe σ k pss pps phv poo pcu pmm psk ppk pkw psc ppn asm l1 l5 l6 (0 : Int32) (0 : Int32) (0 : Int32) eh cho)) C fc_X2 7 (by decide) wf_RX2_40 rfl rfl rfl (Nat.le_of_ble_eq_true rfl) (wL_at 32 rfl) (wL_up 32 (Nat.le_of_ble_eq_true rfl) rfl) dX2_run_29 rfl ?_
  refine g_aload_n C rfl (q := 0) rfl dX2_run_32 rfl ?_
  refine g_iconst (v := 1) C (by decide) dX2_run_33 rfl ?_
  refine g_put (h' := (wSe σ k pss pps phv poo pcu pmm psk ppk pkw psc ppn asm l1 l5 l6 (0 : Int32) (0 : Int32) (0 : Int32) (1 : Int32) cho)) C fc_X2 8 (by decide) wf_RX2_26 rfl rfl rfl (Nat.le_of_ble_eq_true rfl) (wL_at 32 rfl) (wL_up 32 (Nat.le_of_ble_eq_true rfl) rfl) dX2_run_34 rfl ?_
  refine g_iconst (v := 0) C (by decide) dX2_run_37 rfl ?_
  refine g_istore (i := 7) (lv' := [(7, .int (0 : Int32)), (0, .ref (k + 32)), (1, .long l1), (3, .long l3), (5, .int l5), (6, .int l6)]) C dX2_run_38 rfl (by rw [hKN]; decide) rfl ?_
  refine g_iconst (v := 0) C (by decide) dX2_run_40 rfl ?_
  refine g_istore (i := 8) (lv' := [(8, .int (0 : Int32)), (7, .int (0 : Int32)), (0, .ref (k + 32)), (1, .long l1), (3, .long l3), (5, .int l5), (6, .int l6)]) C dX2_run_41 rfl (by rw [hKN]; decide) rfl ?_
  refine g_sub (lv' := [(0, .ref (k + 32)), (1, .long l1), (3, .long l3), (7, .int (0 : Int32)), (8, .int (0 : Int32))]) [2, 3, 4, 1, 0] rfl ?_
  obtain ⟨q28, hq28, hf⟩ := bd hf
  refine g_X2_run_43 (l1 := l1) (l3 := l3) (pcu := pcu) (pmm := pmm) (asm := asm) (sur := l1) (bud := l5) (wan := l6) (tri := (0 : Int32)) (fou := (0 : Int32)) (en := (0 : Int32)) (eh := (1 : Int32)) C hKR hKN _ _ _ _ _ _ _ _ _ _ _ _ _ _ hq28 ?_
  refine g_aload_n C rfl (q := 0) rfl dX2_run_99 rfl ?_
  refine g_iconst (v := 0) C (by decide) dX2_run_100 rfl ?_
  refine g_lconst (v := 0) C (by decide) dX2_run_101 rfl ?_
  refine g_iload C (q := 1) rfl dX2_run_102 rfl ?_
  obtain ⟨q29, hq29, hf⟩ := bd hf
  refine g_callV0 (st' := []) (as := [.int (0 : Int32), .long (0 : Int64), .int q28.1]) (st2 := []) (k := 3) C ⟨wm_RX2_53, wn_X2_goOn, wv_X2_goOn, wi_RX2, wk_X2_goOn, by decide +kernel⟩ rfl (wL_at 32 rfl) (c_X2_goOn (l := kL K) (E := kE K) 7 _ hq29) (by rw [hKR]; exact ⟨rfl, rfl, ⟨by decide, by decide⟩, Nat.le_refl _, Nat.le_refl _⟩) rfl rfl (by simp) rfl dX2_run_104 rfl ?_
  obtain rfl := Option.some.inj hf
  exact g_vret C hKQ dX2_run_107
