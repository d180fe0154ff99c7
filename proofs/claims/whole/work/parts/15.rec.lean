theorem wf_RX2_9 : Cond.fieldLink RX2 9 (TX2 0).1 (TX2 0).2.1 (TX2 0).2.2.1 ∈ TT := tt_mem 109 (by decide +kernel) (by decide +kernel)
theorem wf_RX2_37 : Cond.fieldLink RX2 37 (TX2 3).1 (TX2 3).2.1 (TX2 3).2.2.1 ∈ TT := tt_mem 112 (by decide +kernel) (by decide +kernel)
theorem wk_X2_goOn : Cond.code yX2_goOn cX2_goOn 9 none ∈ TT := tt_mem 548 (by decide +kernel) (by decide +kernel)
theorem wi_RX2 : Cond.initialized RX2 ∈ TT := tt_mem 36 (by decide +kernel) (by decide +kernel)
theorem wm_RX2_53 : Cond.methodLink RX2 53 yX2_goOn ∈ TT := tt_mem 545 (by decide +kernel) (by decide +kernel)
theorem wn_X2_goOn : Cond.instanceMethod yX2_goOn ∈ TT := tt_mem 547 (by decide +kernel) (by decide +kernel)
theorem wv_X2_goOn : Cond.selects yX2_goOn.cls yX2_goOn yX2_goOn ∈ TT := tt_mem 7 (by decide +kernel) (by decide +kernel)
theorem wk_X1_placeAt : Cond.code yX1_placeAt cX1_placeAt 2 (some .long) ∈ TT := tt_mem 574 (by decide +kernel) (by decide +kernel)
theorem wm_RX2_83 : Cond.methodLink RX2 83 yX1_placeAt ∈ TT := tt_mem 571 (by decide +kernel) (by decide +kernel)
theorem wn_X1_placeAt : Cond.instanceMethod yX1_placeAt ∈ TT := tt_mem 572 (by decide +kernel) (by decide +kernel)
theorem wv_X1_placeAt : Cond.selects yX1_placeAt.cls yX1_placeAt yX1_placeAt ∈ TT := tt_mem 573 (by decide +kernel) (by decide +kernel)
theorem wm_RX2_70 : Cond.methodLink RX2 70 yX0_lowest ∈ TT := tt_mem 570 (by decide +kernel) (by decide +kernel)
theorem wk_X1_wordOf : Cond.code yX1_wordOf cX1_wordOf 3 (some .long) ∈ TT := tt_mem 569 (by decide +kernel) (by decide +kernel)
theorem wm_RX2_79 : Cond.methodLink RX2 79 yX1_wordOf ∈ TT := tt_mem 566 (by decide +kernel) (by decide +kernel)
theorem wn_X1_wordOf : Cond.instanceMethod yX1_wordOf ∈ TT := tt_mem 567 (by decide +kernel) (by decide +kernel)
theorem wv_X1_wordOf : Cond.selects yX1_wordOf.cls yX1_wordOf yX1_wordOf ∈ TT := tt_mem 568 (by decide +kernel) (by decide +kernel)
theorem wk_X1_countWords : Cond.code yX1_countWords cX1_countWords 1 (some .int) ∈ TT := tt_mem 565 (by decide +kernel) (by decide +kernel)
theorem wm_RX2_76 : Cond.methodLink RX2 76 yX1_countWords ∈ TT := tt_mem 562 (by decide +kernel) (by decide +kernel)
theorem wn_X1_countWords : Cond.instanceMethod yX1_countWords ∈ TT := tt_mem 563 (by decide +kernel) (by decide +kernel)
theorem wv_X1_countWords : Cond.selects yX1_countWords.cls yX1_countWords yX1_countWords ∈ TT := tt_mem 564 (by decide +kernel) (by decide +kernel)
theorem wf_RX2_33 : Cond.fieldLink RX2 33 (TX2 2).1 (TX2 2).2.1 (TX2 2).2.2.1 ∈ TT := tt_mem 111 (by decide +kernel) (by decide +kernel)
theorem wc_RX2_57 : Cond.constantLong RX2 57 (-1) ∈ TT := tt_mem 549 (by decide +kernel) (by decide +kernel)
theorem wk_X2_countPacking : Cond.code yX2_countPacking cX2_countPacking 1 none ∈ TT := tt_mem 553 (by decide +kernel) (by decide +kernel)
theorem wm_RX2_59 : Cond.methodLink RX2 59 yX2_countPacking ∈ TT := tt_mem 550 (by decide +kernel) (by decide +kernel)
theorem wn_X2_countPacking : Cond.instanceMethod yX2_countPacking ∈ TT := tt_mem 552 (by decide +kernel) (by decide +kernel)
theorem wv_X2_countPacking : Cond.selects yX2_countPacking.cls yX2_countPacking yX2_countPacking ∈ TT := tt_mem 8 (by decide +kernel) (by decide +kernel)
theorem wk_X2_tryPiece : Cond.code yX2_tryPiece cX2_tryPiece 14 none ∈ TT := tt_mem 561 (by decide +kernel) (by decide +kernel)
theorem wm_RX2_66 : Cond.methodLink RX2 66 yX2_tryPiece ∈ TT := tt_mem 558 (by decide +kernel) (by decide +kernel)
theorem wn_X2_tryPiece : Cond.instanceMethod yX2_tryPiece ∈ TT := tt_mem 560 (by decide +kernel) (by decide +kernel)
theorem wv_X2_tryPiece : Cond.selects yX2_tryPiece.cls yX2_tryPiece yX2_tryPiece ∈ TT := tt_mem 9 (by decide +kernel) (by decide +kernel)
def f_X2_tryPiece_35 (rec : Int32 → Int32 → Int32 → Int32 → (Nat → Int64) → Int32 → Int64 → Int32 → Option (Int32 × Int32 × Int32 × Int32 × (Nat → Int64))) (l1 : Int32) (l3 : Int32) (l4 : Int64) (l6 : Int32) (l9 : Int32) (pps : Nat → Nat → Int64) (bud : Int32) : Nat → Int64 → Int32 → Int32 → Int32 → Int32 → (Nat → Int64) → Option ((Int32 × Int32 × Int32 × Int32 × (Nat → Int64)) ⊕ (Int32 × Int32 × Int32 × Int32 × (Nat → Int64)))
  | 0, _, _, _, _, _, _ => none
  | fu + 1, l10, tri, fou, en, eh, cho => (if l10 = (0 : Int64) then some (.inr (tri, fou, en, eh, cho)) else (if en = 0 then (if tri < bud then ((f_X0_lowest l10).bind fun q92 => (if inB l1 6 = true then ((f_X1_placeAt (pps l1.toNatClampNeg) ((l9 * (64 : Int32)) + q92)).bind fun q94 => (if (q94 &&& l4) = (0 : Int64) then (if inB l1 6 = true then ((rec (tri + (1 : Int32)) fou en eh (va_up cho l1.toNatClampNeg q94) (l3 + (1 : Int32)) (l4 ||| q94) (l6 &&& (((1 : Int32) <<< (l1 &&& 31)) ^^^ (-1 : Int32)))).bind fun q97 => f_X2_tryPiece_35 rec l1 l3 l4 l6 l9 pps bud fu (l10 &&& (l10 - (1 : Int64))) q97.1 q97.2.1 q97.2.2.1 q97.2.2.2.1 q97.2.2.2.2) else none) else f_X2_tryPiece_35 rec l1 l3 l4 l6 l9 pps bud fu (l10 &&& (l10 - (1 : Int64))) (tri + (1 : Int32)) fou en eh cho)) else none)) else some (.inl (tri, fou, (1 : Int32), (0 : Int32), cho))) else some (.inr (tri, fou, en, eh, cho))))
def f_X2_tryPiece_18 (rec : Int32 → Int32 → Int32 → Int32 → (Nat → Int64) → Int32 → Int64 → Int32 → Option (Int32 × Int32 × Int32 × Int32 × (Nat → Int64))) (l1 : Int32) (l2 : Int32) (l3 : Int32) (l4 : Int64) (l6 : Int32) (l8 : Int32) (pps : Nat → Nat → Int64) (phv : Nat → Nat → Int64) (bud : Int32) : Nat → Int32 → Int32 → Int32 → Int32 → Int32 → (Nat → Int64) → Option ((Int32 × Int32 × Int32 × Int32 × (Nat → Int64)) ⊕ (Int32 × Int32 × Int32 × Int32 × (Nat → Int64)))
  | 0, _, _, _, _, _, _ => none
  | fu + 1, l9, tri, fou, en, eh, cho => (if l8 ≤ l9 then some (.inr (tri, fou, en, eh, cho)) else (if inB l1 6 = true then ((f_X1_wordOf (phv l1.toNatClampNeg) l2 l9).bind fun q70 => (sumB (f_X2_tryPiece_35 rec l1 l3 l4 l6 l9 pps bud fu q70 tri fou en eh cho) Sum.inl fun t99 => f_X2_tryPiece_18 rec l1 l2 l3 l4 l6 l8 pps phv bud fu (l9 + (1 : Int32)) t99.1 t99.2.1 t99.2.2.1 t99.2.2.2.1 t99.2.2.2.2)) else none))
def f_X2_tryPiece (fu : Nat) (rec : Int32 → Int32 → Int32 → Int32 → (Nat → Int64) → Int32 → Int64 → Int32 → Option (Int32 × Int32 × Int32 × Int32 × (Nat → Int64))) (pps : Nat → Nat → Int64) (phv : Nat → Nat → Int64) (ppn : Nat → Int32) (bud : Int32) (tri : Int32) (fou : Int32) (en : Int32) (eh : Int32) (cho : Nat → Int64) (l1 : Int32) (l2 : Int32) (l3 : Int32) (l4 : Int64) (l6 : Int32) : Option (Int32 × Int32 × Int32 × Int32 × (Nat → Int64)) := (if inB l1 6 = true then (if inB l1 6 = true then ((f_X1_countWords (ppn l1.toNatClampNeg)).bind fun q3 => (sumB (f_X2_tryPiece_18 rec l1 l2 l3 l4 l6 q3 pps phv bud fu (0 : Int32) tri fou en eh cho) id fun t101 => some (t101.1, t101.2.1, t101.2.2.1, t101.2.2.2.1, t101.2.2.2.2))) else none) else none)
set_option maxHeartbeats 2000000 in
set_option maxRecDepth 20000 in
theorem g_X2_tryPiece_35 {K : KX} {n : Nat} {σ : AH} {k : Nat} {rec : Int32 → Int32 → Int32 → Int32 → (Nat → Int64) → Int32 → Int64 → Int32 → Option (Int32 × Int32 × Int32 × Int32 × (Nat → Int64))} {fG : Nat} {LG : Nat} {phv : Nat → Nat → Int64} {pps : Nat → Nat → Int64} {ppn : Nat → Int32} {sur : Int64} {bud : Int32} {wan : Int32} (hrec : ∀ {n : Nat} {σ : AH} {k : Nat} {pss : Nat → Nat → Int64} {poo : Nat → Nat → Int64} {pcu : Nat → Int64} {pmm : Nat → Int32} {psk : Nat → Int32} {ppk : Nat → Int32} {pkw : Nat → Int64} {psc : Nat → Int32} {asm : Nat → Int64} {tri : Int32} {fou : Int32} {en : Int32} {eh : Int32} {cho : Nat → Int64} {l1 : Int32} {l2 : Int64} {l4 : Int32} (res : Int32 × Int32 × Int32 × Int32 × (Nat → Int64)), rec tri fou en eh cho l1 l2 l4 = some res → Con (kL K) (kE K) yX2_goOn (.code yX2_goOn cX2_goOn 9 none :: TT) ({ frames := fG, cells := 0, slots := 0, locals := LG } : Room) 0 0 [.ref (k + 32), .int l1, .long l2, .int l4] (wSe σ k pss pps phv poo pcu pmm psk ppk pkw psc ppn asm sur bud wan tri fou en eh cho) n none (wSe σ k pss pps phv poo pcu pmm psk ppk pkw psc ppn asm sur bud wan res.1 res.2.1 res.2.2.1 res.2.2.2.1 res.2.2.2.2) n) {l1 : Int32} {l2 : Int32} {l3 : Int32} {l4 : Int64} {l6 : Int32} {l8 : Int32} {l9 : Int32} {pss : Nat → Nat → Int64} {poo : Nat → Nat → Int64} {pcu : Nat → Int64} {pmm : Nat → Int32} {psk : Nat → Int32} {ppk : Nat → Int32} {pkw : Nat → Int64} {psc : Nat → Int32} {asm : Nat → Int64} (C : Cx K RX2 "tryPiece" cX2_tryPiece none) (hKR : kR K = ({ frames := fG + 3, cells := 0, slots := 0, locals := LG + 100 } : Room)) (hKN : kN K = 14) : ∀ (fu : Nat) (l10 : Int64) (tri : Int32) (fou : Int32) (en : Int32) (eh : Int32) (cho : Nat → Int64) (res : ((Int32 × Int32 × Int32 × Int32 × (Nat → Int64)) ⊕ (Int32 × Int32 × Int32 × Int32 × (Nat → Int64)))), f_X2_tryPiece_35 rec l1 l3 l4 l6 l9 pps bud fu l10 tri fou en eh cho = some res → (∀ t, res = .inl t → KQ K 0 0 none (wSe σ k pss pps phv poo pcu pmm psk ppk pkw psc ppn asm sur bud wan t.1 t.2.1 t.2.2.1 t.2.2.2.1 t.2.2.2.2) n) → (∀ t, res = .inr t → G K 0 0 149 [(0, .ref (k + 32)), (1, .int l1), (2, .int l2), (3, .int l3), (4, .long l4), (6, .int l6), (7, .ref (k + (1 + 5 * l1.toNatClampNeg))), (8, .int l8), (9, .int l9)] [] (wSe σ k pss pps phv poo pcu pmm psk ppk pkw psc ppn asm sur bud wan t.1 t.2.1 t.2.2.1 t.2.2.2.1 t.2.2.2.2) n) → G K 0 0 35 [(0, .ref (k + 32)), (1, .int l1), (2, .int l2), (3, .int l3), (4, .long l4), (6, .int l6), (7, .ref (k + (1 + 5 * l1.toNatClampNeg))), (8, .int l8), (9, .int l9), (10, .long l10)] [] (wSe σ k pss pps phv poo pcu pmm psk ppk pkw psc ppn asm sur bud wan tri fou en eh cho) n := by
  intro fu
  induction fu with
  | zero =>
    intro l10 tri fou en eh cho res hf
    exact absurd hf (by simp [f_X2_tryPiece_35])
  | succ fu ih =>
    intro l10 tri fou en eh cho res hf hret hx
    rw [f_X2_tryPiece_35] at hf
    refine g_lload C (q := 9) rfl dX2_tryPiece_35 rfl ?_
    refine g_lconst (v := 0) C (by decide) dX2_tryPiece_37 rfl ?_
    refine g_lif_eq (tgt := 149) C dX2_tryPiece_38 rfl dX2_tryPiece_39 (by decide) rfl (fun c89 => ?_) (fun c89 => ?_)
    · replace hf := ift c89 hf
      obtain rfl := Option.some.inj hf
      refine g_sub (lv' := [(0, .ref (k + 32)), (1, .int l1), (2, .int l2), (3, .int l3), (4, .long l4), (6, .int l6), (7, .ref (k + (1 + 5 * l1.toNatClampNeg))), (8, .int l8), (9, .int l9)]) [0, 1, 2, 3, 4, 5, 6, 7, 8] rfl ?_
      exact hx (tri, fou, en, eh, cho) rfl
    · replace hf := iff' c89 hf
      refine g_aload_n C rfl (q := 0) rfl dX2_tryPiece_42 rfl ?_
      refine g_get C fc_X2 7 (by decide) wf_RX2_40 (wL_at 32 rfl) rfl dX2_tryPiece_43 rfl ?_
      refine g_if_ne (tgt := 149) C dX2_tryPiece_46 (by decide) rfl (fun c90 => ?_) (fun c90 => ?_)
      · replace hf := iff' c90 hf
        obtain rfl := Option.some.inj hf
        refine g_sub (lv' := [(0, .ref (k + 32)), (1, .int l1), (2, .int l2), (3, .int l3), (4, .long l4), (6, .int l6), (7, .ref (k + (1 + 5 * l1.toNatClampNeg))), (8, .int l8), (9, .int l9)]) [0, 1, 2, 3, 4, 5, 6, 7, 8] rfl ?_
        exact hx (tri, fou, en, eh, cho) rfl
      · replace hf := ift c90 hf
        refine g_aload_n C rfl (q := 0) rfl dX2_tryPiece_49 rfl ?_
        refine g_get C fc_X2 5 (by decide) wf_RX2_19 (wL_at 32 rfl) rfl dX2_tryPiece_50 rfl ?_
        refine g_aload_n C rfl (q := 0) rfl dX2_tryPiece_53 rfl ?_
        refine g_get C fc_X2 3 (by decide) wf_RX2_37 (wL_at 32 rfl) rfl dX2_tryPiece_54 rfl ?_
        refine g_icmp_lt (tgt := 71) C dX2_tryPiece_57 (by decide) rfl (fun c91 => ?_) (fun c91 => ?_)
        · replace hf := ift c91 hf
          refine g_aload_n C rfl (q := 0) rfl dX2_tryPiece_71 rfl ?_
          refine g_dup C rfl dX2_tryPiece_72 rfl ?_
          refine g_get C fc_X2 5 (by decide) wf_RX2_19 (wL_at 32 rfl) rfl dX2_tryPiece_73 rfl ?_
          refine g_iconst (v := 1) C (by decide) dX2_tryPiece_76 rfl ?_
          refine g_iadd C dX2_tryPiece_77 rfl ?_
          refine g_put (h' := (wSe σ k pss pps phv poo pcu pmm psk ppk pkw psc ppn asm sur bud wan (tri + (1 : Int32)) fou en eh cho)) C fc_X2 5 (by decide) wf_RX2_19 rfl rfl rfl (Nat.le_of_ble_eq_true rfl) (wL_at 32 rfl) (wL_up 32 (Nat.le_of_ble_eq_true rfl) rfl) dX2_tryPiece_78 rfl ?_
          refine g_aload C (q := 6) rfl dX2_tryPiece_81 rfl ?_
          refine g_iload C (q := 8) rfl dX2_tryPiece_83 rfl ?_
          refine g_bipush (v := 64) C (by decide) dX2_tryPiece_85 rfl ?_
          refine g_imul C dX2_tryPiece_87 rfl ?_
          refine g_lload C (q := 9) rfl dX2_tryPiece_88 rfl ?_
          obtain ⟨q92, hq92, hf⟩ := bd hf
          refine g_callS0 (st' := [.int (l9 * (64 : Int32)), .ref (k + (1 + 5 * l1.toNatClampNeg))]) (as := [.long l10]) (st2 := [.int q92, .int (l9 * (64 : Int32)), .ref (k + (1 + 5 * l1.toNatClampNeg))]) (k := 1) C ⟨wm_RX2_70, ws_X0_lowest, wi_RX0, wk_X0_lowest, by decide +kernel⟩ (c_X0_lowest (l := kL K) (E := kE K)  _ hq92) (by rw [hKR]; exact ⟨rfl, rfl, ⟨by dsimp only; omega, by dsimp only; omega⟩, Nat.le_refl _, Nat.le_refl _⟩) rfl rfl (by simp [Value.category]) rfl dX2_tryPiece_90 rfl ?_
          refine g_iadd C dX2_tryPiece_93 rfl ?_
          obtain ⟨g93, hf⟩ := gd hf
          obtain ⟨q94, hq94, hf⟩ := bd hf
          refine g_heap (se_pc_s l1.toNatClampNeg (vp_lt g93)) ?_
          refine g_callV0 (st' := []) (as := [.int ((l9 * (64 : Int32)) + q92)]) (st2 := [.long q94]) (k := 1) C ⟨wm_RX2_83, wn_X1_placeAt, wv_X1_placeAt, wi_RX1, wk_X1_placeAt, by decide +kernel⟩ rfl (wL_at0 rfl) (c_X1_placeAt (l := kL K) (E := kE K) (σ := (wSe σ k pss pps phv poo pcu pmm psk ppk pkw psc ppn asm sur bud wan (tri + (1 : Int32)) fou en eh cho)) (a := k + (1 + 5 * l1.toNatClampNeg)) _ hq94) (by rw [hKR]; exact ⟨rfl, rfl, ⟨by dsimp only; omega, by dsimp only; omega⟩, Nat.le_refl _, Nat.le_refl _⟩) rfl rfl (by simp) rfl dX2_tryPiece_94 rfl ?_
          refine g_heap (h' := (wSe σ k pss pps phv poo pcu pmm psk ppk pkw psc ppn asm sur bud wan (tri + (1 : Int32)) fou en eh cho)) (by rw [se_pc_r l1.toNatClampNeg (vp_lt g93)]; simp only [va_up_id]) ?_
          refine g_lstore (i := 12) (lv' := [(12, .long q94), (0, .ref (k + 32)), (1, .int l1), (2, .int l2), (3, .int l3), (4, .long l4), (6, .int l6), (7, .ref (k + (1 + 5 * l1.toNatClampNeg))), (8, .int l8), (9, .int l9), (10, .long l10)]) C dX2_tryPiece_97 rfl (by rw [hKN]; decide) rfl ?_
          refine g_lload C (q := 0) rfl dX2_tryPiece_99 rfl ?_
          refine g_lload C (q := 5) rfl dX2_tryPiece_101 rfl ?_
          refine g_land C dX2_tryPiece_103 rfl ?_
          refine g_lconst (v := 0) C (by decide) dX2_tryPiece_104 rfl ?_
          refine g_lif_ne (tgt := 137) C dX2_tryPiece_105 rfl dX2_tryPiece_106 (by decide) rfl (fun c95 => ?_) (fun c95 => ?_)
          · replace hf := iff' c95 hf
            refine g_lload C (q := 10) rfl dX2_tryPiece_137 rfl ?_
            refine g_lload C (q := 10) rfl dX2_tryPiece_139 rfl ?_
            refine g_lconst (v := 1) C (by decide) dX2_tryPiece_141 rfl ?_
            refine g_lsub C dX2_tryPiece_142 rfl ?_
            refine g_land C dX2_tryPiece_143 rfl ?_
            refine g_lstore (i := 10) (lv' := [(10, .long (l10 &&& (l10 - (1 : Int64)))), (12, .long q94), (0, .ref (k + 32)), (1, .int l1), (2, .int l2), (3, .int l3), (4, .long l4), (6, .int l6), (7, .ref (k + (1 + 5 * l1.toNatClampNeg))), (8, .int l8), (9, .int l9)]) C dX2_tryPiece_144 rfl (by rw [hKN]; decide) rfl ?_
            refine g_goto (pc' := 35) C dX2_tryPiece_146 (by decide) ?_
            refine g_sub (lv' := [(0, .ref (k + 32)), (1, .int l1), (2, .int l2), (3, .int l3), (4, .long l4), (6, .int l6), (7, .ref (k + (1 + 5 * l1.toNatClampNeg))), (8, .int l8), (9, .int l9), (10, .long (l10 &&& (l10 - (1 : Int64))))]) [2, 3, 4, 5, 6, 7, 8, 9, 10, 0] rfl ?_
            exact ih _ _ _ _ _ _ _ hf hret hx
          · replace hf := ift c95 hf
            refine g_aload_n C rfl (q := 1) rfl dX2_tryPiece_109 rfl ?_
            refine g_get C fc_X2 1 (by decide) wf_RX2_15 (wL_at 32 rfl) rfl dX2_tryPiece_110 rfl ?_
            refine g_iload_n C rfl (q := 2) rfl dX2_tryPiece_113 rfl ?_
            refine g_lload C (q := 0) rfl dX2_tryPiece_114 rfl ?_
            obtain ⟨g96, hf⟩ := gd hf
            refine g_last (h' := (wSe σ k pss pps phv poo pcu pmm psk ppk pkw psc ppn asm sur bud wan (tri + (1 : Int32)) fou en eh (va_up cho l1.toNatClampNeg q94))) C (wL_at 33 rfl) (inB_in g96) (wL_up 33 (Nat.le_of_ble_eq_true rfl) rfl) dX2_tryPiece_116 rfl ?_
            refine g_aload_n C rfl (q := 1) rfl dX2_tryPiece_117 rfl ?_
            refine g_iload_n C rfl (q := 4) rfl dX2_tryPiece_118 rfl ?_
            refine g_iconst (v := 1) C (by decide) dX2_tryPiece_119 rfl ?_
            refine g_iadd C dX2_tryPiece_120 rfl ?_
            refine g_lload C (q := 5) rfl dX2_tryPiece_121 rfl ?_
            refine g_lload C (q := 0) rfl dX2_tryPiece_123 rfl ?_
            refine g_lor C dX2_tryPiece_125 rfl ?_
            refine g_iload C (q := 6) rfl dX2_tryPiece_126 rfl ?_
            refine g_iconst (v := 1) C (by decide) dX2_tryPiece_128 rfl ?_
            refine g_iload_n C rfl (q := 2) rfl dX2_tryPiece_129 rfl ?_
            refine g_ishl C dX2_tryPiece_130 rfl ?_
            refine g_iconst (v := (-1)) C (by decide) dX2_tryPiece_131 rfl ?_
            refine g_ixor C dX2_tryPiece_132 rfl ?_
            refine g_iand C dX2_tryPiece_133 rfl ?_
            obtain ⟨q97, hq97, hf⟩ := bd hf
            refine g_callV0 (st' := []) (as := [.int (l3 + (1 : Int32)), .long (l4 ||| q94), .int (l6 &&& (((1 : Int32) <<< (l1 &&& 31)) ^^^ (-1 : Int32)))]) (st2 := []) (k := 3) C ⟨wm_RX2_53, wn_X2_goOn, wv_X2_goOn, wi_RX2, wk_X2_goOn, by decide +kernel⟩ rfl (wL_at 32 rfl) (hrec _ hq97) (by rw [hKR]; exact ⟨rfl, rfl, ⟨by dsimp only; omega, by dsimp only; omega⟩, Nat.le_refl _, Nat.le_refl _⟩) rfl rfl (by simp) rfl dX2_tryPiece_134 rfl ?_
            refine g_lload C (q := 10) rfl dX2_tryPiece_137 rfl ?_
            refine g_lload C (q := 10) rfl dX2_tryPiece_139 rfl ?_
            refine g_lconst (v := 1) C (by decide) dX2_tryPiece_141 rfl ?_
            refine g_lsub C dX2_tryPiece_142 rfl ?_
            refine g_land C dX2_tryPiece_143 rfl ?_
            refine g_lstore (i := 10) (lv' := [(10, .long (l10 &&& (l10 - (1 : Int64)))), (12, .long q94), (0, .ref (k + 32)), (1, .int l1), (2, .int l2), (3, .int l3), (4, .long l4), (6, .int l6), (7, .ref (k + (1 + 5 * l1.toNatClampNeg))), (8, .int l8), (9, .int l9)]) C dX2_tryPiece_144 rfl (by rw [hKN]; decide) rfl ?_
            refine g_goto (pc' := 35) C dX2_tryPiece_146 (by decide) ?_
            refine g_sub (lv' := [(0, .ref (k + 32)), (1, .int l1), (2, .int l2), (3, .int l3), (4, .long l4), (6, .int l6), (7, .ref (k + (1 + 5 * l1.toNatClampNeg))), (8, .int l8), (9, .int l9), (10, .long (l10 &&& (l10 - (1 : Int64))))]) [2, 3, 4, 5, 6, 7, 8, 9, 10, 0] rfl ?_
            exact ih _ _ _ _ _ _ _ hf hret hx
        · replace hf := iff' c91 hf
          refine g_aload_n C rfl (q := 0) rfl dX2_tryPiece_60 rfl ?_
          refine g_iconst (v := 1) C (by decide) dX2_tryPiece_61 rfl ?_
          refine g_put (h' := (wSe σ k pss pps phv poo pcu pmm psk ppk pkw psc ppn asm sur bud wan tri fou (1 : Int32) eh cho)) C fc_X2 7 (by decide) wf_RX2_40 rfl rfl rfl (Nat.le_of_ble_eq_true rfl) (wL_at 32 rfl) (wL_up 32 (Nat.le_of_ble_eq_true rfl) rfl) dX2_tryPiece_62 rfl ?_
          refine g_aload_n C rfl (q := 0) rfl dX2_tryPiece_65 rfl ?_
          refine g_iconst (v := 0) C (by decide) dX2_tryPiece_66 rfl ?_
          refine g_put (h' := (wSe σ k pss pps phv poo pcu pmm psk ppk pkw psc ppn asm sur bud wan tri fou (1 : Int32) (0 : Int32) cho)) C fc_X2 8 (by decide) wf_RX2_26 rfl rfl rfl (Nat.le_of_ble_eq_true rfl) (wL_at 32 rfl) (wL_up 32 (Nat.le_of_ble_eq_true rfl) rfl) dX2_tryPiece_67 rfl ?_
          obtain rfl := Option.some.inj hf
          exact g_vret C (hret (tri, fou, (1 : Int32), (0 : Int32), cho) rfl) dX2_tryPiece_70
set_option maxHeartbeats 2000000 in
set_option maxRecDepth 20000 in
theorem g_X2_tryPiece_18 {K : KX} {n : Nat} {σ : AH} {k : Nat} {rec : Int32 → Int32 → Int32 → Int32 → (Nat → Int64) → Int32 → Int64 → Int32 → Option (Int32 × Int32 × Int32 × Int32 × (Nat → Int64))} {fG : Nat} {LG : Nat} {phv : Nat → Nat → Int64} {pps : Nat → Nat → Int64} {ppn : Nat → Int32} {sur : Int64} {bud : Int32} {wan : Int32} (hrec : ∀ {n : Nat} {σ : AH} {k : Nat} {pss : Nat → Nat → Int64} {poo : Nat → Nat → Int64} {pcu : Nat → Int64} {pmm : Nat → Int32} {psk : Nat → Int32} {ppk : Nat → Int32} {pkw : Nat → Int64} {psc : Nat → Int32} {asm : Nat → Int64} {tri : Int32} {fou : Int32} {en : Int32} {eh : Int32} {cho : Nat → Int64} {l1 : Int32} {l2 : Int64} {l4 : Int32} (res : Int32 × Int32 × Int32 × Int32 × (Nat → Int64)), rec tri fou en eh cho l1 l2 l4 = some res → Con (kL K) (kE K) yX2_goOn (.code yX2_goOn cX2_goOn 9 none :: TT) ({ frames := fG, cells := 0, slots := 0, locals := LG } : Room) 0 0 [.ref (k + 32), .int l1, .long l2, .int l4] (wSe σ k pss pps phv poo pcu pmm psk ppk pkw psc ppn asm sur bud wan tri fou en eh cho) n none (wSe σ k pss pps phv poo pcu pmm psk ppk pkw psc ppn asm sur bud wan res.1 res.2.1 res.2.2.1 res.2.2.2.1 res.2.2.2.2) n) {l1 : Int32} {l2 : Int32} {l3 : Int32} {l4 : Int64} {l6 : Int32} {l8 : Int32} {pss : Nat → Nat → Int64} {poo : Nat → Nat → Int64} {pcu : Nat → Int64} {pmm : Nat → Int32} {psk : Nat → Int32} {ppk : Nat → Int32} {pkw : Nat → Int64} {psc : Nat → Int32} {asm : Nat → Int64} (C : Cx K RX2 "tryPiece" cX2_tryPiece none) (hKR : kR K = ({ frames := fG + 3, cells := 0, slots := 0, locals := LG + 100 } : Room)) (hKN : kN K = 14) : ∀ (fu : Nat) (l9 : Int32) (tri : Int32) (fou : Int32) (en : Int32) (eh : Int32) (cho : Nat → Int64) (res : ((Int32 × Int32 × Int32 × Int32 × (Nat → Int64)) ⊕ (Int32 × Int32 × Int32 × Int32 × (Nat → Int64)))), f_X2_tryPiece_18 rec l1 l2 l3 l4 l6 l8 pps phv bud fu l9 tri fou en eh cho = some res → (∀ t, res = .inl t → KQ K 0 0 none (wSe σ k pss pps phv poo pcu pmm psk ppk pkw psc ppn asm sur bud wan t.1 t.2.1 t.2.2.1 t.2.2.2.1 t.2.2.2.2) n) → (∀ t, res = .inr t → G K 0 0 155 [] [] (wSe σ k pss pps phv poo pcu pmm psk ppk pkw psc ppn asm sur bud wan t.1 t.2.1 t.2.2.1 t.2.2.2.1 t.2.2.2.2) n) → G K 0 0 18 [(0, .ref (k + 32)), (1, .int l1), (2, .int l2), (3, .int l3), (4, .long l4), (6, .int l6), (7, .ref (k + (1 + 5 * l1.toNatClampNeg))), (8, .int l8), (9, .int l9)] [] (wSe σ k pss pps phv poo pcu pmm psk ppk pkw psc ppn asm sur bud wan tri fou en eh cho) n := by
  intro fu
  induction fu with
  | zero =>
    intro l9 tri fou en eh cho res hf
    exact absurd hf (by simp [f_X2_tryPiece_18])
  | succ fu ih =>
    intro l9 tri fou en eh cho res hf hret hx
    rw [f_X2_tryPiece_18] at hf
    refine g_iload C (q := 8) rfl dX2_tryPiece_18 rfl ?_
    refine g_iload C (q := 7) rfl dX2_tryPiece_20 rfl ?_
    refine g_icmp_ge (tgt := 155) C dX2_tryPiece_22 (by decide) rfl (fun c68 => ?_) (fun c68 => ?_)
    · replace hf := ift c68 hf
      obtain rfl := Option.some.inj hf
      refine g_sub (lv' := []) [] rfl ?_
      exact hx (tri, fou, en, eh, cho) rfl
    · replace hf := iff' c68 hf
      refine g_aload C (q := 6) rfl dX2_tryPiece_25 rfl ?_
      refine g_iload_n C rfl (q := 2) rfl dX2_tryPiece_27 rfl ?_
      refine g_iload C (q := 8) rfl dX2_tryPiece_28 rfl ?_
      obtain ⟨g69, hf⟩ := gd hf
      obtain ⟨q70, hq70, hf⟩ := bd hf
      refine g_heap (se_pc_s l1.toNatClampNeg (vp_lt g69)) ?_
      refine g_callV0 (st' := []) (as := [.int l2, .int l9]) (st2 := [.long q70]) (k := 2) C ⟨wm_RX2_79, wn_X1_wordOf, wv_X1_wordOf, wi_RX1, wk_X1_wordOf, by decide +kernel⟩ rfl (wL_at0 rfl) (c_X1_wordOf (l := kL K) (E := kE K) (σ := (wSe σ k pss pps phv poo pcu pmm psk ppk pkw psc ppn asm sur bud wan tri fou en eh cho)) (a := k + (1 + 5 * l1.toNatClampNeg)) _ hq70) (by rw [hKR]; exact ⟨rfl, rfl, ⟨by dsimp only; omega, by dsimp only; omega⟩, Nat.le_refl _, Nat.le_refl _⟩) rfl rfl (by simp) rfl dX2_tryPiece_30 rfl ?_
      refine g_heap (h' := (wSe σ k pss pps phv poo pcu pmm psk ppk pkw psc ppn asm sur bud wan tri fou en eh cho)) (by rw [se_pc_r l1.toNatClampNeg (vp_lt g69)]; simp only [va_up_id]) ?_
      refine g_lstore (i := 10) (lv' := [(10, .long q70), (0, .ref (k + 32)), (1, .int l1), (2, .int l2), (3, .int l3), (4, .long l4), (6, .int l6), (7, .ref (k + (1 + 5 * l1.toNatClampNeg))), (8, .int l8), (9, .int l9)]) C dX2_tryPiece_33 rfl (by rw [hKN]; decide) rfl ?_
      refine g_sub (lv' := [(0, .ref (k + 32)), (1, .int l1), (2, .int l2), (3, .int l3), (4, .long l4), (6, .int l6), (7, .ref (k + (1 + 5 * l1.toNatClampNeg))), (8, .int l8), (9, .int l9), (10, .long q70)]) [1, 2, 3, 4, 5, 6, 7, 8, 9, 0] rfl ?_
      obtain ⟨q98, hq98, hf1, hf2⟩ := sb hf
      refine g_X2_tryPiece_35 (l1 := l1) (l2 := l2) (l3 := l3) (l4 := l4) (l6 := l6) (l8 := l8) (l9 := l9) (pss := pss) (pps := pps) (phv := phv) (poo := poo) (pcu := pcu) (pmm := pmm) (psk := psk) (ppk := ppk) (pkw := pkw) (psc := psc) (ppn := ppn) (asm := asm) (sur := sur) (bud := bud) (wan := wan) hrec C hKR hKN _ _ _ _ _ _ _ q98 hq98 (fun t99 et99 => ?_) (fun t99 et99 => ?_)
      · obtain rfl := hf1 _ et99
        exact (hret t99 rfl)
      · have hf := hf2 _ et99
        refine g_iinc (v := l9 + (1 : Int32)) (lv' := [(9, .int (l9 + (1 : Int32))), (0, .ref (k + 32)), (1, .int l1), (2, .int l2), (3, .int l3), (4, .long l4), (6, .int l6), (7, .ref (k + (1 + 5 * l1.toNatClampNeg))), (8, .int l8)]) (q := 8) C dX2_tryPiece_149 rfl rfl rfl (by rw [hKN]; decide) rfl ?_
        refine g_goto (pc' := 18) C dX2_tryPiece_152 (by decide) ?_
        refine g_sub (lv' := [(0, .ref (k + 32)), (1, .int l1), (2, .int l2), (3, .int l3), (4, .long l4), (6, .int l6), (7, .ref (k + (1 + 5 * l1.toNatClampNeg))), (8, .int l8), (9, .int (l9 + (1 : Int32)))]) [1, 2, 3, 4, 5, 6, 7, 8, 0] rfl ?_
        exact ih _ _ _ _ _ _ _ hf hret hx
set_option maxHeartbeats 2000000 in
set_option maxRecDepth 20000 in
theorem c_X2_tryPiece {l : Launch} {E : Ex} {n : Nat} {σ : AH} {k : Nat} {rec : Int32 → Int32 → Int32 → Int32 → (Nat → Int64) → Int32 → Int64 → Int32 → Option (Int32 × Int32 × Int32 × Int32 × (Nat → Int64))} {fG : Nat} {LG : Nat} {phv : Nat → Nat → Int64} {pps : Nat → Nat → Int64} {ppn : Nat → Int32} {sur : Int64} {bud : Int32} {wan : Int32} (hrec : ∀ {n : Nat} {σ : AH} {k : Nat} {pss : Nat → Nat → Int64} {poo : Nat → Nat → Int64} {pcu : Nat → Int64} {pmm : Nat → Int32} {psk : Nat → Int32} {ppk : Nat → Int32} {pkw : Nat → Int64} {psc : Nat → Int32} {asm : Nat → Int64} {tri : Int32} {fou : Int32} {en : Int32} {eh : Int32} {cho : Nat → Int64} {l1 : Int32} {l2 : Int64} {l4 : Int32} (res : Int32 × Int32 × Int32 × Int32 × (Nat → Int64)), rec tri fou en eh cho l1 l2 l4 = some res → Con l E yX2_goOn (.code yX2_goOn cX2_goOn 9 none :: TT) ({ frames := fG, cells := 0, slots := 0, locals := LG } : Room) 0 0 [.ref (k + 32), .int l1, .long l2, .int l4] (wSe σ k pss pps phv poo pcu pmm psk ppk pkw psc ppn asm sur bud wan tri fou en eh cho) n none (wSe σ k pss pps phv poo pcu pmm psk ppk pkw psc ppn asm sur bud wan res.1 res.2.1 res.2.2.1 res.2.2.2.1 res.2.2.2.2) n) {pss : Nat → Nat → Int64} {poo : Nat → Nat → Int64} {pcu : Nat → Int64} {pmm : Nat → Int32} {psk : Nat → Int32} {ppk : Nat → Int32} {pkw : Nat → Int64} {psc : Nat → Int32} {asm : Nat → Int64} {tri : Int32} {fou : Int32} {en : Int32} {eh : Int32} {cho : Nat → Int64} {l1 : Int32} {l2 : Int32} {l3 : Int32} {l4 : Int64} {l6 : Int32} {fu : Nat} (res : (Int32 × Int32 × Int32 × Int32 × (Nat → Int64))) (hf : f_X2_tryPiece fu rec pps phv ppn bud tri fou en eh cho l1 l2 l3 l4 l6 = some res) : Con l E yX2_tryPiece (.code yX2_tryPiece cX2_tryPiece 14 none :: TT) ({ frames := fG + 3, cells := 0, slots := 0, locals := LG + 100 } : Room) 0 0 [.ref (k + 32), .int l1, .int l2, .int l3, .long l4, .int l6] (wSe σ k pss pps phv poo pcu pmm psk ppk pkw psc ppn asm sur bud wan tri fou en eh cho) n none (wSe σ k pss pps phv poo pcu pmm psk ppk pkw psc ppn asm sur bud wan res.1 res.2.1 res.2.2.1 res.2.2.2.1 res.2.2.2.2) n := by
  refine con_intro (by decide +kernel) (Nat.le_of_ble_eq_true rfl) ?_
  intro K C hKR hKL hKE hKN hKQ
  subst hKL
  subst hKE
  have C : Cx K RX2 "tryPiece" cX2_tryPiece none := C
  show G K 0 0 0 [(0, .ref (k + 32)), (1, .int l1), (2, .int l2), (3, .int l3), (4, .long l4), (6, .int l6)] [] (wSe σ k pss pps phv poo pcu pmm psk ppk pkw psc ppn asm sur bud wan tri fou en eh cho) n
  unfold f_X2_tryPiece at hf
  refine g_aload_n C rfl (q := 0) rfl dX2_tryPiece_0 rfl ?_
  refine g_get C fc_X2 0 (by decide) wf_RX2_9 (wL_at 32 rfl) rfl dX2_tryPiece_1 rfl ?_
  refine g_iload_n C rfl (q := 1) rfl dX2_tryPiece_4 rfl ?_
  obtain ⟨g1, hf⟩ := gd hf
  refine g_aald C (by decide) (wL_at0 rfl) (inB_in g1) rfl dX2_tryPiece_5 rfl ?_
  refine g_astore (i := 7) (lv' := [(7, .ref (k + (1 + 5 * l1.toNatClampNeg))), (0, .ref (k + 32)), (1, .int l1), (2, .int l2), (3, .int l3), (4, .long l4), (6, .int l6)]) C dX2_tryPiece_6 rfl (by rw [hKN]; decide) rfl ?_
  refine g_aload C (q := 0) rfl dX2_tryPiece_8 rfl ?_
  obtain ⟨g2, hf⟩ := gd hf
  obtain ⟨q3, hq3, hf⟩ := bd hf
  refine g_heap (se_pc_s l1.toNatClampNeg (vp_lt g2)) ?_
  refine g_callV0 (st' := []) (as := []) (st2 := [.int q3]) (k := 0) C ⟨wm_RX2_76, wn_X1_countWords, wv_X1_countWords, wi_RX1, wk_X1_countWords, by decide +kernel⟩ rfl (wL_at0 rfl) (c_X1_countWords (l := kL K) (E := kE K) (σ := (wSe σ k pss pps phv poo pcu pmm psk ppk pkw psc ppn asm sur bud wan tri fou en eh cho)) (a := k + (1 + 5 * l1.toNatClampNeg)) _ hq3) (by rw [hKR]; exact ⟨rfl, rfl, ⟨by dsimp only; omega, by dsimp only; omega⟩, Nat.le_refl _, Nat.le_refl _⟩) rfl rfl (by simp) rfl dX2_tryPiece_10 rfl ?_
  refine g_heap (h' := (wSe σ k pss pps phv poo pcu pmm psk ppk pkw psc ppn asm sur bud wan tri fou en eh cho)) (by rw [se_pc_r l1.toNatClampNeg (vp_lt g2)]; simp only [va_up_id]) ?_
  refine g_istore (i := 8) (lv' := [(8, .int q3), (7, .ref (k + (1 + 5 * l1.toNatClampNeg))), (0, .ref (k + 32)), (1, .int l1), (2, .int l2), (3, .int l3), (4, .long l4), (6, .int l6)]) C dX2_tryPiece_13 rfl (by rw [hKN]; decide) rfl ?_
  refine g_iconst (v := 0) C (by decide) dX2_tryPiece_15 rfl ?_
  refine g_istore (i := 9) (lv' := [(9, .int (0 : Int32)), (8, .int q3), (7, .ref (k + (1 + 5 * l1.toNatClampNeg))), (0, .ref (k + 32)), (1, .int l1), (2, .int l2), (3, .int l3), (4, .long l4), (6, .int l6)]) C dX2_tryPiece_16 rfl (by rw [hKN]; decide) rfl ?_
  refine g_sub (lv' := [(0, .ref (k + 32)), (1, .int l1), (2, .int l2), (3, .int l3), (4, .long l4), (6, .int l6), (7, .ref (k + (1 + 5 * l1.toNatClampNeg))), (8, .int q3), (9, .int (0 : Int32))]) [3, 4, 5, 6, 7, 8, 2, 1, 0] rfl ?_
  obtain ⟨q100, hq100, hf1, hf2⟩ := sb hf
  refine g_X2_tryPiece_18 (l1 := l1) (l2 := l2) (l3 := l3) (l4 := l4) (l6 := l6) (l8 := q3) (pss := pss) (pps := pps) (phv := phv) (poo := poo) (pcu := pcu) (pmm := pmm) (psk := psk) (ppk := ppk) (pkw := pkw) (psc := psc) (ppn := ppn) (asm := asm) (sur := sur) (bud := bud) (wan := wan) hrec C hKR hKN _ _ _ _ _ _ _ q100 hq100 (fun t101 et101 => ?_) (fun t101 et101 => ?_)
  · obtain rfl := hf1 _ et101
    exact hKQ
  · have hf := hf2 _ et101
    obtain rfl := Option.some.inj hf
    exact g_vret C hKQ dX2_tryPiece_155
def f_X2_goOn_78 (rec : Int32 → Int32 → Int32 → Int32 → (Nat → Int64) → Int32 → Int64 → Int32 → Option (Int32 × Int32 × Int32 × Int32 × (Nat → Int64))) (l1 : Int32) (l2 : Int64) (l4 : Int32) (l7 : Int32) (pps : Nat → Nat → Int64) (phv : Nat → Nat → Int64) (ppn : Nat → Int32) (bud : Int32) : Nat → Int32 → Int32 → Int32 → Int32 → Int32 → (Nat → Int64) → Option (Int32 × Int32 × Int32 × Int32 × (Nat → Int64))
  | 0, _, _, _, _, _, _ => none
  | fu + 1, l8, tri, fou, en, eh, cho => (if l8 = 0 then some (tri, fou, en, eh, cho) else (if en = 0 then ((f_X6_lowestPiece l8).bind fun q18 => ((f_X2_tryPiece fu rec pps phv ppn bud tri fou en eh cho q18 l7 l1 l2 l4).bind fun q19 => f_X2_goOn_78 rec l1 l2 l4 l7 pps phv ppn bud fu (l8 &&& (l8 - (1 : Int32))) q19.1 q19.2.1 q19.2.2.1 q19.2.2.2.1 q19.2.2.2.2)) else some (tri, fou, en, eh, cho)))
def f_X2_goOnB (fu : Nat) (rec : Int32 → Int32 → Int32 → Int32 → (Nat → Int64) → Int32 → Int64 → Int32 → Option (Int32 × Int32 × Int32 × Int32 × (Nat → Int64))) (pps : Nat → Nat → Int64) (phv : Nat → Nat → Int64) (ppn : Nat → Int32) (sur : Int64) (bud : Int32) (wan : Int32) (tri : Int32) (fou : Int32) (en : Int32) (eh : Int32) (cho : Nat → Int64) (l1 : Int32) (l2 : Int64) (l4 : Int32) : Option (Int32 × Int32 × Int32 × Int32 × (Nat → Int64)) := (if l4 = 0 then (if l4 = 0 then (if (sur &&& (l2 ^^^ (-1 : Int64))) = (0 : Int64) then ((f_X2_countPacking wan fou en).bind fun q4 => some (tri, q4.1, q4.2, eh, cho)) else some (tri, fou, en, eh, cho)) else some (tri, fou, en, eh, cho)) else (if l1 < (6 : Int32) then (if (sur &&& (l2 ^^^ (-1 : Int64))) = (0 : Int64) then ((f_X6_lowestPiece l4).bind fun q21 => ((f_X2_tryPiece fu rec pps phv ppn bud tri fou en eh cho q21 (64 : Int32) l1 l2 l4).bind fun q22 => some (q22.1, q22.2.1, q22.2.2.1, q22.2.2.2.1, q22.2.2.2.2))) else ((f_X0_lowest (sur &&& (l2 ^^^ (-1 : Int64)))).bind fun q7 => ((f_X2_goOn_78 rec l1 l2 l4 q7 pps phv ppn bud fu l4 tri fou en eh cho).bind fun q20 => some (q20.1, q20.2.1, q20.2.2.1, q20.2.2.2.1, q20.2.2.2.2)))) else (if l4 = 0 then (if (sur &&& (l2 ^^^ (-1 : Int64))) = (0 : Int64) then ((f_X2_countPacking wan fou en).bind fun q25 => some (tri, q25.1, q25.2, eh, cho)) else some (tri, fou, en, eh, cho)) else some (tri, fou, en, eh, cho))))
set_option maxHeartbeats 2000000 in
set_option maxRecDepth 20000 in
theorem g_X2_goOn_78 {K : KX} {n : Nat} {σ : AH} {k : Nat} {rec : Int32 → Int32 → Int32 → Int32 → (Nat → Int64) → Int32 → Int64 → Int32 → Option (Int32 × Int32 × Int32 × Int32 × (Nat → Int64))} {fG : Nat} {LG : Nat} {phv : Nat → Nat → Int64} {pps : Nat → Nat → Int64} {ppn : Nat → Int32} {sur : Int64} {bud : Int32} {wan : Int32} (hrec : ∀ {n : Nat} {σ : AH} {k : Nat} {pss : Nat → Nat → Int64} {poo : Nat → Nat → Int64} {pcu : Nat → Int64} {pmm : Nat → Int32} {psk : Nat → Int32} {ppk : Nat → Int32} {pkw : Nat → Int64} {psc : Nat → Int32} {asm : Nat → Int64} {tri : Int32} {fou : Int32} {en : Int32} {eh : Int32} {cho : Nat → Int64} {l1 : Int32} {l2 : Int64} {l4 : Int32} (res : Int32 × Int32 × Int32 × Int32 × (Nat → Int64)), rec tri fou en eh cho l1 l2 l4 = some res → Con (kL K) (kE K) yX2_goOn (.code yX2_goOn cX2_goOn 9 none :: TT) ({ frames := fG, cells := 0, slots := 0, locals := LG } : Room) 0 0 [.ref (k + 32), .int l1, .long l2, .int l4] (wSe σ k pss pps phv poo pcu pmm psk ppk pkw psc ppn asm sur bud wan tri fou en eh cho) n none (wSe σ k pss pps phv poo pcu pmm psk ppk pkw psc ppn asm sur bud wan res.1 res.2.1 res.2.2.1 res.2.2.2.1 res.2.2.2.2) n) {l1 : Int32} {l2 : Int64} {l4 : Int32} {l7 : Int32} {pss : Nat → Nat → Int64} {poo : Nat → Nat → Int64} {pcu : Nat → Int64} {pmm : Nat → Int32} {psk : Nat → Int32} {ppk : Nat → Int32} {pkw : Nat → Int64} {psc : Nat → Int32} {asm : Nat → Int64} (C : Cx K RX2 "goOn" cX2_goOn none) (hKR : kR K = ({ frames := fG + 5, cells := 0, slots := 0, locals := LG + 200 } : Room)) (hKN : kN K = 9) : ∀ (fu : Nat) (l8 : Int32) (tri : Int32) (fou : Int32) (en : Int32) (eh : Int32) (cho : Nat → Int64) (res : (Int32 × Int32 × Int32 × Int32 × (Nat → Int64))), f_X2_goOn_78 rec l1 l2 l4 l7 pps phv ppn bud fu l8 tri fou en eh cho = some res → G K 0 0 117 [] [] (wSe σ k pss pps phv poo pcu pmm psk ppk pkw psc ppn asm sur bud wan res.1 res.2.1 res.2.2.1 res.2.2.2.1 res.2.2.2.2) n → G K 0 0 78 [(0, .ref (k + 32)), (1, .int l1), (2, .long l2), (4, .int l4), (7, .int l7), (8, .int l8)] [] (wSe σ k pss pps phv poo pcu pmm psk ppk pkw psc ppn asm sur bud wan tri fou en eh cho) n := by
  intro fu
  induction fu with
  | zero =>
    intro l8 tri fou en eh cho res hf
    exact absurd hf (by simp [f_X2_goOn_78])
  | succ fu ih =>
    intro l8 tri fou en eh cho res hf hx
    rw [f_X2_goOn_78] at hf
    refine g_iload C (q := 5) rfl dX2_goOn_78 rfl ?_
    refine g_if_eq (tgt := 117) C dX2_goOn_80 (by decide) rfl (fun c16 => ?_) (fun c16 => ?_)
    · replace hf := ift c16 hf
      obtain rfl := Option.some.inj hf
      refine g_sub (lv' := []) [] rfl ?_
      exact hx
    · replace hf := iff' c16 hf
      refine g_aload_n C rfl (q := 0) rfl dX2_goOn_83 rfl ?_
      refine g_get C fc_X2 7 (by decide) wf_RX2_40 (wL_at 32 rfl) rfl dX2_goOn_84 rfl ?_
      refine g_if_ne (tgt := 117) C dX2_goOn_87 (by decide) rfl (fun c17 => ?_) (fun c17 => ?_)
      · replace hf := iff' c17 hf
        obtain rfl := Option.some.inj hf
        refine g_sub (lv' := []) [] rfl ?_
        exact hx
      · replace hf := ift c17 hf
        refine g_aload_n C rfl (q := 0) rfl dX2_goOn_90 rfl ?_
        refine g_iload C (q := 5) rfl dX2_goOn_91 rfl ?_
        obtain ⟨q18, hq18, hf⟩ := bd hf
        refine g_callN0 (st' := [.ref (k + 32)]) (as := [.int l8]) (st2 := [.int q18, .ref (k + 32)]) (k := 1) C (zN C).1 ⟨ws_X6_lowestPiece, wi_RX6, wk_X6_lowestPiece, by decide +kernel⟩ (c_X6_lowestPiece (l := kL K) (E := kE K)  _ hq18) (by rw [hKR]; exact ⟨rfl, rfl, ⟨by dsimp only; omega, by dsimp only; omega⟩, Nat.le_refl _, Nat.le_refl _⟩) rfl rfl (by simp [Value.category]) rfl dX2_goOn_93 rfl ?_
        refine g_iload C (q := 4) rfl dX2_goOn_96 rfl ?_
        refine g_iload_n C rfl (q := 1) rfl dX2_goOn_98 rfl ?_
        refine g_lload_n C rfl (q := 2) rfl dX2_goOn_99 rfl ?_
        refine g_iload C (q := 3) rfl dX2_goOn_100 rfl ?_
        obtain ⟨q19, hq19, hf⟩ := bd hf
        refine g_callV0 (st' := []) (as := [.int q18, .int l7, .int l1, .long l2, .int l4]) (st2 := []) (k := 5) C ⟨wm_RX2_66, wn_X2_tryPiece, wv_X2_tryPiece, wi_RX2, wk_X2_tryPiece, by decide +kernel⟩ rfl (wL_at 32 rfl) (c_X2_tryPiece (l := kL K) (E := kE K) hrec _ hq19) (by rw [hKR]; exact ⟨rfl, rfl, ⟨by dsimp only; omega, by dsimp only; omega⟩, Nat.le_refl _, Nat.le_refl _⟩) rfl rfl (by simp) rfl dX2_goOn_102 rfl ?_
        refine g_iload C (q := 5) rfl dX2_goOn_105 rfl ?_
        refine g_iload C (q := 5) rfl dX2_goOn_107 rfl ?_
        refine g_iconst (v := 1) C (by decide) dX2_goOn_109 rfl ?_
        refine g_isub C dX2_goOn_110 rfl ?_
        refine g_iand C dX2_goOn_111 rfl ?_
        refine g_istore (i := 8) (lv' := [(8, .int (l8 &&& (l8 - (1 : Int32)))), (0, .ref (k + 32)), (1, .int l1), (2, .long l2), (4, .int l4), (7, .int l7)]) C dX2_goOn_112 rfl (by rw [hKN]; decide) rfl ?_
        refine g_goto (pc' := 78) C dX2_goOn_114 (by decide) ?_
        refine g_sub (lv' := [(0, .ref (k + 32)), (1, .int l1), (2, .long l2), (4, .int l4), (7, .int l7), (8, .int (l8 &&& (l8 - (1 : Int32))))]) [1, 2, 3, 4, 5, 0] rfl ?_
        exact ih _ _ _ _ _ _ _ hf hx
set_option maxHeartbeats 2000000 in
set_option maxRecDepth 20000 in
theorem c_X2_goOnB {l : Launch} {E : Ex} {n : Nat} {σ : AH} {k : Nat} {rec : Int32 → Int32 → Int32 → Int32 → (Nat → Int64) → Int32 → Int64 → Int32 → Option (Int32 × Int32 × Int32 × Int32 × (Nat → Int64))} {fG : Nat} {LG : Nat} {phv : Nat → Nat → Int64} {pps : Nat → Nat → Int64} {ppn : Nat → Int32} {sur : Int64} {bud : Int32} {wan : Int32} (hrec : ∀ {n : Nat} {σ : AH} {k : Nat} {pss : Nat → Nat → Int64} {poo : Nat → Nat → Int64} {pcu : Nat → Int64} {pmm : Nat → Int32} {psk : Nat → Int32} {ppk : Nat → Int32} {pkw : Nat → Int64} {psc : Nat → Int32} {asm : Nat → Int64} {tri : Int32} {fou : Int32} {en : Int32} {eh : Int32} {cho : Nat → Int64} {l1 : Int32} {l2 : Int64} {l4 : Int32} (res : Int32 × Int32 × Int32 × Int32 × (Nat → Int64)), rec tri fou en eh cho l1 l2 l4 = some res → Con l E yX2_goOn (.code yX2_goOn cX2_goOn 9 none :: TT) ({ frames := fG, cells := 0, slots := 0, locals := LG } : Room) 0 0 [.ref (k + 32), .int l1, .long l2, .int l4] (wSe σ k pss pps phv poo pcu pmm psk ppk pkw psc ppn asm sur bud wan tri fou en eh cho) n none (wSe σ k pss pps phv poo pcu pmm psk ppk pkw psc ppn asm sur bud wan res.1 res.2.1 res.2.2.1 res.2.2.2.1 res.2.2.2.2) n) {pss : Nat → Nat → Int64} {poo : Nat → Nat → Int64} {pcu : Nat → Int64} {pmm : Nat → Int32} {psk : Nat → Int32} {ppk : Nat → Int32} {pkw : Nat → Int64} {psc : Nat → Int32} {asm : Nat → Int64} {tri : Int32} {fou : Int32} {en : Int32} {eh : Int32} {cho : Nat → Int64} {l1 : Int32} {l2 : Int64} {l4 : Int32} {fu : Nat} (res : (Int32 × Int32 × Int32 × Int32 × (Nat → Int64))) (hf : f_X2_goOnB fu rec pps phv ppn sur bud wan tri fou en eh cho l1 l2 l4 = some res) : Con l E yX2_goOn (.code yX2_goOn cX2_goOn 9 none :: TT) ({ frames := fG + 5, cells := 0, slots := 0, locals := LG + 200 } : Room) 0 0 [.ref (k + 32), .int l1, .long l2, .int l4] (wSe σ k pss pps phv poo pcu pmm psk ppk pkw psc ppn asm sur bud wan tri fou en eh cho) n none (wSe σ k pss pps phv poo pcu pmm psk ppk pkw psc ppn asm sur bud wan res.1 res.2.1 res.2.2.1 res.2.2.2.1 res.2.2.2.2) n := by
  refine con_intro (by decide +kernel) (Nat.le_of_ble_eq_true rfl) ?_
  intro K C hKR hKL hKE hKN hKQ
  subst hKL
  subst hKE
  have C : Cx K RX2 "goOn" cX2_goOn none := C
  show G K 0 0 0 [(0, .ref (k + 32)), (1, .int l1), (2, .long l2), (4, .int l4)] [] (wSe σ k pss pps phv poo pcu pmm psk ppk pkw psc ppn asm sur bud wan tri fou en eh cho) n
  unfold f_X2_goOnB at hf
  refine g_aload_n C rfl (q := 0) rfl dX2_goOn_0 rfl ?_
  refine g_get C fc_X2 2 (by decide) wf_RX2_33 (wL_at 32 rfl) rfl dX2_goOn_1 rfl ?_
  refine g_lload_n C rfl (q := 2) rfl dX2_goOn_4 rfl ?_
  refine g_ldc2 C wc_RX2_57 dX2_goOn_5 rfl ?_
  refine g_lxor C dX2_goOn_8 rfl ?_
  refine g_land C dX2_goOn_9 rfl ?_
  refine g_lstore (i := 5) (lv' := [(5, .long (sur &&& (l2 ^^^ (-1 : Int64)))), (0, .ref (k + 32)), (1, .int l1), (2, .long l2), (4, .int l4)]) C dX2_goOn_10 rfl (by rw [hKN]; decide) rfl ?_
  refine g_iload C (q := 4) rfl dX2_goOn_12 rfl ?_
  refine g_if_eq (tgt := 23) C dX2_goOn_14 (by decide) rfl (fun c1 => ?_) (fun c1 => ?_)
  · replace hf := ift c1 hf
    refine g_iload C (q := 4) rfl dX2_goOn_23 rfl ?_
    refine g_if_ne (tgt := 117) C dX2_goOn_25 (by decide) rfl (fun c2 => ?_) (fun c2 => ?_)
    · replace hf := iff' c2 hf
      obtain rfl := Option.some.inj hf
      exact g_vret C hKQ dX2_goOn_117
    · replace hf := ift c2 hf
      refine g_lload C (q := 0) rfl dX2_goOn_28 rfl ?_
      refine g_lconst (v := 0) C (by decide) dX2_goOn_30 rfl ?_
      refine g_lif_ne (tgt := 117) C dX2_goOn_31 rfl dX2_goOn_32 (by decide) rfl (fun c3 => ?_) (fun c3 => ?_)
      · replace hf := iff' c3 hf
        obtain rfl := Option.some.inj hf
        exact g_vret C hKQ dX2_goOn_117
      · replace hf := ift c3 hf
        refine g_aload_n C rfl (q := 1) rfl dX2_goOn_35 rfl ?_
        obtain ⟨q4, hq4, hf⟩ := bd hf
        refine g_callV0 (st' := []) (as := []) (st2 := []) (k := 0) C ⟨wm_RX2_59, wn_X2_countPacking, wv_X2_countPacking, wi_RX2, wk_X2_countPacking, by decide +kernel⟩ rfl (wL_at 32 rfl) (c_X2_countPacking (l := kL K) (E := kE K)  _ hq4) (by rw [hKR]; exact ⟨rfl, rfl, ⟨by dsimp only; omega, by dsimp only; omega⟩, Nat.le_refl _, Nat.le_refl _⟩) rfl rfl (by simp) rfl dX2_goOn_36 rfl ?_
        refine g_goto (pc' := 117) C dX2_goOn_39 (by decide) ?_
        obtain rfl := Option.some.inj hf
        exact g_vret C hKQ dX2_goOn_117
  · replace hf := iff' c1 hf
    refine g_iload_n C rfl (q := 2) rfl dX2_goOn_17 rfl ?_
    refine g_bipush (v := 6) C (by decide) dX2_goOn_18 rfl ?_
    refine g_icmp_lt (tgt := 42) C dX2_goOn_20 (by decide) rfl (fun c5 => ?_) (fun c5 => ?_)
    · replace hf := ift c5 hf
      refine g_lload C (q := 0) rfl dX2_goOn_42 rfl ?_
      refine g_lconst (v := 0) C (by decide) dX2_goOn_44 rfl ?_
      refine g_lif_ne (tgt := 67) C dX2_goOn_45 rfl dX2_goOn_46 (by decide) rfl (fun c6 => ?_) (fun c6 => ?_)
      · replace hf := iff' c6 hf
        refine g_lload C (q := 0) rfl dX2_goOn_67 rfl ?_
        obtain ⟨q7, hq7, hf⟩ := bd hf
        refine g_callS0 (st' := []) (as := [.long (sur &&& (l2 ^^^ (-1 : Int64)))]) (st2 := [.int q7]) (k := 1) C ⟨wm_RX2_70, ws_X0_lowest, wi_RX0, wk_X0_lowest, by decide +kernel⟩ (c_X0_lowest (l := kL K) (E := kE K)  _ hq7) (by rw [hKR]; exact ⟨rfl, rfl, ⟨by dsimp only; omega, by dsimp only; omega⟩, Nat.le_refl _, Nat.le_refl _⟩) rfl rfl (by simp) rfl dX2_goOn_69 rfl ?_
        refine g_istore (i := 7) (lv' := [(7, .int q7), (5, .long (sur &&& (l2 ^^^ (-1 : Int64)))), (0, .ref (k + 32)), (1, .int l1), (2, .long l2), (4, .int l4)]) C dX2_goOn_72 rfl (by rw [hKN]; decide) rfl ?_
        refine g_iload C (q := 5) rfl dX2_goOn_74 rfl ?_
        refine g_istore (i := 8) (lv' := [(8, .int l4), (7, .int q7), (5, .long (sur &&& (l2 ^^^ (-1 : Int64)))), (0, .ref (k + 32)), (1, .int l1), (2, .long l2), (4, .int l4)]) C dX2_goOn_76 rfl (by rw [hKN]; decide) rfl ?_
        refine g_sub (lv' := [(0, .ref (k + 32)), (1, .int l1), (2, .long l2), (4, .int l4), (7, .int q7), (8, .int l4)]) [3, 4, 5, 6, 1, 0] rfl ?_
        obtain ⟨q20, hq20, hf⟩ := bd hf
        refine g_X2_goOn_78 (l1 := l1) (l2 := l2) (l4 := l4) (l7 := q7) (pss := pss) (pps := pps) (phv := phv) (poo := poo) (pcu := pcu) (pmm := pmm) (psk := psk) (ppk := ppk) (pkw := pkw) (psc := psc) (ppn := ppn) (asm := asm) (sur := sur) (bud := bud) (wan := wan) hrec C hKR hKN _ _ _ _ _ _ _ _ hq20 ?_
        obtain rfl := Option.some.inj hf
        exact g_vret C hKQ dX2_goOn_117
      · replace hf := ift c6 hf
        refine g_aload_n C rfl (q := 1) rfl dX2_goOn_49 rfl ?_
        refine g_iload C (q := 4) rfl dX2_goOn_50 rfl ?_
        obtain ⟨q21, hq21, hf⟩ := bd hf
        refine g_callN0 (st' := [.ref (k + 32)]) (as := [.int l4]) (st2 := [.int q21, .ref (k + 32)]) (k := 1) C (zN C).1 ⟨ws_X6_lowestPiece, wi_RX6, wk_X6_lowestPiece, by decide +kernel⟩ (c_X6_lowestPiece (l := kL K) (E := kE K)  _ hq21) (by rw [hKR]; exact ⟨rfl, rfl, ⟨by dsimp only; omega, by dsimp only; omega⟩, Nat.le_refl _, Nat.le_refl _⟩) rfl rfl (by simp [Value.category]) rfl dX2_goOn_52 rfl ?_
        refine g_bipush (v := 64) C (by decide) dX2_goOn_55 rfl ?_
        refine g_iload_n C rfl (q := 2) rfl dX2_goOn_57 rfl ?_
        refine g_lload_n C rfl (q := 3) rfl dX2_goOn_58 rfl ?_
        refine g_iload C (q := 4) rfl dX2_goOn_59 rfl ?_
        obtain ⟨q22, hq22, hf⟩ := bd hf
        refine g_callV0 (st' := []) (as := [.int q21, .int (64 : Int32), .int l1, .long l2, .int l4]) (st2 := []) (k := 5) C ⟨wm_RX2_66, wn_X2_tryPiece, wv_X2_tryPiece, wi_RX2, wk_X2_tryPiece, by decide +kernel⟩ rfl (wL_at 32 rfl) (c_X2_tryPiece (l := kL K) (E := kE K) hrec _ hq22) (by rw [hKR]; exact ⟨rfl, rfl, ⟨by dsimp only; omega, by dsimp only; omega⟩, Nat.le_refl _, Nat.le_refl _⟩) rfl rfl (by simp) rfl dX2_goOn_61 rfl ?_
        refine g_goto (pc' := 117) C dX2_goOn_64 (by decide) ?_
        obtain rfl := Option.some.inj hf
        exact g_vret C hKQ dX2_goOn_117
    · replace hf := iff' c5 hf
      refine g_iload C (q := 4) rfl dX2_goOn_23 rfl ?_
      refine g_if_ne (tgt := 117) C dX2_goOn_25 (by decide) rfl (fun c23 => ?_) (fun c23 => ?_)
      · replace hf := iff' c23 hf
        obtain rfl := Option.some.inj hf
        exact g_vret C hKQ dX2_goOn_117
      · replace hf := ift c23 hf
        refine g_lload C (q := 0) rfl dX2_goOn_28 rfl ?_
        refine g_lconst (v := 0) C (by decide) dX2_goOn_30 rfl ?_
        refine g_lif_ne (tgt := 117) C dX2_goOn_31 rfl dX2_goOn_32 (by decide) rfl (fun c24 => ?_) (fun c24 => ?_)
        · replace hf := iff' c24 hf
          obtain rfl := Option.some.inj hf
          exact g_vret C hKQ dX2_goOn_117
        · replace hf := ift c24 hf
          refine g_aload_n C rfl (q := 1) rfl dX2_goOn_35 rfl ?_
          obtain ⟨q25, hq25, hf⟩ := bd hf
          refine g_callV0 (st' := []) (as := []) (st2 := []) (k := 0) C ⟨wm_RX2_59, wn_X2_countPacking, wv_X2_countPacking, wi_RX2, wk_X2_countPacking, by decide +kernel⟩ rfl (wL_at 32 rfl) (c_X2_countPacking (l := kL K) (E := kE K)  _ hq25) (by rw [hKR]; exact ⟨rfl, rfl, ⟨by dsimp only; omega, by dsimp only; omega⟩, Nat.le_refl _, Nat.le_refl _⟩) rfl rfl (by simp) rfl dX2_goOn_36 rfl ?_
          refine g_goto (pc' := 117) C dX2_goOn_39 (by decide) ?_
          obtain rfl := Option.some.inj hf
          exact g_vret C hKQ dX2_goOn_117
/-- the search: at most d levels deep -/
def f_X2_goOn (fu : Nat) (pps : Nat → Nat → Int64) (phv : Nat → Nat → Int64) (ppn : Nat → Int32) (sur : Int64) (bud : Int32) (wan : Int32) : Nat → Int32 → Int32 → Int32 → Int32 → (Nat → Int64) → Int32 → Int64 → Int32 → Option (Int32 × Int32 × Int32 × Int32 × (Nat → Int64))
  | 0, _, _, _, _, _, _, _, _ => none
  | d + 1, tri, fou, en, eh, cho, l1, l2, l4 => f_X2_goOnB fu (f_X2_goOn fu pps phv ppn sur bud wan d) pps phv ppn sur bud wan tri fou en eh cho l1 l2 l4
theorem c_X2_goOn {l : Launch} {E : Ex} {pps : Nat → Nat → Int64} {phv : Nat → Nat → Int64} {ppn : Nat → Int32} {sur : Int64} {bud : Int32} {wan : Int32} {fu : Nat} : ∀ (d : Nat) {n : Nat} {σ : AH} {k : Nat} {pss : Nat → Nat → Int64} {poo : Nat → Nat → Int64} {pcu : Nat → Int64} {pmm : Nat → Int32} {psk : Nat → Int32} {ppk : Nat → Int32} {pkw : Nat → Int64} {psc : Nat → Int32} {asm : Nat → Int64} {tri : Int32} {fou : Int32} {en : Int32} {eh : Int32} {cho : Nat → Int64} {l1 : Int32} {l2 : Int64} {l4 : Int32} (res : Int32 × Int32 × Int32 × Int32 × (Nat → Int64)), f_X2_goOn fu pps phv ppn sur bud wan d tri fou en eh cho l1 l2 l4 = some res → Con l E yX2_goOn (.code yX2_goOn cX2_goOn 9 none :: TT) ({ frames := 5 * d, cells := 0, slots := 0, locals := 200 * d } : Room) 0 0 [.ref (k + 32), .int l1, .long l2, .int l4] (wSe σ k pss pps phv poo pcu pmm psk ppk pkw psc ppn asm sur bud wan tri fou en eh cho) n none (wSe σ k pss pps phv poo pcu pmm psk ppk pkw psc ppn asm sur bud wan res.1 res.2.1 res.2.2.1 res.2.2.2.1 res.2.2.2.2) n := by
  intro d
  induction d with
  | zero =>
    intro n σ k pss poo pcu pmm psk ppk pkw psc asm tri fou en eh cho l1 l2 l4 res hf
    exact absurd hf (by simp [f_X2_goOn])
  | succ d ih =>
    intro n σ k pss poo pcu pmm psk ppk pkw psc asm tri fou en eh cho l1 l2 l4 res hf
    rw [f_X2_goOn] at hf
    exact c_X2_goOnB (fG := 5 * d) (LG := 200 * d) ih res hf
