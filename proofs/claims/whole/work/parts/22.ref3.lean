def f_X7_begins_10  (l1 : Int32) (tgt : Nat → Int32) (tak : Nat → Int64) : Nat → Int32 → (Nat → Int32) → Option (Nat → Int32)
  | 0, _, _ => none
  | fu + 1, l3, cel => (if l3 < 0 then some cel else (if inB l3 64 = true then (if (tgt l3.toNatClampNeg) = (1 : Int32) then (if inB l1 7 = true then ((f_X7_has (tak l1.toNatClampNeg) l3).bind fun q20 => (if q20 = 0 then (if inB l1 7 = true then f_X7_begins_10 l1 tgt tak fu (l3 + (-1 : Int32)) (va_up cel l1.toNatClampNeg l3) else none) else f_X7_begins_10 l1 tgt tak fu (l3 + (-1 : Int32)) cel)) else none) else f_X7_begins_10 l1 tgt tak fu (l3 + (-1 : Int32)) cel) else none))
def f_X7_begins_52  (l1 : Int32) (l2 : Int32) (pld : Nat → Int32) : Nat → Int32 → Option Int32
  | 0, _ => none
  | fu + 1, l3 => (if (6 : Int32) ≤ l3 then some l3 else (if inB l1 7 = true then (if (((l2 >>> (l3 &&& 31)) &&& (1 : Int32)) &&& (((pld l1.toNatClampNeg) >>> (l3 &&& 31)) ^^^ (-1 : Int32))) = 0 then f_X7_begins_52 l1 l2 pld fu (l3 + (1 : Int32)) else some l3) else none))
def f_X7_begins (fu : Nat) (tgt : Nat → Int32) (tak : Nat → Int64) (pld : Nat → Int32) (cel : Nat → Int32) (pie : Nat → Int32) (nxt : Nat → Int32) (d : Int32) (made : Int32) : Option ((Nat → Int32) × (Nat → Int32) × (Nat → Int32)) := (if inB d 7 = true then ((f_X7_begins_10 d tgt tak fu (63 : Int32) (va_up cel d.toNatClampNeg (-1 : Int32))).bind fun q23 => ((f_X7_begins_52 d made pld fu (0 : Int32)).bind fun q33 => (if inB d 7 = true then (if inB d 7 = true then some (q23, va_up pie d.toNatClampNeg q33, va_up nxt d.toNatClampNeg (0 : Int32)) else none) else none))) else none)
set_option maxHeartbeats 2000000 in
set_option maxRecDepth 20000 in
theorem g_X7_begins_10 {K : KX} {n : Nat} {σ : AH} {a : Nat}  {l1 : Int32} {l2 : Int32} {th : Int32} {set : Nat → Int64} {mir : Nat → Int32} {tgt : Nat → Int32} {shs : Nat → Int32} {shp : Nat → Int64} {pls : Nat → Int32} {pl : Nat → Int64} {tri : Int32} {asm : Nat → Int64} {tak : Nat → Int64} {pld : Nat → Int32} {pie : Nat → Int32} {nxt : Nat → Int32} {cho : Nat → Int64} {cbs : Nat → Int32} {cub : Nat → Int32} {sts : Int32} {stt : Nat → Int32} {frm : Nat → Int32} {by' : Nat → Int32} {wrk : Nat → Int32} {oth : Nat → Int32} {mvs : Int32} {mov : Nat → Int32} (C : Cx K RX7 "begins" cX7_begins none) (hKR : kR K = ({ frames := 1, cells := 0, slots := 0, locals := 22 } : Room)) (hKN : kN K = 4) : ∀ (fu : Nat) (l3 : Int32) (cel : Nat → Int32) (res : (Nat → Int32)), f_X7_begins_10 l1 tgt tak fu l3 cel = some res → G K 0 0 50 [(0, .ref a), (1, .int l1), (2, .int l2)] [] (wMd σ a th set mir tgt shs shp pls pl tri asm tak pld res pie nxt cho cbs cub sts stt frm by' wrk oth mvs mov) n → G K 0 0 10 [(0, .ref a), (1, .int l1), (2, .int l2), (3, .int l3)] [] (wMd σ a th set mir tgt shs shp pls pl tri asm tak pld cel pie nxt cho cbs cub sts stt frm by' wrk oth mvs mov) n := by
  intro fu
  induction fu with
  | zero =>
    intro l3 cel res hf
    exact absurd hf (by simp [f_X7_begins_10])
  | succ fu ih =>
    intro l3 cel res hf hx
    rw [f_X7_begins_10] at hf
    refine g_iload_n C rfl (q := 3) rfl dX7_begins_10 rfl ?_
    refine g_if_lt (tgt := 50) C dX7_begins_11 (by decide) rfl (fun c16 => ?_) (fun c16 => ?_)
    · replace hf := ift c16 hf
      obtain rfl := Option.some.inj hf
      refine g_sub (lv' := [(0, .ref a), (1, .int l1), (2, .int l2)]) [0, 1, 2] rfl ?_
      exact hx
    · replace hf := iff' c16 hf
      refine g_aload_n C rfl (q := 0) rfl dX7_begins_14 rfl ?_
      refine g_get C fc_X7 3 (by decide) wf_RX7_17 (wL_at0 rfl) rfl dX7_begins_15 rfl ?_
      refine g_iload_n C rfl (q := 3) rfl dX7_begins_18 rfl ?_
      obtain ⟨g17, hf⟩ := gd hf
      refine g_iald C (wL_at 3 rfl) (inB_in g17) dX7_begins_19 rfl ?_
      refine g_iconst (v := 1) C (by decide) dX7_begins_20 rfl ?_
      refine g_icmp_ne (tgt := 44) C dX7_begins_21 (by decide) rfl (fun c18 => ?_) (fun c18 => ?_)
      · replace hf := iff' c18 hf
        refine g_iinc (v := l3 + (-1 : Int32)) (lv' := [(3, .int (l3 + (-1 : Int32))), (0, .ref a), (1, .int l1), (2, .int l2)]) (q := 3) C dX7_begins_44 rfl rfl rfl (by rw [hKN]; decide) rfl ?_
        refine g_goto (pc' := 10) C dX7_begins_47 (by decide) ?_
        refine g_sub (lv' := [(0, .ref a), (1, .int l1), (2, .int l2), (3, .int (l3 + (-1 : Int32)))]) [1, 2, 3, 0] rfl ?_
        exact ih _ _ _ hf hx
      · replace hf := ift c18 hf
        refine g_aload_n C rfl (q := 0) rfl dX7_begins_24 rfl ?_
        refine g_get C fc_X7 10 (by decide) wf_RX7_36 (wL_at0 rfl) rfl dX7_begins_25 rfl ?_
        refine g_iload_n C rfl (q := 1) rfl dX7_begins_28 rfl ?_
        obtain ⟨g19, hf⟩ := gd hf
        refine g_lald C (wL_at 9 rfl) (inB_in g19) dX7_begins_29 rfl ?_
        refine g_iload_n C rfl (q := 3) rfl dX7_begins_30 rfl ?_
        obtain ⟨q20, hq20, hf⟩ := bd hf
        refine g_callS0 (st' := []) (as := [.long (tak l1.toNatClampNeg), .int l3]) (st2 := [.int q20]) (k := 2) C ⟨wm_RX7_82, ws_X7_has, wi_RX7, wk_X7_has, by decide +kernel⟩ (c_X7_has (l := kL K) (E := kE K)  _ hq20) (by rw [hKR]; exact ⟨rfl, rfl, ⟨by decide, by decide⟩, Nat.le_refl _, Nat.le_refl _⟩) rfl rfl (by simp) rfl dX7_begins_31 rfl ?_
        refine g_if_ne (tgt := 44) C dX7_begins_34 (by decide) rfl (fun c21 => ?_) (fun c21 => ?_)
        · replace hf := iff' c21 hf
          refine g_iinc (v := l3 + (-1 : Int32)) (lv' := [(3, .int (l3 + (-1 : Int32))), (0, .ref a), (1, .int l1), (2, .int l2)]) (q := 3) C dX7_begins_44 rfl rfl rfl (by rw [hKN]; decide) rfl ?_
          refine g_goto (pc' := 10) C dX7_begins_47 (by decide) ?_
          refine g_sub (lv' := [(0, .ref a), (1, .int l1), (2, .int l2), (3, .int (l3 + (-1 : Int32)))]) [1, 2, 3, 0] rfl ?_
          exact ih _ _ _ hf hx
        · replace hf := ift c21 hf
          refine g_aload_n C rfl (q := 0) rfl dX7_begins_37 rfl ?_
          refine g_get C fc_X7 12 (by decide) wf_RX7_42 (wL_at0 rfl) rfl dX7_begins_38 rfl ?_
          refine g_iload_n C rfl (q := 1) rfl dX7_begins_41 rfl ?_
          refine g_iload_n C rfl (q := 3) rfl dX7_begins_42 rfl ?_
          obtain ⟨g22, hf⟩ := gd hf
          refine g_iast (h' := (wMd σ a th set mir tgt shs shp pls pl tri asm tak pld (va_up cel l1.toNatClampNeg l3) pie nxt cho cbs cub sts stt frm by' wrk oth mvs mov)) C (wL_at 11 rfl) (inB_in g22) (wL_up 11 (Nat.le_of_ble_eq_true rfl) rfl) dX7_begins_43 rfl ?_
          refine g_iinc (v := l3 + (-1 : Int32)) (lv' := [(3, .int (l3 + (-1 : Int32))), (0, .ref a), (1, .int l1), (2, .int l2)]) (q := 3) C dX7_begins_44 rfl rfl rfl (by rw [hKN]; decide) rfl ?_
          refine g_goto (pc' := 10) C dX7_begins_47 (by decide) ?_
          refine g_sub (lv' := [(0, .ref a), (1, .int l1), (2, .int l2), (3, .int (l3 + (-1 : Int32)))]) [1, 2, 3, 0] rfl ?_
          exact ih _ _ _ hf hx
set_option maxHeartbeats 2000000 in
set_option maxRecDepth 20000 in
theorem g_X7_begins_52 {K : KX} {n : Nat} {σ : AH} {a : Nat}  {l1 : Int32} {l2 : Int32} {th : Int32} {set : Nat → Int64} {mir : Nat → Int32} {tgt : Nat → Int32} {shs : Nat → Int32} {shp : Nat → Int64} {pls : Nat → Int32} {pl : Nat → Int64} {tri : Int32} {asm : Nat → Int64} {tak : Nat → Int64} {pld : Nat → Int32} {cel : Nat → Int32} {pie : Nat → Int32} {nxt : Nat → Int32} {cho : Nat → Int64} {cbs : Nat → Int32} {cub : Nat → Int32} {sts : Int32} {stt : Nat → Int32} {frm : Nat → Int32} {by' : Nat → Int32} {wrk : Nat → Int32} {oth : Nat → Int32} {mvs : Int32} {mov : Nat → Int32} (C : Cx K RX7 "begins" cX7_begins none) (hKR : kR K = ({ frames := 1, cells := 0, slots := 0, locals := 22 } : Room)) (hKN : kN K = 4) : ∀ (fu : Nat) (l3 : Int32) (res : Int32), f_X7_begins_52 l1 l2 pld fu l3 = some res → G K 0 0 83 [(0, .ref a), (1, .int l1), (3, .int res)] [] (wMd σ a th set mir tgt shs shp pls pl tri asm tak pld cel pie nxt cho cbs cub sts stt frm by' wrk oth mvs mov) n → G K 0 0 52 [(0, .ref a), (1, .int l1), (2, .int l2), (3, .int l3)] [] (wMd σ a th set mir tgt shs shp pls pl tri asm tak pld cel pie nxt cho cbs cub sts stt frm by' wrk oth mvs mov) n := by
  intro fu
  induction fu with
  | zero =>
    intro l3 res hf
    exact absurd hf (by simp [f_X7_begins_52])
  | succ fu ih =>
    intro l3 res hf hx
    rw [f_X7_begins_52] at hf
    refine g_iload_n C rfl (q := 3) rfl dX7_begins_52 rfl ?_
    refine g_bipush (v := 6) C (by decide) dX7_begins_53 rfl ?_
    refine g_icmp_ge (tgt := 83) C dX7_begins_55 (by decide) rfl (fun c30 => ?_) (fun c30 => ?_)
    · replace hf := ift c30 hf
      obtain rfl := Option.some.inj hf
      refine g_sub (lv' := [(0, .ref a), (1, .int l1), (3, .int l3)]) [0, 1, 3] rfl ?_
      exact hx
    · replace hf := iff' c30 hf
      refine g_iload_n C rfl (q := 2) rfl dX7_begins_58 rfl ?_
      refine g_iload_n C rfl (q := 3) rfl dX7_begins_59 rfl ?_
      refine g_ishr C dX7_begins_60 rfl ?_
      refine g_iconst (v := 1) C (by decide) dX7_begins_61 rfl ?_
      refine g_iand C dX7_begins_62 rfl ?_
      refine g_aload_n C rfl (q := 0) rfl dX7_begins_63 rfl ?_
      refine g_get C fc_X7 11 (by decide) wf_RX7_39 (wL_at0 rfl) rfl dX7_begins_64 rfl ?_
      refine g_iload_n C rfl (q := 1) rfl dX7_begins_67 rfl ?_
      obtain ⟨g31, hf⟩ := gd hf
      refine g_iald C (wL_at 10 rfl) (inB_in g31) dX7_begins_68 rfl ?_
      refine g_iload_n C rfl (q := 3) rfl dX7_begins_69 rfl ?_
      refine g_ishr C dX7_begins_70 rfl ?_
      refine g_iconst (v := (-1)) C (by decide) dX7_begins_71 rfl ?_
      refine g_ixor C dX7_begins_72 rfl ?_
      refine g_iand C dX7_begins_73 rfl ?_
      refine g_if_ne (tgt := 83) C dX7_begins_74 (by decide) rfl (fun c32 => ?_) (fun c32 => ?_)
      · replace hf := iff' c32 hf
        obtain rfl := Option.some.inj hf
        refine g_sub (lv' := [(0, .ref a), (1, .int l1), (3, .int l3)]) [0, 1, 3] rfl ?_
        exact hx
      · replace hf := ift c32 hf
        refine g_iinc (v := l3 + (1 : Int32)) (lv' := [(3, .int (l3 + (1 : Int32))), (0, .ref a), (1, .int l1), (2, .int l2)]) (q := 3) C dX7_begins_77 rfl rfl rfl (by rw [hKN]; decide) rfl ?_
        refine g_goto (pc' := 52) C dX7_begins_80 (by decide) ?_
        refine g_sub (lv' := [(0, .ref a), (1, .int l1), (2, .int l2), (3, .int (l3 + (1 : Int32)))]) [1, 2, 3, 0] rfl ?_
        exact ih _ _ hf hx
set_option maxHeartbeats 2000000 in
set_option maxRecDepth 20000 in
theorem c_X7_begins {l : Launch} {E : Ex} {n : Nat} {σ : AH} {a : Nat}  {th : Int32} {set : Nat → Int64} {mir : Nat → Int32} {tgt : Nat → Int32} {shs : Nat → Int32} {shp : Nat → Int64} {pls : Nat → Int32} {pl : Nat → Int64} {tri : Int32} {asm : Nat → Int64} {tak : Nat → Int64} {pld : Nat → Int32} {cel : Nat → Int32} {pie : Nat → Int32} {nxt : Nat → Int32} {cho : Nat → Int64} {cbs : Nat → Int32} {cub : Nat → Int32} {sts : Int32} {stt : Nat → Int32} {frm : Nat → Int32} {by' : Nat → Int32} {wrk : Nat → Int32} {oth : Nat → Int32} {mvs : Int32} {mov : Nat → Int32} {d : Int32} {made : Int32} {fu : Nat} (res : ((Nat → Int32) × (Nat → Int32) × (Nat → Int32))) (hf : f_X7_begins fu tgt tak pld cel pie nxt d made = some res) : Con l E yX7_begins (.code yX7_begins cX7_begins 4 none :: TT) ({ frames := 1, cells := 0, slots := 0, locals := 22 } : Room) 0 0 [.ref a, .int d, .int made] (wMd σ a th set mir tgt shs shp pls pl tri asm tak pld cel pie nxt cho cbs cub sts stt frm by' wrk oth mvs mov) n none (wMd σ a th set mir tgt shs shp pls pl tri asm tak pld res.1 res.2.1 res.2.2 cho cbs cub sts stt frm by' wrk oth mvs mov) n := by
  refine con_intro (by decide +kernel) (Nat.le_of_ble_eq_true rfl) ?_
  intro K C hKR hKL hKE hKN hKQ
  subst hKL
  subst hKE
  have C : Cx K RX7 "begins" cX7_begins none := C
  show G K 0 0 0 [(0, .ref a), (1, .int d), (2, .int made)] [] (wMd σ a th set mir tgt shs shp pls pl tri asm tak pld cel pie nxt cho cbs cub sts stt frm by' wrk oth mvs mov) n
  unfold f_X7_begins at hf
  refine g_aload_n C rfl (q := 0) rfl dX7_begins_0 rfl ?_
  refine g_get C fc_X7 12 (by decide) wf_RX7_42 (wL_at0 rfl) rfl dX7_begins_1 rfl ?_
  refine g_iload_n C rfl (q := 1) rfl dX7_begins_4 rfl ?_
  refine g_iconst (v := (-1)) C (by decide) dX7_begins_5 rfl ?_
  obtain ⟨g1, hf⟩ := gd hf
  refine g_iast (h' := (wMd σ a th set mir tgt shs shp pls pl tri asm tak pld (va_up cel d.toNatClampNeg (-1 : Int32)) pie nxt cho cbs cub sts stt frm by' wrk oth mvs mov)) C (wL_at 11 rfl) (inB_in g1) (wL_up 11 (Nat.le_of_ble_eq_true rfl) rfl) dX7_begins_6 rfl ?_
  refine g_bipush (v := 63) C (by decide) dX7_begins_7 rfl ?_
  refine g_istore_n (i := 3) (lv' := [(3, .int (63 : Int32)), (0, .ref a), (1, .int d), (2, .int made)]) C dX7_begins_9 rfl rfl (by rw [hKN]; decide) rfl ?_
  refine g_sub (lv' := [(0, .ref a), (1, .int d), (2, .int made), (3, .int (63 : Int32))]) [1, 2, 3, 0] rfl ?_
  obtain ⟨q23, hq23, hf⟩ := bd hf
  refine g_X7_begins_10 (l1 := d) (l2 := made) (th := th) (set := set) (mir := mir) (tgt := tgt) (shs := shs) (shp := shp) (pls := pls) (pl := pl) (tri := tri) (asm := asm) (tak := tak) (pld := pld) (pie := pie) (nxt := nxt) (cho := cho) (cbs := cbs) (cub := cub) (sts := sts) (stt := stt) (frm := frm) (by' := by') (wrk := wrk) (oth := oth) (mvs := mvs) (mov := mov) C hKR hKN _ _ _ _ hq23 ?_
  refine g_iconst (v := 0) C (by decide) dX7_begins_50 rfl ?_
  refine g_istore_n (i := 3) (lv' := [(3, .int (0 : Int32)), (0, .ref a), (1, .int d), (2, .int made)]) C dX7_begins_51 rfl rfl (by rw [hKN]; decide) rfl ?_
  refine g_sub (lv' := [(0, .ref a), (1, .int d), (2, .int made), (3, .int (0 : Int32))]) [1, 2, 3, 0] rfl ?_
  obtain ⟨q33, hq33, hf⟩ := bd hf
  refine g_X7_begins_52 (l1 := d) (l2 := made) (th := th) (set := set) (mir := mir) (tgt := tgt) (shs := shs) (shp := shp) (pls := pls) (pl := pl) (tri := tri) (asm := asm) (tak := tak) (pld := pld) (cel := q23) (pie := pie) (nxt := nxt) (cho := cho) (cbs := cbs) (cub := cub) (sts := sts) (stt := stt) (frm := frm) (by' := by') (wrk := wrk) (oth := oth) (mvs := mvs) (mov := mov) C hKR hKN _ _ _ hq33 ?_
  refine g_aload_n C rfl (q := 0) rfl dX7_begins_83 rfl ?_
  refine g_get C fc_X7 13 (by decide) wf_RX7_45 (wL_at0 rfl) rfl dX7_begins_84 rfl ?_
  refine g_iload_n C rfl (q := 1) rfl dX7_begins_87 rfl ?_
  refine g_iload_n C rfl (q := 2) rfl dX7_begins_88 rfl ?_
  obtain ⟨g34, hf⟩ := gd hf
  refine g_iast (h' := (wMd σ a th set mir tgt shs shp pls pl tri asm tak pld q23 (va_up pie d.toNatClampNeg q33) nxt cho cbs cub sts stt frm by' wrk oth mvs mov)) C (wL_at 12 rfl) (inB_in g34) (wL_up 12 (Nat.le_of_ble_eq_true rfl) rfl) dX7_begins_89 rfl ?_
  refine g_aload_n C rfl (q := 0) rfl dX7_begins_90 rfl ?_
  refine g_get C fc_X7 14 (by decide) wf_RX7_48 (wL_at0 rfl) rfl dX7_begins_91 rfl ?_
  refine g_iload_n C rfl (q := 1) rfl dX7_begins_94 rfl ?_
  refine g_iconst (v := 0) C (by decide) dX7_begins_95 rfl ?_
  obtain ⟨g35, hf⟩ := gd hf
  refine g_iast (h' := (wMd σ a th set mir tgt shs shp pls pl tri asm tak pld q23 (va_up pie d.toNatClampNeg q33) (va_up nxt d.toNatClampNeg (0 : Int32)) cho cbs cub sts stt frm by' wrk oth mvs mov)) C (wL_at 13 rfl) (inB_in g35) (wL_up 13 (Nat.le_of_ble_eq_true rfl) rfl) dX7_begins_96 rfl ?_
  obtain rfl := Option.some.inj hf
  exact g_vret C hKQ dX7_begins_97
def f_X7_search_5  (set : Nat → Int64) (mir : Nat → Int32) (tgt : Nat → Int32) : Nat → Int32 → Int32 → (Nat → Int32) → (Nat → Int64) → (Nat → Int32) → (Nat → Int64) → Option (Int32 × (Nat → Int32) × (Nat → Int64) × (Nat → Int32) × (Nat → Int64))
  | 0, _, _, _, _, _, _ => none
  | fu + 1, l3, l4, shs, shp, pls, pl => (if (6 : Int32) ≤ l4 then some (l3, shs, shp, pls, pl) else ((f_X7_placesOf fu set mir tgt shs shp pls pl l4).bind fun q10 => (if inB l4 6 = true then (if (q10.1 l4.toNatClampNeg) ≤ 0 then f_X7_search_5 set mir tgt fu l3 (l4 + (1 : Int32)) q10.1 q10.2.1 q10.2.2.1 q10.2.2.2 else f_X7_search_5 set mir tgt fu (l3 ||| ((1 : Int32) <<< (l4 &&& 31))) (l4 + (1 : Int32)) q10.1 q10.2.1 q10.2.2.1 q10.2.2.2) else none)))
def f_X7_search_184  (l3 : Int32) (l5 : Int32) (pld : Nat → Int32) : Nat → Int32 → Option Int32
  | 0, _ => none
  | fu + 1, l9 => (if (6 : Int32) ≤ l9 then some l9 else (if inB l5 7 = true then (if (((l3 >>> (l9 &&& 31)) &&& (1 : Int32)) &&& (((pld l5.toNatClampNeg) >>> (l9 &&& 31)) ^^^ (-1 : Int32))) = 0 then f_X7_search_184 l3 l5 pld fu (l9 + (1 : Int32)) else some l9) else none))
def f_X7_search_130  (l3 : Int32) (l5 : Int32) (l6 : Int32) (pls : Nat → Int32) (pl : Nat → Int64) (pld : Nat → Int32) (cel : Nat → Int32) : Nat → Int32 → (Nat → Int32) → (Nat → Int32) → (Nat → Int64) → Option (Int32 × (Nat → Int32) × (Nat → Int32) × (Nat → Int64))
  | 0, _, _, _, _ => none
  | fu + 1, l7, pie, nxt, cho => (if l6 = 0 then (if inB l5 7 = true then (if (6 : Int32) ≤ (pie l5.toNatClampNeg) then some (l7, pie, nxt, cho) else (if l7 = 0 then (if inB l5 7 = true then (if inB l5 7 = true then (if inB (pie l5.toNatClampNeg) 6 = true then (if (nxt l5.toNatClampNeg) = (pls (pie l5.toNatClampNeg).toNatClampNeg) then ((f_X7_search_184 l3 l5 pld fu ((pie l5.toNatClampNeg) + (1 : Int32))).bind fun q423 => (if inB l5 7 = true then (if inB l5 7 = true then (if inB l5 7 = true then f_X7_search_130 l3 l5 l6 pls pl pld cel fu l7 (va_up pie l5.toNatClampNeg (if 0 ≤ (cel l5.toNatClampNeg) then q423 else (6 : Int32))) (va_up nxt l5.toNatClampNeg (0 : Int32)) cho else none) else none) else none)) else (if inB l5 7 = true then (if inB (((pie l5.toNatClampNeg) * (1400 : Int32)) + (nxt l5.toNatClampNeg)) 8400 = true then (if inB l5 7 = true then (if inB l5 7 = true then (if inB l5 7 = true then (if inB l5 7 = true then (if (cel l5.toNatClampNeg) < 0 then f_X7_search_130 l3 l5 l6 pls pl pld cel fu (1 : Int32) pie (va_up nxt l5.toNatClampNeg ((nxt l5.toNatClampNeg) + (1 : Int32))) (va_up cho l5.toNatClampNeg (pl (((pie l5.toNatClampNeg) * (1400 : Int32)) + (nxt l5.toNatClampNeg)).toNatClampNeg)) else (if inB l5 7 = true then (if inB l5 7 = true then ((f_X7_has ((va_up cho l5.toNatClampNeg (pl (((pie l5.toNatClampNeg) * (1400 : Int32)) + (nxt l5.toNatClampNeg)).toNatClampNeg)) l5.toNatClampNeg) (cel l5.toNatClampNeg)).bind fun q411 => f_X7_search_130 l3 l5 l6 pls pl pld cel fu (if q411 = 0 then (0 : Int32) else (1 : Int32)) pie (va_up nxt l5.toNatClampNeg ((nxt l5.toNatClampNeg) + (1 : Int32))) (va_up cho l5.toNatClampNeg (pl (((pie l5.toNatClampNeg) * (1400 : Int32)) + (nxt l5.toNatClampNeg)).toNatClampNeg))) else none) else none)) else none) else none) else none) else none) else none) else none)) else none) else none) else none) else some (l7, pie, nxt, cho))) else none) else some (l7, pie, nxt, cho))
def f_X7_search_72  (l1 : Int32) (l2 : Int32) (l3 : Int32) (tgt : Nat → Int32) (shs : Nat → Int32) (shp : Nat → Int64) (pls : Nat → Int32) (pl : Nat → Int64) : Nat → Int32 → Int32 → Int32 → (Nat → Int64) → (Nat → Int32) → (Nat → Int32) → (Nat → Int32) → (Nat → Int32) → (Nat → Int64) → Option ((Int32 × (Nat → Int32) × (Nat → Int64) × (Nat → Int32) × (Nat → Int64) × Int32 × (Nat → Int64) × (Nat → Int32) × (Nat → Int32) × (Nat → Int32) × (Nat → Int32) × (Nat → Int64)) ⊕ (Int32 × Int32 × (Nat → Int64) × (Nat → Int32) × (Nat → Int32) × (Nat → Int32) × (Nat → Int32) × (Nat → Int64)))
  | 0, _, _, _, _, _, _, _, _, _ => none
  | fu + 1, l4, l5, tri, tak, pld, cel, pie, nxt, cho => (if l5 < 0 then some (.inr (l4, tri, tak, pld, cel, pie, nxt, cho)) else (if inB l5 7 = true then (if (if (pld l5.toNatClampNeg) = l3 then (1 : Int32) else (0 : Int32)) = 0 then ((f_X7_search_130 l3 l5 (if (pld l5.toNatClampNeg) = l3 then (1 : Int32) else (0 : Int32)) pls pl pld cel fu (0 : Int32) pie nxt cho).bind fun q429 => (if q429.1 = 0 then f_X7_search_72 l1 l2 l3 tgt shs shp pls pl fu l4 (l5 + (-1 : Int32)) tri tak pld cel q429.2.1 q429.2.2.1 q429.2.2.2 else (if tri = l1 then some (.inl (l4, shs, shp, pls, pl, tri + (1 : Int32), tak, pld, cel, q429.2.1, q429.2.2.1, q429.2.2.2)) else (if inB l5 7 = true then (if inB l5 7 = true then (if ((q429.2.2.2 l5.toNatClampNeg) &&& (tak l5.toNatClampNeg)) = (0 : Int64) then (if inB l5 7 = true then (if inB l5 7 = true then (if inB (l5 + (1 : Int32)) 7 = true then (if inB l5 7 = true then (if inB l5 7 = true then (if inB (l5 + (1 : Int32)) 7 = true then ((f_X7_begins fu tgt (va_up tak (l5 + (1 : Int32)).toNatClampNeg ((tak l5.toNatClampNeg) ||| (q429.2.2.2 l5.toNatClampNeg))) (va_up pld (l5 + (1 : Int32)).toNatClampNeg ((pld l5.toNatClampNeg) ||| ((1 : Int32) <<< ((q429.2.1 l5.toNatClampNeg) &&& 31)))) cel q429.2.1 q429.2.2.1 (l5 + (1 : Int32)) l3).bind fun q441 => f_X7_search_72 l1 l2 l3 tgt shs shp pls pl fu l4 (l5 + (1 : Int32)) (tri + (1 : Int32)) (va_up tak (l5 + (1 : Int32)).toNatClampNeg ((tak l5.toNatClampNeg) ||| (q429.2.2.2 l5.toNatClampNeg))) (va_up pld (l5 + (1 : Int32)).toNatClampNeg ((pld l5.toNatClampNeg) ||| ((1 : Int32) <<< ((q429.2.1 l5.toNatClampNeg) &&& 31)))) q441.1 q441.2.1 q441.2.2 q429.2.2.2) else none) else none) else none) else none) else none) else none) else f_X7_search_72 l1 l2 l3 tgt shs shp pls pl fu l4 l5 (tri + (1 : Int32)) tak pld cel q429.2.1 q429.2.2.1 q429.2.2.2) else none) else none)))) else (if inB l5 7 = true then (if 0 ≤ (cel l5.toNatClampNeg) then ((f_X7_search_130 l3 l5 (if (pld l5.toNatClampNeg) = l3 then (1 : Int32) else (0 : Int32)) pls pl pld cel fu (0 : Int32) pie nxt cho).bind fun q444 => (if q444.1 = 0 then f_X7_search_72 l1 l2 l3 tgt shs shp pls pl fu l4 (l5 + (-1 : Int32)) tri tak pld cel q444.2.1 q444.2.2.1 q444.2.2.2 else (if tri = l1 then some (.inl (l4, shs, shp, pls, pl, tri + (1 : Int32), tak, pld, cel, q444.2.1, q444.2.2.1, q444.2.2.2)) else (if inB l5 7 = true then (if inB l5 7 = true then (if ((q444.2.2.2 l5.toNatClampNeg) &&& (tak l5.toNatClampNeg)) = (0 : Int64) then (if inB l5 7 = true then (if inB l5 7 = true then (if inB (l5 + (1 : Int32)) 7 = true then (if inB l5 7 = true then (if inB l5 7 = true then (if inB (l5 + (1 : Int32)) 7 = true then ((f_X7_begins fu tgt (va_up tak (l5 + (1 : Int32)).toNatClampNeg ((tak l5.toNatClampNeg) ||| (q444.2.2.2 l5.toNatClampNeg))) (va_up pld (l5 + (1 : Int32)).toNatClampNeg ((pld l5.toNatClampNeg) ||| ((1 : Int32) <<< ((q444.2.1 l5.toNatClampNeg) &&& 31)))) cel q444.2.1 q444.2.2.1 (l5 + (1 : Int32)) l3).bind fun q456 => f_X7_search_72 l1 l2 l3 tgt shs shp pls pl fu l4 (l5 + (1 : Int32)) (tri + (1 : Int32)) (va_up tak (l5 + (1 : Int32)).toNatClampNeg ((tak l5.toNatClampNeg) ||| (q444.2.2.2 l5.toNatClampNeg))) (va_up pld (l5 + (1 : Int32)).toNatClampNeg ((pld l5.toNatClampNeg) ||| ((1 : Int32) <<< ((q444.2.1 l5.toNatClampNeg) &&& 31)))) q456.1 q456.2.1 q456.2.2 q444.2.2.2) else none) else none) else none) else none) else none) else none) else f_X7_search_72 l1 l2 l3 tgt shs shp pls pl fu l4 l5 (tri + (1 : Int32)) tak pld cel q444.2.1 q444.2.2.1 q444.2.2.2) else none) else none)))) else (if ((l4 + (1 : Int32)) - (1 : Int32)) = l2 then some (.inl (l5 + (1000000 : Int32), shs, shp, pls, pl, tri, tak, pld, cel, pie, nxt, cho)) else ((f_X7_search_130 l3 l5 (if (pld l5.toNatClampNeg) = l3 then (1 : Int32) else (0 : Int32)) pls pl pld cel fu (0 : Int32) pie nxt cho).bind fun q458 => (if q458.1 = 0 then f_X7_search_72 l1 l2 l3 tgt shs shp pls pl fu (l4 + (1 : Int32)) (l5 + (-1 : Int32)) tri tak pld cel q458.2.1 q458.2.2.1 q458.2.2.2 else (if tri = l1 then some (.inl (l4 + (1 : Int32), shs, shp, pls, pl, tri + (1 : Int32), tak, pld, cel, q458.2.1, q458.2.2.1, q458.2.2.2)) else (if inB l5 7 = true then (if inB l5 7 = true then (if ((q458.2.2.2 l5.toNatClampNeg) &&& (tak l5.toNatClampNeg)) = (0 : Int64) then (if inB l5 7 = true then (if inB l5 7 = true then (if inB (l5 + (1 : Int32)) 7 = true then (if inB l5 7 = true then (if inB l5 7 = true then (if inB (l5 + (1 : Int32)) 7 = true then ((f_X7_begins fu tgt (va_up tak (l5 + (1 : Int32)).toNatClampNeg ((tak l5.toNatClampNeg) ||| (q458.2.2.2 l5.toNatClampNeg))) (va_up pld (l5 + (1 : Int32)).toNatClampNeg ((pld l5.toNatClampNeg) ||| ((1 : Int32) <<< ((q458.2.1 l5.toNatClampNeg) &&& 31)))) cel q458.2.1 q458.2.2.1 (l5 + (1 : Int32)) l3).bind fun q470 => f_X7_search_72 l1 l2 l3 tgt shs shp pls pl fu (l4 + (1 : Int32)) (l5 + (1 : Int32)) (tri + (1 : Int32)) (va_up tak (l5 + (1 : Int32)).toNatClampNeg ((tak l5.toNatClampNeg) ||| (q458.2.2.2 l5.toNatClampNeg))) (va_up pld (l5 + (1 : Int32)).toNatClampNeg ((pld l5.toNatClampNeg) ||| ((1 : Int32) <<< ((q458.2.1 l5.toNatClampNeg) &&& 31)))) q470.1 q470.2.1 q470.2.2 q458.2.2.2) else none) else none) else none) else none) else none) else none) else f_X7_search_72 l1 l2 l3 tgt shs shp pls pl fu (l4 + (1 : Int32)) l5 (tri + (1 : Int32)) tak pld cel q458.2.1 q458.2.2.1 q458.2.2.2) else none) else none)))))) else none)) else none))
def f_X7_search (fu : Nat) (set : Nat → Int64) (mir : Nat → Int32) (tgt : Nat → Int32) (shs : Nat → Int32) (shp : Nat → Int64) (pls : Nat → Int32) (pl : Nat → Int64) (tak : Nat → Int64) (pld : Nat → Int32) (cel : Nat → Int32) (pie : Nat → Int32) (nxt : Nat → Int32) (cho : Nat → Int64) (budget : Int32) (upTo : Int32) : Option (Int32 × (Nat → Int32) × (Nat → Int64) × (Nat → Int32) × (Nat → Int64) × Int32 × (Nat → Int64) × (Nat → Int32) × (Nat → Int32) × (Nat → Int32) × (Nat → Int32) × (Nat → Int64)) := ((f_X7_search_5 set mir tgt fu (0 : Int32) (0 : Int32) shs shp pls pl).bind fun q13 => (if inB (0 : Int32) 7 = true then (if inB (0 : Int32) 7 = true then ((f_X7_begins fu tgt (va_up tak (0 : Int32).toNatClampNeg (0 : Int64)) (va_up pld (0 : Int32).toNatClampNeg (0 : Int32)) cel pie nxt (0 : Int32) q13.1).bind fun q16 => (sumB (f_X7_search_72 budget upTo q13.1 tgt q13.2.1 q13.2.2.1 q13.2.2.2.1 q13.2.2.2.2 fu (0 : Int32) (0 : Int32) (0 : Int32) (va_up tak (0 : Int32).toNatClampNeg (0 : Int64)) (va_up pld (0 : Int32).toNatClampNeg (0 : Int32)) q16.1 q16.2.1 q16.2.2 cho) id fun t474 => some (t474.1, q13.2.1, q13.2.2.1, q13.2.2.2.1, q13.2.2.2.2, t474.2.1, t474.2.2.1, t474.2.2.2.1, t474.2.2.2.2.1, t474.2.2.2.2.2.1, t474.2.2.2.2.2.2.1, t474.2.2.2.2.2.2.2))) else none) else none))
set_option maxHeartbeats 2000000 in
set_option maxRecDepth 20000 in
theorem g_X7_search_5 {K : KX} {n : Nat} {σ : AH} {a : Nat}  {l1 : Int32} {l2 : Int32} {th : Int32} {set : Nat → Int64} {mir : Nat → Int32} {tgt : Nat → Int32} {tri : Int32} {asm : Nat → Int64} {tak : Nat → Int64} {pld : Nat → Int32} {cel : Nat → Int32} {pie : Nat → Int32} {nxt : Nat → Int32} {cho : Nat → Int64} {cbs : Nat → Int32} {cub : Nat → Int32} {sts : Int32} {stt : Nat → Int32} {frm : Nat → Int32} {by' : Nat → Int32} {wrk : Nat → Int32} {oth : Nat → Int32} {mvs : Int32} {mov : Nat → Int32} (C : Cx K RX7 "search" cX7_search (some .int)) (hKR : kR K = ({ frames := 4, cells := 0, slots := 0, locals := 109 } : Room)) (hKN : kN K = 10) : ∀ (fu : Nat) (l3 : Int32) (l4 : Int32) (shs : Nat → Int32) (shp : Nat → Int64) (pls : Nat → Int32) (pl : Nat → Int64) (res : (Int32 × (Nat → Int32) × (Nat → Int64) × (Nat → Int32) × (Nat → Int64))), f_X7_search_5 set mir tgt fu l3 l4 shs shp pls pl = some res → G K 0 0 41 [(0, .ref a), (1, .int l1), (2, .int l2), (3, .int res.1)] [] (wMd σ a th set mir tgt res.2.1 res.2.2.1 res.2.2.2.1 res.2.2.2.2 tri asm tak pld cel pie nxt cho cbs cub sts stt frm by' wrk oth mvs mov) n → G K 0 0 5 [(0, .ref a), (1, .int l1), (2, .int l2), (3, .int l3), (4, .int l4)] [] (wMd σ a th set mir tgt shs shp pls pl tri asm tak pld cel pie nxt cho cbs cub sts stt frm by' wrk oth mvs mov) n := by
  intro fu
  induction fu with
  | zero =>
    intro l3 l4 shs shp pls pl res hf
    exact absurd hf (by simp [f_X7_search_5])
  | succ fu ih =>
    intro l3 l4 shs shp pls pl res hf hx
    rw [f_X7_search_5] at hf
    refine g_iload C (q := 4) rfl dX7_search_5 rfl ?_
    refine g_bipush (v := 6) C (by decide) dX7_search_7 rfl ?_
    refine g_icmp_ge (tgt := 41) C dX7_search_9 (by decide) rfl (fun c9 => ?_) (fun c9 => ?_)
    · replace hf := ift c9 hf
      obtain rfl := Option.some.inj hf
      refine g_sub (lv' := [(0, .ref a), (1, .int l1), (2, .int l2), (3, .int l3)]) [0, 1, 2, 3] rfl ?_
      exact hx
    · replace hf := iff' c9 hf
      refine g_aload_n C rfl (q := 0) rfl dX7_search_12 rfl ?_
      refine g_iload C (q := 4) rfl dX7_search_13 rfl ?_
      obtain ⟨q10, hq10, hf⟩ := bd hf
      refine g_callV0 (st' := []) (as := [.int l4]) (st2 := []) (k := 1) C ⟨wm_RX7_132, wn_X7_placesOf, wv_X7_placesOf, wi_RX7, wk_X7_placesOf, by decide +kernel⟩ rfl (wL_at0 rfl) (c_X7_placesOf (l := kL K) (E := kE K)  _ hq10) (by rw [hKR]; exact ⟨rfl, rfl, ⟨by decide, by decide⟩, Nat.le_refl _, Nat.le_refl _⟩) rfl rfl (by simp) rfl dX7_search_15 rfl ?_
      refine g_aload_n C rfl (q := 0) rfl dX7_search_18 rfl ?_
      refine g_get C fc_X7 4 (by decide) wf_RX7_21 (wL_at0 rfl) rfl dX7_search_19 rfl ?_
      refine g_iload C (q := 4) rfl dX7_search_22 rfl ?_
      obtain ⟨g11, hf⟩ := gd hf
      refine g_iald C (wL_at 4 rfl) (inB_in g11) dX7_search_24 rfl ?_
      refine g_if_le (tgt := 35) C dX7_search_25 (by decide) rfl (fun c12 => ?_) (fun c12 => ?_)
      · replace hf := ift c12 hf
        refine g_iinc (v := l4 + (1 : Int32)) (lv' := [(4, .int (l4 + (1 : Int32))), (0, .ref a), (1, .int l1), (2, .int l2), (3, .int l3)]) (q := 4) C dX7_search_35 rfl rfl rfl (by rw [hKN]; decide) rfl ?_
        refine g_goto (pc' := 5) C dX7_search_38 (by decide) ?_
        refine g_sub (lv' := [(0, .ref a), (1, .int l1), (2, .int l2), (3, .int l3), (4, .int (l4 + (1 : Int32)))]) [1, 2, 3, 4, 0] rfl ?_
        exact ih _ _ _ _ _ _ _ hf hx
      · replace hf := iff' c12 hf
        refine g_iload_n C rfl (q := 3) rfl dX7_search_28 rfl ?_
        refine g_iconst (v := 1) C (by decide) dX7_search_29 rfl ?_
        refine g_iload C (q := 4) rfl dX7_search_30 rfl ?_
        refine g_ishl C dX7_search_32 rfl ?_
        refine g_ior C dX7_search_33 rfl ?_
        refine g_istore_n (i := 3) (lv' := [(3, .int (l3 ||| ((1 : Int32) <<< (l4 &&& 31)))), (0, .ref a), (1, .int l1), (2, .int l2), (4, .int l4)]) C dX7_search_34 rfl rfl (by rw [hKN]; decide) rfl ?_
        refine g_iinc (v := l4 + (1 : Int32)) (lv' := [(4, .int (l4 + (1 : Int32))), (3, .int (l3 ||| ((1 : Int32) <<< (l4 &&& 31)))), (0, .ref a), (1, .int l1), (2, .int l2)]) (q := 4) C dX7_search_35 rfl rfl rfl (by rw [hKN]; decide) rfl ?_
        refine g_goto (pc' := 5) C dX7_search_38 (by decide) ?_
        refine g_sub (lv' := [(0, .ref a), (1, .int l1), (2, .int l2), (3, .int (l3 ||| ((1 : Int32) <<< (l4 &&& 31)))), (4, .int (l4 + (1 : Int32)))]) [2, 3, 4, 1, 0] rfl ?_
        exact ih _ _ _ _ _ _ _ hf hx
set_option maxHeartbeats 2000000 in
set_option maxRecDepth 20000 in
theorem g_X7_search_184 {K : KX} {n : Nat} {σ : AH} {a : Nat}  {l1 : Int32} {l2 : Int32} {l3 : Int32} {l4 : Int32} {l5 : Int32} {l6 : Int32} {l7 : Int32} {th : Int32} {set : Nat → Int64} {mir : Nat → Int32} {tgt : Nat → Int32} {shs : Nat → Int32} {shp : Nat → Int64} {pls : Nat → Int32} {pl : Nat → Int64} {tri : Int32} {asm : Nat → Int64} {tak : Nat → Int64} {pld : Nat → Int32} {cel : Nat → Int32} {pie : Nat → Int32} {nxt : Nat → Int32} {cho : Nat → Int64} {cbs : Nat → Int32} {cub : Nat → Int32} {sts : Int32} {stt : Nat → Int32} {frm : Nat → Int32} {by' : Nat → Int32} {wrk : Nat → Int32} {oth : Nat → Int32} {mvs : Int32} {mov : Nat → Int32} (C : Cx K RX7 "search" cX7_search (some .int)) (hKR : kR K = ({ frames := 4, cells := 0, slots := 0, locals := 109 } : Room)) (hKN : kN K = 10) : ∀ (fu : Nat) (l9 : Int32) (res : Int32), f_X7_search_184 l3 l5 pld fu l9 = some res → G K 0 0 219 [(0, .ref a), (1, .int l1), (2, .int l2), (3, .int l3), (4, .int l4), (5, .int l5), (6, .int l6), (7, .int l7), (9, .int res)] [] (wMd σ a th set mir tgt shs shp pls pl tri asm tak pld cel pie nxt cho cbs cub sts stt frm by' wrk oth mvs mov) n → G K 0 0 184 [(0, .ref a), (1, .int l1), (2, .int l2), (3, .int l3), (4, .int l4), (5, .int l5), (6, .int l6), (7, .int l7), (9, .int l9)] [] (wMd σ a th set mir tgt shs shp pls pl tri asm tak pld cel pie nxt cho cbs cub sts stt frm by' wrk oth mvs mov) n := by
  intro fu
  induction fu with
  | zero =>
    intro l9 res hf
    exact absurd hf (by simp [f_X7_search_184])
  | succ fu ih =>
    intro l9 res hf hx
    rw [f_X7_search_184] at hf
    refine g_iload C (q := 8) rfl dX7_search_184 rfl ?_
    refine g_bipush (v := 6) C (by decide) dX7_search_186 rfl ?_
    refine g_icmp_ge (tgt := 219) C dX7_search_188 (by decide) rfl (fun c420 => ?_) (fun c420 => ?_)
    · replace hf := ift c420 hf
      obtain rfl := Option.some.inj hf
      exact hx
    · replace hf := iff' c420 hf
      refine g_iload_n C rfl (q := 3) rfl dX7_search_191 rfl ?_
      refine g_iload C (q := 8) rfl dX7_search_192 rfl ?_
      refine g_ishr C dX7_search_194 rfl ?_
      refine g_iconst (v := 1) C (by decide) dX7_search_195 rfl ?_
      refine g_iand C dX7_search_196 rfl ?_
      refine g_aload_n C rfl (q := 0) rfl dX7_search_197 rfl ?_
      refine g_get C fc_X7 11 (by decide) wf_RX7_39 (wL_at0 rfl) rfl dX7_search_198 rfl ?_
      refine g_iload C (q := 5) rfl dX7_search_201 rfl ?_
      obtain ⟨g421, hf⟩ := gd hf
      refine g_iald C (wL_at 10 rfl) (inB_in g421) dX7_search_203 rfl ?_
      refine g_iload C (q := 8) rfl dX7_search_204 rfl ?_
      refine g_ishr C dX7_search_206 rfl ?_
      refine g_iconst (v := (-1)) C (by decide) dX7_search_207 rfl ?_
      refine g_ixor C dX7_search_208 rfl ?_
      refine g_iand C dX7_search_209 rfl ?_
      refine g_if_ne (tgt := 219) C dX7_search_210 (by decide) rfl (fun c422 => ?_) (fun c422 => ?_)
      · replace hf := iff' c422 hf
        obtain rfl := Option.some.inj hf
        exact hx
      · replace hf := ift c422 hf
        refine g_iinc (v := l9 + (1 : Int32)) (lv' := [(9, .int (l9 + (1 : Int32))), (0, .ref a), (1, .int l1), (2, .int l2), (3, .int l3), (4, .int l4), (5, .int l5), (6, .int l6), (7, .int l7)]) (q := 8) C dX7_search_213 rfl rfl rfl (by rw [hKN]; decide) rfl ?_
        refine g_goto (pc' := 184) C dX7_search_216 (by decide) ?_
        refine g_sub (lv' := [(0, .ref a), (1, .int l1), (2, .int l2), (3, .int l3), (4, .int l4), (5, .int l5), (6, .int l6), (7, .int l7), (9, .int (l9 + (1 : Int32)))]) [1, 2, 3, 4, 5, 6, 7, 8, 0] rfl ?_
        exact ih _ _ hf hx
set_option maxHeartbeats 2000000 in
set_option maxRecDepth 20000 in
theorem g_X7_search_130 {K : KX} {n : Nat} {σ : AH} {a : Nat}  {l1 : Int32} {l2 : Int32} {l3 : Int32} {l4 : Int32} {l5 : Int32} {l6 : Int32} {th : Int32} {set : Nat → Int64} {mir : Nat → Int32} {tgt : Nat → Int32} {shs : Nat → Int32} {shp : Nat → Int64} {pls : Nat → Int32} {pl : Nat → Int64} {tri : Int32} {asm : Nat → Int64} {tak : Nat → Int64} {pld : Nat → Int32} {cel : Nat → Int32} {cbs : Nat → Int32} {cub : Nat → Int32} {sts : Int32} {stt : Nat → Int32} {frm : Nat → Int32} {by' : Nat → Int32} {wrk : Nat → Int32} {oth : Nat → Int32} {mvs : Int32} {mov : Nat → Int32} (C : Cx K RX7 "search" cX7_search (some .int)) (hKR : kR K = ({ frames := 4, cells := 0, slots := 0, locals := 109 } : Room)) (hKN : kN K = 10) : ∀ (fu : Nat) (l7 : Int32) (pie : Nat → Int32) (nxt : Nat → Int32) (cho : Nat → Int64) (res : (Int32 × (Nat → Int32) × (Nat → Int32) × (Nat → Int64))), f_X7_search_130 l3 l5 l6 pls pl pld cel fu l7 pie nxt cho = some res → G K 0 0 331 [(0, .ref a), (1, .int l1), (2, .int l2), (3, .int l3), (4, .int l4), (5, .int l5), (7, .int res.1)] [] (wMd σ a th set mir tgt shs shp pls pl tri asm tak pld cel res.2.1 res.2.2.1 res.2.2.2 cbs cub sts stt frm by' wrk oth mvs mov) n → G K 0 0 130 [(0, .ref a), (1, .int l1), (2, .int l2), (3, .int l3), (4, .int l4), (5, .int l5), (6, .int l6), (7, .int l7)] [] (wMd σ a th set mir tgt shs shp pls pl tri asm tak pld cel pie nxt cho cbs cub sts stt frm by' wrk oth mvs mov) n := by
  intro fu
  induction fu with
  | zero =>
    intro l7 pie nxt cho res hf
    exact absurd hf (by simp [f_X7_search_130])
  | succ fu ih =>
    intro l7 pie nxt cho res hf hx
    rw [f_X7_search_130] at hf
    refine g_iload C (q := 6) rfl dX7_search_130 rfl ?_
    refine g_if_ne (tgt := 331) C dX7_search_132 (by decide) rfl (fun c394 => ?_) (fun c394 => ?_)
    · replace hf := iff' c394 hf
      obtain rfl := Option.some.inj hf
      refine g_sub (lv' := [(0, .ref a), (1, .int l1), (2, .int l2), (3, .int l3), (4, .int l4), (5, .int l5), (7, .int l7)]) [0, 1, 2, 3, 4, 5, 7] rfl ?_
      exact hx
    · replace hf := ift c394 hf
      refine g_aload_n C rfl (q := 0) rfl dX7_search_135 rfl ?_
      refine g_get C fc_X7 13 (by decide) wf_RX7_45 (wL_at0 rfl) rfl dX7_search_136 rfl ?_
      refine g_iload C (q := 5) rfl dX7_search_139 rfl ?_
      obtain ⟨g395, hf⟩ := gd hf
      refine g_iald C (wL_at 12 rfl) (inB_in g395) dX7_search_141 rfl ?_
      refine g_bipush (v := 6) C (by decide) dX7_search_142 rfl ?_
      refine g_icmp_ge (tgt := 331) C dX7_search_144 (by decide) rfl (fun c396 => ?_) (fun c396 => ?_)
      · replace hf := ift c396 hf
        obtain rfl := Option.some.inj hf
        refine g_sub (lv' := [(0, .ref a), (1, .int l1), (2, .int l2), (3, .int l3), (4, .int l4), (5, .int l5), (7, .int l7)]) [0, 1, 2, 3, 4, 5, 7] rfl ?_
        exact hx
      · replace hf := iff' c396 hf
        refine g_iload C (q := 7) rfl dX7_search_147 rfl ?_
        refine g_if_ne (tgt := 331) C dX7_search_149 (by decide) rfl (fun c397 => ?_) (fun c397 => ?_)
        · replace hf := iff' c397 hf
          obtain rfl := Option.some.inj hf
          refine g_sub (lv' := [(0, .ref a), (1, .int l1), (2, .int l2), (3, .int l3), (4, .int l4), (5, .int l5), (7, .int l7)]) [0, 1, 2, 3, 4, 5, 7] rfl ?_
          exact hx
        · replace hf := ift c397 hf
          refine g_aload_n C rfl (q := 0) rfl dX7_search_152 rfl ?_
          refine g_get C fc_X7 13 (by decide) wf_RX7_45 (wL_at0 rfl) rfl dX7_search_153 rfl ?_
          refine g_iload C (q := 5) rfl dX7_search_156 rfl ?_
          obtain ⟨g398, hf⟩ := gd hf
          refine g_iald C (wL_at 12 rfl) (inB_in g398) dX7_search_158 rfl ?_
          refine g_istore (i := 8) (lv' := [(8, .int (pie l5.toNatClampNeg)), (0, .ref a), (1, .int l1), (2, .int l2), (3, .int l3), (4, .int l4), (5, .int l5), (6, .int l6), (7, .int l7)]) C dX7_search_159 rfl (by rw [hKN]; decide) rfl ?_
          refine g_aload_n C rfl (q := 1) rfl dX7_search_161 rfl ?_
          refine g_get C fc_X7 14 (by decide) wf_RX7_48 (wL_at0 rfl) rfl dX7_search_162 rfl ?_
          refine g_iload C (q := 6) rfl dX7_search_165 rfl ?_
          obtain ⟨g399, hf⟩ := gd hf
          refine g_iald C (wL_at 13 rfl) (inB_in g399) dX7_search_167 rfl ?_
          refine g_aload_n C rfl (q := 1) rfl dX7_search_168 rfl ?_
          refine g_get C fc_X7 6 (by decide) wf_RX7_27 (wL_at0 rfl) rfl dX7_search_169 rfl ?_
          refine g_iload C (q := 0) rfl dX7_search_172 rfl ?_
          obtain ⟨g400, hf⟩ := gd hf
          refine g_iald C (wL_at 6 rfl) (inB_in g400) dX7_search_174 rfl ?_
          refine g_icmp_ne (tgt := 254) C dX7_search_175 (by decide) rfl (fun c401 => ?_) (fun c401 => ?_)
          · replace hf := iff' c401 hf
            refine g_aload_n C rfl (q := 1) rfl dX7_search_254 rfl ?_
            refine g_get C fc_X7 15 (by decide) wf_RX7_51 (wL_at0 rfl) rfl dX7_search_255 rfl ?_
            refine g_iload C (q := 6) rfl dX7_search_258 rfl ?_
            refine g_aload_n C rfl (q := 1) rfl dX7_search_260 rfl ?_
            refine g_get C fc_X7 7 (by decide) wf_RX7_30 (wL_at0 rfl) rfl dX7_search_261 rfl ?_
            refine g_iload C (q := 0) rfl dX7_search_264 rfl ?_
            refine g_sipush (v := 1400) C (by decide) dX7_search_266 rfl ?_
            refine g_imul C dX7_search_269 rfl ?_
            refine g_aload_n C rfl (q := 1) rfl dX7_search_270 rfl ?_
            refine g_get C fc_X7 14 (by decide) wf_RX7_48 (wL_at0 rfl) rfl dX7_search_271 rfl ?_
            refine g_iload C (q := 6) rfl dX7_search_274 rfl ?_
            obtain ⟨g402, hf⟩ := gd hf
            refine g_iald C (wL_at 13 rfl) (inB_in g402) dX7_search_276 rfl ?_
            refine g_iadd C dX7_search_277 rfl ?_
            obtain ⟨g403, hf⟩ := gd hf
            refine g_lald C (wL_at 7 rfl) (inB_in g403) dX7_search_278 rfl ?_
            obtain ⟨g404, hf⟩ := gd hf
            refine g_last (h' := (wMd σ a th set mir tgt shs shp pls pl tri asm tak pld cel pie nxt (va_up cho l5.toNatClampNeg (pl (((pie l5.toNatClampNeg) * (1400 : Int32)) + (nxt l5.toNatClampNeg)).toNatClampNeg)) cbs cub sts stt frm by' wrk oth mvs mov)) C (wL_at 14 rfl) (inB_in g404) (wL_up 14 (Nat.le_of_ble_eq_true rfl) rfl) dX7_search_279 rfl ?_
            refine g_aload_n C rfl (q := 1) rfl dX7_search_280 rfl ?_
            refine g_get C fc_X7 14 (by decide) wf_RX7_48 (wL_at0 rfl) rfl dX7_search_281 rfl ?_
            refine g_iload C (q := 6) rfl dX7_search_284 rfl ?_
            refine g_dup2 C rfl rfl dX7_search_286 rfl ?_
            obtain ⟨g405, hf⟩ := gd hf
            refine g_iald C (wL_at 13 rfl) (inB_in g405) dX7_search_287 rfl ?_
            refine g_iconst (v := 1) C (by decide) dX7_search_288 rfl ?_
            refine g_iadd C dX7_search_289 rfl ?_
            obtain ⟨g406, hf⟩ := gd hf
            refine g_iast (h' := (wMd σ a th set mir tgt shs shp pls pl tri asm tak pld cel pie (va_up nxt l5.toNatClampNeg ((nxt l5.toNatClampNeg) + (1 : Int32))) (va_up cho l5.toNatClampNeg (pl (((pie l5.toNatClampNeg) * (1400 : Int32)) + (nxt l5.toNatClampNeg)).toNatClampNeg)) cbs cub sts stt frm by' wrk oth mvs mov)) C (wL_at 13 rfl) (inB_in g406) (wL_up 13 (Nat.le_of_ble_eq_true rfl) rfl) dX7_search_290 rfl ?_
            refine g_aload_n C rfl (q := 1) rfl dX7_search_291 rfl ?_
            refine g_get C fc_X7 12 (by decide) wf_RX7_42 (wL_at0 rfl) rfl dX7_search_292 rfl ?_
            refine g_iload C (q := 6) rfl dX7_search_295 rfl ?_
            obtain ⟨g407, hf⟩ := gd hf
            refine g_iald C (wL_at 11 rfl) (inB_in g407) dX7_search_297 rfl ?_
            refine g_if_lt (tgt := 321) C dX7_search_298 (by decide) rfl (fun c408 => ?_) (fun c408 => ?_)
            · replace hf := ift c408 hf
              refine g_iconst (v := 1) C (by decide) dX7_search_321 rfl ?_
              refine g_goto (pc' := 326) C dX7_search_322 (by decide) ?_
              refine g_istore (i := 7) (lv' := [(7, .int (1 : Int32)), (8, .int (pie l5.toNatClampNeg)), (0, .ref a), (1, .int l1), (2, .int l2), (3, .int l3), (4, .int l4), (5, .int l5), (6, .int l6)]) C dX7_search_326 rfl (by rw [hKN]; decide) rfl ?_
              refine g_goto (pc' := 130) C dX7_search_328 (by decide) ?_
              refine g_sub (lv' := [(0, .ref a), (1, .int l1), (2, .int l2), (3, .int l3), (4, .int l4), (5, .int l5), (6, .int l6), (7, .int (1 : Int32))]) [2, 3, 4, 5, 6, 7, 8, 0] rfl ?_
              exact ih _ _ _ _ _ hf hx
            · replace hf := iff' c408 hf
              refine g_aload_n C rfl (q := 1) rfl dX7_search_301 rfl ?_
              refine g_get C fc_X7 15 (by decide) wf_RX7_51 (wL_at0 rfl) rfl dX7_search_302 rfl ?_
              refine g_iload C (q := 6) rfl dX7_search_305 rfl ?_
              obtain ⟨g409, hf⟩ := gd hf
              refine g_lald C (wL_at 14 rfl) (inB_in g409) dX7_search_307 rfl ?_
              refine g_aload_n C rfl (q := 1) rfl dX7_search_308 rfl ?_
              refine g_get C fc_X7 12 (by decide) wf_RX7_42 (wL_at0 rfl) rfl dX7_search_309 rfl ?_
              refine g_iload C (q := 6) rfl dX7_search_312 rfl ?_
              obtain ⟨g410, hf⟩ := gd hf
              refine g_iald C (wL_at 11 rfl) (inB_in g410) dX7_search_314 rfl ?_
              obtain ⟨q411, hq411, hf⟩ := bd hf
              refine g_callS0 (st' := []) (as := [.long ((va_up cho l5.toNatClampNeg (pl (((pie l5.toNatClampNeg) * (1400 : Int32)) + (nxt l5.toNatClampNeg)).toNatClampNeg)) l5.toNatClampNeg), .int (cel l5.toNatClampNeg)]) (st2 := [.int q411]) (k := 2) C ⟨wm_RX7_82, ws_X7_has, wi_RX7, wk_X7_has, by decide +kernel⟩ (c_X7_has (l := kL K) (E := kE K)  _ hq411) (by rw [hKR]; exact ⟨rfl, rfl, ⟨by decide, by decide⟩, Nat.le_refl _, Nat.le_refl _⟩) rfl rfl (by simp) rfl dX7_search_315 rfl ?_
              have j412 : G K 0 0 326 [(8, .int (pie l5.toNatClampNeg)), (0, .ref a), (1, .int l1), (2, .int l2), (3, .int l3), (4, .int l4), (5, .int l5), (6, .int l6), (7, .int l7)] [.int (if q411 = 0 then (0 : Int32) else (1 : Int32))] (wMd σ a th set mir tgt shs shp pls pl tri asm tak pld cel pie (va_up nxt l5.toNatClampNeg ((nxt l5.toNatClampNeg) + (1 : Int32))) (va_up cho l5.toNatClampNeg (pl (((pie l5.toNatClampNeg) * (1400 : Int32)) + (nxt l5.toNatClampNeg)).toNatClampNeg)) cbs cub sts stt frm by' wrk oth mvs mov) n := by
                refine g_istore (i := 7) (lv' := [(7, .int (if q411 = 0 then (0 : Int32) else (1 : Int32))), (8, .int (pie l5.toNatClampNeg)), (0, .ref a), (1, .int l1), (2, .int l2), (3, .int l3), (4, .int l4), (5, .int l5), (6, .int l6)]) C dX7_search_326 rfl (by rw [hKN]; decide) rfl ?_
                refine g_goto (pc' := 130) C dX7_search_328 (by decide) ?_
                refine g_sub (lv' := [(0, .ref a), (1, .int l1), (2, .int l2), (3, .int l3), (4, .int l4), (5, .int l5), (6, .int l6), (7, .int (if q411 = 0 then (0 : Int32) else (1 : Int32)))]) [2, 3, 4, 5, 6, 7, 8, 0] rfl ?_
                exact ih _ _ _ _ _ hf hx
              refine g_if_eq (tgt := 325) C dX7_search_318 (by decide) rfl (fun c413 => ?_) (fun c413 => ?_)
              · refine g_iconst (v := 0) C (by decide) dX7_search_325 rfl ?_
                exact g_topI (by rw [if_pos c413]) j412
              · refine g_iconst (v := 1) C (by decide) dX7_search_321 rfl ?_
                refine g_goto (pc' := 326) C dX7_search_322 (by decide) ?_
                exact g_topI (by rw [if_neg c413]) j412
          · replace hf := ift c401 hf
            refine g_iload C (q := 0) rfl dX7_search_178 rfl ?_
            refine g_iconst (v := 1) C (by decide) dX7_search_180 rfl ?_
            refine g_iadd C dX7_search_181 rfl ?_
            refine g_istore (i := 9) (lv' := [(9, .int ((pie l5.toNatClampNeg) + (1 : Int32))), (8, .int (pie l5.toNatClampNeg)), (0, .ref a), (1, .int l1), (2, .int l2), (3, .int l3), (4, .int l4), (5, .int l5), (6, .int l6), (7, .int l7)]) C dX7_search_182 rfl (by rw [hKN]; decide) rfl ?_
            refine g_sub (lv' := [(0, .ref a), (1, .int l1), (2, .int l2), (3, .int l3), (4, .int l4), (5, .int l5), (6, .int l6), (7, .int l7), (9, .int ((pie l5.toNatClampNeg) + (1 : Int32)))]) [2, 3, 4, 5, 6, 7, 8, 9, 0] rfl ?_
            obtain ⟨q423, hq423, hf⟩ := bd hf
            refine g_X7_search_184 (l1 := l1) (l2 := l2) (l3 := l3) (l4 := l4) (l5 := l5) (l6 := l6) (l7 := l7) (th := th) (set := set) (mir := mir) (tgt := tgt) (shs := shs) (shp := shp) (pls := pls) (pl := pl) (tri := tri) (asm := asm) (tak := tak) (pld := pld) (cel := cel) (pie := pie) (nxt := nxt) (cho := cho) (cbs := cbs) (cub := cub) (sts := sts) (stt := stt) (frm := frm) (by' := by') (wrk := wrk) (oth := oth) (mvs := mvs) (mov := mov) C hKR hKN _ _ _ hq423 ?_
            refine g_aload_n C rfl (q := 0) rfl dX7_search_219 rfl ?_
            refine g_get C fc_X7 13 (by decide) wf_RX7_45 (wL_at0 rfl) rfl dX7_search_220 rfl ?_
            refine g_iload C (q := 5) rfl dX7_search_223 rfl ?_
            refine g_aload_n C rfl (q := 0) rfl dX7_search_225 rfl ?_
            refine g_get C fc_X7 12 (by decide) wf_RX7_42 (wL_at0 rfl) rfl dX7_search_226 rfl ?_
            refine g_iload C (q := 5) rfl dX7_search_229 rfl ?_
            obtain ⟨g424, hf⟩ := gd hf
            refine g_iald C (wL_at 11 rfl) (inB_in g424) dX7_search_231 rfl ?_
            have j427 : G K 0 0 242 [(0, .ref a), (1, .int l1), (2, .int l2), (3, .int l3), (4, .int l4), (5, .int l5), (6, .int l6), (7, .int l7), (9, .int q423)] [.int (if 0 ≤ (cel l5.toNatClampNeg) then q423 else (6 : Int32)), .int l5, .ref (a + 12)] (wMd σ a th set mir tgt shs shp pls pl tri asm tak pld cel pie nxt cho cbs cub sts stt frm by' wrk oth mvs mov) n := by
              obtain ⟨g425, hf⟩ := gd hf
              refine g_iast (h' := (wMd σ a th set mir tgt shs shp pls pl tri asm tak pld cel (va_up pie l5.toNatClampNeg (if 0 ≤ (cel l5.toNatClampNeg) then q423 else (6 : Int32))) nxt cho cbs cub sts stt frm by' wrk oth mvs mov)) C (wL_at 12 rfl) (inB_in g425) (wL_up 12 (Nat.le_of_ble_eq_true rfl) rfl) dX7_search_242 rfl ?_
              refine g_aload_n C rfl (q := 0) rfl dX7_search_243 rfl ?_
              refine g_get C fc_X7 14 (by decide) wf_RX7_48 (wL_at0 rfl) rfl dX7_search_244 rfl ?_
              refine g_iload C (q := 5) rfl dX7_search_247 rfl ?_
              refine g_iconst (v := 0) C (by decide) dX7_search_249 rfl ?_
              obtain ⟨g426, hf⟩ := gd hf
              refine g_iast (h' := (wMd σ a th set mir tgt shs shp pls pl tri asm tak pld cel (va_up pie l5.toNatClampNeg (if 0 ≤ (cel l5.toNatClampNeg) then q423 else (6 : Int32))) (va_up nxt l5.toNatClampNeg (0 : Int32)) cho cbs cub sts stt frm by' wrk oth mvs mov)) C (wL_at 13 rfl) (inB_in g426) (wL_up 13 (Nat.le_of_ble_eq_true rfl) rfl) dX7_search_250 rfl ?_
              refine g_goto (pc' := 130) C dX7_search_251 (by decide) ?_
              refine g_sub (lv' := [(0, .ref a), (1, .int l1), (2, .int l2), (3, .int l3), (4, .int l4), (5, .int l5), (6, .int l6), (7, .int l7)]) [0, 1, 2, 3, 4, 5, 6, 7] rfl ?_
              exact ih _ _ _ _ _ hf hx
            refine g_if_ge (tgt := 240) C dX7_search_232 (by decide) rfl (fun c428 => ?_) (fun c428 => ?_)
            · refine g_iload C (q := 8) rfl dX7_search_240 rfl ?_
              exact g_topI (by rw [if_pos c428]) j427
            · refine g_bipush (v := 6) C (by decide) dX7_search_235 rfl ?_
              refine g_goto (pc' := 242) C dX7_search_237 (by decide) ?_
              exact g_topI (by rw [if_neg c428]) j427
set_option maxHeartbeats 2000000 in
set_option maxRecDepth 20000 in
theorem g_X7_search_72 {K : KX} {n : Nat} {σ : AH} {a : Nat}  {l1 : Int32} {l2 : Int32} {l3 : Int32} {th : Int32} {set : Nat → Int64} {mir : Nat → Int32} {tgt : Nat → Int32} {shs : Nat → Int32} {shp : Nat → Int64} {pls : Nat → Int32} {pl : Nat → Int64} {asm : Nat → Int64} {cbs : Nat → Int32} {cub : Nat → Int32} {sts : Int32} {stt : Nat → Int32} {frm : Nat → Int32} {by' : Nat → Int32} {wrk : Nat → Int32} {oth : Nat → Int32} {mvs : Int32} {mov : Nat → Int32} (C : Cx K RX7 "search" cX7_search (some .int)) (hKR : kR K = ({ frames := 4, cells := 0, slots := 0, locals := 109 } : Room)) (hKN : kN K = 10) : ∀ (fu : Nat) (l4 : Int32) (l5 : Int32) (tri : Int32) (tak : Nat → Int64) (pld : Nat → Int32) (cel : Nat → Int32) (pie : Nat → Int32) (nxt : Nat → Int32) (cho : Nat → Int64) (res : ((Int32 × (Nat → Int32) × (Nat → Int64) × (Nat → Int32) × (Nat → Int64) × Int32 × (Nat → Int64) × (Nat → Int32) × (Nat → Int32) × (Nat → Int32) × (Nat → Int32) × (Nat → Int64)) ⊕ (Int32 × Int32 × (Nat → Int64) × (Nat → Int32) × (Nat → Int32) × (Nat → Int32) × (Nat → Int32) × (Nat → Int64)))), f_X7_search_72 l1 l2 l3 tgt shs shp pls pl fu l4 l5 tri tak pld cel pie nxt cho = some res → (∀ t, res = .inl t → KQ K 0 0 (some (.int t.1)) (wMd σ a th set mir tgt t.2.1 t.2.2.1 t.2.2.2.1 t.2.2.2.2.1 t.2.2.2.2.2.1 asm t.2.2.2.2.2.2.1 t.2.2.2.2.2.2.2.1 t.2.2.2.2.2.2.2.2.1 t.2.2.2.2.2.2.2.2.2.1 t.2.2.2.2.2.2.2.2.2.2.1 t.2.2.2.2.2.2.2.2.2.2.2 cbs cub sts stt frm by' wrk oth mvs mov) n) → (∀ t, res = .inr t → G K 0 0 459 [(4, .int t.1)] [] (wMd σ a th set mir tgt shs shp pls pl t.2.1 asm t.2.2.1 t.2.2.2.1 t.2.2.2.2.1 t.2.2.2.2.2.1 t.2.2.2.2.2.2.1 t.2.2.2.2.2.2.2 cbs cub sts stt frm by' wrk oth mvs mov) n) → G K 0 0 72 [(0, .ref a), (1, .int l1), (2, .int l2), (3, .int l3), (4, .int l4), (5, .int l5)] [] (wMd σ a th set mir tgt shs shp pls pl tri asm tak pld cel pie nxt cho cbs cub sts stt frm by' wrk oth mvs mov) n := by
  intro fu
  induction fu with
  | zero =>
    intro l4 l5 tri tak pld cel pie nxt cho res hf
    exact absurd hf (by simp [f_X7_search_72])
  | succ fu ih =>
    intro l4 l5 tri tak pld cel pie nxt cho res hf hret hx
    rw [f_X7_search_72] at hf
    refine g_iload C (q := 5) rfl dX7_search_72 rfl ?_
    refine g_if_lt (tgt := 459) C dX7_search_74 (by decide) rfl (fun c321 => ?_) (fun c321 => ?_)
    · replace hf := ift c321 hf
      obtain rfl := Option.some.inj hf
      refine g_sub (lv' := [(4, .int l4)]) [4] rfl ?_
      exact hx (l4, tri, tak, pld, cel, pie, nxt, cho) rfl
    · replace hf := iff' c321 hf
      refine g_aload_n C rfl (q := 0) rfl dX7_search_77 rfl ?_
      refine g_get C fc_X7 11 (by decide) wf_RX7_39 (wL_at0 rfl) rfl dX7_search_78 rfl ?_
      refine g_iload C (q := 5) rfl dX7_search_81 rfl ?_
      obtain ⟨g322, hf⟩ := gd hf
      refine g_iald C (wL_at 10 rfl) (inB_in g322) dX7_search_83 rfl ?_
      refine g_iload_n C rfl (q := 3) rfl dX7_search_84 rfl ?_
      have j471 : G K 0 0 93 [(0, .ref a), (1, .int l1), (2, .int l2), (3, .int l3), (4, .int l4), (5, .int l5)] [.int (if (pld l5.toNatClampNeg) = l3 then (1 : Int32) else (0 : Int32))] (wMd σ a th set mir tgt shs shp pls pl tri asm tak pld cel pie nxt cho cbs cub sts stt frm by' wrk oth mvs mov) n := by
        refine g_istore (i := 6) (lv' := [(6, .int (if (pld l5.toNatClampNeg) = l3 then (1 : Int32) else (0 : Int32))), (0, .ref a), (1, .int l1), (2, .int l2), (3, .int l3), (4, .int l4), (5, .int l5)]) C dX7_search_93 rfl (by rw [hKN]; decide) rfl ?_
        refine g_iload C (q := 0) rfl dX7_search_95 rfl ?_
        refine g_if_eq (tgt := 127) C dX7_search_97 (by decide) rfl (fun c323 => ?_) (fun c323 => ?_)
        · replace hf := ift c323 hf
          refine g_iconst (v := 0) C (by decide) dX7_search_127 rfl ?_
          refine g_istore (i := 7) (lv' := [(7, .int (0 : Int32)), (6, .int (if (pld l5.toNatClampNeg) = l3 then (1 : Int32) else (0 : Int32))), (0, .ref a), (1, .int l1), (2, .int l2), (3, .int l3), (4, .int l4), (5, .int l5)]) C dX7_search_128 rfl (by rw [hKN]; decide) rfl ?_
          refine g_sub (lv' := [(0, .ref a), (1, .int l1), (2, .int l2), (3, .int l3), (4, .int l4), (5, .int l5), (6, .int (if (pld l5.toNatClampNeg) = l3 then (1 : Int32) else (0 : Int32))), (7, .int (0 : Int32))]) [2, 3, 4, 5, 6, 7, 1, 0] rfl ?_
          obtain ⟨q429, hq429, hf⟩ := bd hf
          refine g_X7_search_130 (l1 := l1) (l2 := l2) (l3 := l3) (l4 := l4) (l5 := l5) (l6 := (if (pld l5.toNatClampNeg) = l3 then (1 : Int32) else (0 : Int32))) (th := th) (set := set) (mir := mir) (tgt := tgt) (shs := shs) (shp := shp) (pls := pls) (pl := pl) (tri := tri) (asm := asm) (tak := tak) (pld := pld) (cel := cel) (cbs := cbs) (cub := cub) (sts := sts) (stt := stt) (frm := frm) (by' := by') (wrk := wrk) (oth := oth) (mvs := mvs) (mov := mov) C hKR hKN _ _ _ _ _ _ hq429 ?_
          refine g_iload C (q := 6) rfl dX7_search_331 rfl ?_
          refine g_if_ne (tgt := 342) C dX7_search_333 (by decide) rfl (fun c430 => ?_) (fun c430 => ?_)
          · replace hf := iff' c430 hf
            refine g_aload_n C rfl (q := 0) rfl dX7_search_342 rfl ?_
            refine g_get C fc_X7 8 (by decide) wf_RX7_135 (wL_at0 rfl) rfl dX7_search_343 rfl ?_
            refine g_iload_n C rfl (q := 1) rfl dX7_search_346 rfl ?_
            refine g_icmp_ne (tgt := 363) C dX7_search_347 (by decide) rfl (fun c431 => ?_) (fun c431 => ?_)
            · replace hf := iff' c431 hf
              refine g_aload_n C rfl (q := 0) rfl dX7_search_363 rfl ?_
              refine g_dup C rfl dX7_search_364 rfl ?_
              refine g_get C fc_X7 8 (by decide) wf_RX7_135 (wL_at0 rfl) rfl dX7_search_365 rfl ?_
              refine g_iconst (v := 1) C (by decide) dX7_search_368 rfl ?_
              refine g_iadd C dX7_search_369 rfl ?_
              refine g_put (h' := (wMd σ a th set mir tgt shs shp pls pl (tri + (1 : Int32)) asm tak pld cel q429.2.1 q429.2.2.1 q429.2.2.2 cbs cub sts stt frm by' wrk oth mvs mov)) C fc_X7 8 (by decide) wf_RX7_135 rfl rfl rfl (Nat.le_of_ble_eq_true rfl) (wL_at0 rfl) (wL_up0 (Nat.le_of_ble_eq_true rfl) rfl) dX7_search_370 rfl ?_
              refine g_aload_n C rfl (q := 0) rfl dX7_search_373 rfl ?_
              refine g_get C fc_X7 15 (by decide) wf_RX7_51 (wL_at0 rfl) rfl dX7_search_374 rfl ?_
              refine g_iload C (q := 5) rfl dX7_search_377 rfl ?_
              obtain ⟨g432, hf⟩ := gd hf
              refine g_lald C (wL_at 14 rfl) (inB_in g432) dX7_search_379 rfl ?_
              refine g_aload_n C rfl (q := 0) rfl dX7_search_380 rfl ?_
              refine g_get C fc_X7 10 (by decide) wf_RX7_36 (wL_at0 rfl) rfl dX7_search_381 rfl ?_
              refine g_iload C (q := 5) rfl dX7_search_384 rfl ?_
              obtain ⟨g433, hf⟩ := gd hf
              refine g_lald C (wL_at 9 rfl) (inB_in g433) dX7_search_386 rfl ?_
              refine g_land C dX7_search_387 rfl ?_
              refine g_lconst (v := 0) C (by decide) dX7_search_388 rfl ?_
              refine g_lif_eq (tgt := 396) C dX7_search_389 rfl dX7_search_390 (by decide) rfl (fun c434 => ?_) (fun c434 => ?_)
              · replace hf := ift c434 hf
                refine g_aload_n C rfl (q := 0) rfl dX7_search_396 rfl ?_
                refine g_get C fc_X7 10 (by decide) wf_RX7_36 (wL_at0 rfl) rfl dX7_search_397 rfl ?_
                refine g_iload C (q := 5) rfl dX7_search_400 rfl ?_
                refine g_iconst (v := 1) C (by decide) dX7_search_402 rfl ?_
                refine g_iadd C dX7_search_403 rfl ?_
                refine g_aload_n C rfl (q := 0) rfl dX7_search_404 rfl ?_
                refine g_get C fc_X7 10 (by decide) wf_RX7_36 (wL_at0 rfl) rfl dX7_search_405 rfl ?_
                refine g_iload C (q := 5) rfl dX7_search_408 rfl ?_
                obtain ⟨g435, hf⟩ := gd hf
                refine g_lald C (wL_at 9 rfl) (inB_in g435) dX7_search_410 rfl ?_
                refine g_aload_n C rfl (q := 0) rfl dX7_search_411 rfl ?_
                refine g_get C fc_X7 15 (by decide) wf_RX7_51 (wL_at0 rfl) rfl dX7_search_412 rfl ?_
                refine g_iload C (q := 5) rfl dX7_search_415 rfl ?_
                obtain ⟨g436, hf⟩ := gd hf
                refine g_lald C (wL_at 14 rfl) (inB_in g436) dX7_search_417 rfl ?_
                refine g_lor C dX7_search_418 rfl ?_
                obtain ⟨g437, hf⟩ := gd hf
                refine g_last (h' := (wMd σ a th set mir tgt shs shp pls pl (tri + (1 : Int32)) asm (va_up tak (l5 + (1 : Int32)).toNatClampNeg ((tak l5.toNatClampNeg) ||| (q429.2.2.2 l5.toNatClampNeg))) pld cel q429.2.1 q429.2.2.1 q429.2.2.2 cbs cub sts stt frm by' wrk oth mvs mov)) C (wL_at 9 rfl) (inB_in g437) (wL_up 9 (Nat.le_of_ble_eq_true rfl) rfl) dX7_search_419 rfl ?_
                refine g_aload_n C rfl (q := 0) rfl dX7_search_420 rfl ?_
                refine g_get C fc_X7 11 (by decide) wf_RX7_39 (wL_at0 rfl) rfl dX7_search_421 rfl ?_
                refine g_iload C (q := 5) rfl dX7_search_424 rfl ?_
                refine g_iconst (v := 1) C (by decide) dX7_search_426 rfl ?_
                refine g_iadd C dX7_search_427 rfl ?_
                refine g_aload_n C rfl (q := 0) rfl dX7_search_428 rfl ?_
                refine g_get C fc_X7 11 (by decide) wf_RX7_39 (wL_at0 rfl) rfl dX7_search_429 rfl ?_
                refine g_iload C (q := 5) rfl dX7_search_432 rfl ?_
                obtain ⟨g438, hf⟩ := gd hf
                refine g_iald C (wL_at 10 rfl) (inB_in g438) dX7_search_434 rfl ?_
                refine g_iconst (v := 1) C (by decide) dX7_search_435 rfl ?_
                refine g_aload_n C rfl (q := 0) rfl dX7_search_436 rfl ?_
                refine g_get C fc_X7 13 (by decide) wf_RX7_45 (wL_at0 rfl) rfl dX7_search_437 rfl ?_
                refine g_iload C (q := 5) rfl dX7_search_440 rfl ?_
                obtain ⟨g439, hf⟩ := gd hf
                refine g_iald C (wL_at 12 rfl) (inB_in g439) dX7_search_442 rfl ?_
                refine g_ishl C dX7_search_443 rfl ?_
                refine g_ior C dX7_search_444 rfl ?_
                obtain ⟨g440, hf⟩ := gd hf
                refine g_iast (h' := (wMd σ a th set mir tgt shs shp pls pl (tri + (1 : Int32)) asm (va_up tak (l5 + (1 : Int32)).toNatClampNeg ((tak l5.toNatClampNeg) ||| (q429.2.2.2 l5.toNatClampNeg))) (va_up pld (l5 + (1 : Int32)).toNatClampNeg ((pld l5.toNatClampNeg) ||| ((1 : Int32) <<< ((q429.2.1 l5.toNatClampNeg) &&& 31)))) cel q429.2.1 q429.2.2.1 q429.2.2.2 cbs cub sts stt frm by' wrk oth mvs mov)) C (wL_at 10 rfl) (inB_in g440) (wL_up 10 (Nat.le_of_ble_eq_true rfl) rfl) dX7_search_445 rfl ?_
                refine g_iinc (v := l5 + (1 : Int32)) (lv' := [(5, .int (l5 + (1 : Int32))), (0, .ref a), (1, .int l1), (2, .int l2), (3, .int l3), (4, .int l4), (7, .int q429.1)]) (q := 5) C dX7_search_446 rfl rfl rfl (by rw [hKN]; decide) rfl ?_
                refine g_aload_n C rfl (q := 1) rfl dX7_search_449 rfl ?_
                refine g_iload C (q := 0) rfl dX7_search_450 rfl ?_
                refine g_iload_n C rfl (q := 4) rfl dX7_search_452 rfl ?_
                obtain ⟨q441, hq441, hf⟩ := bd hf
                refine g_callV0 (st' := []) (as := [.int (l5 + (1 : Int32)), .int l3]) (st2 := []) (k := 2) C ⟨wm_RX7_138, wn_X7_begins, wv_X7_begins, wi_RX7, wk_X7_begins, by decide +kernel⟩ rfl (wL_at0 rfl) (c_X7_begins (l := kL K) (E := kE K)  _ hq441) (by rw [hKR]; exact ⟨rfl, rfl, ⟨by decide, by decide⟩, Nat.le_refl _, Nat.le_refl _⟩) rfl rfl (by simp) rfl dX7_search_453 rfl ?_
                refine g_goto (pc' := 72) C dX7_search_456 (by decide) ?_
                refine g_sub (lv' := [(0, .ref a), (1, .int l1), (2, .int l2), (3, .int l3), (4, .int l4), (5, .int (l5 + (1 : Int32)))]) [1, 2, 3, 4, 5, 0] rfl ?_
                exact ih _ _ _ _ _ _ _ _ _ _ hf hret hx
              · replace hf := iff' c434 hf
                refine g_goto (pc' := 72) C dX7_search_393 (by decide) ?_
                refine g_sub (lv' := [(0, .ref a), (1, .int l1), (2, .int l2), (3, .int l3), (4, .int l4), (5, .int l5)]) [0, 1, 2, 3, 4, 5] rfl ?_
                exact ih _ _ _ _ _ _ _ _ _ _ hf hret hx
            · replace hf := ift c431 hf
              refine g_aload_n C rfl (q := 0) rfl dX7_search_350 rfl ?_
              refine g_dup C rfl dX7_search_351 rfl ?_
              refine g_get C fc_X7 8 (by decide) wf_RX7_135 (wL_at0 rfl) rfl dX7_search_352 rfl ?_
              refine g_iconst (v := 1) C (by decide) dX7_search_355 rfl ?_
              refine g_iadd C dX7_search_356 rfl ?_
              refine g_put (h' := (wMd σ a th set mir tgt shs shp pls pl (tri + (1 : Int32)) asm tak pld cel q429.2.1 q429.2.2.1 q429.2.2.2 cbs cub sts stt frm by' wrk oth mvs mov)) C fc_X7 8 (by decide) wf_RX7_135 rfl rfl rfl (Nat.le_of_ble_eq_true rfl) (wL_at0 rfl) (wL_up0 (Nat.le_of_ble_eq_true rfl) rfl) dX7_search_357 rfl ?_
              refine g_iload C (q := 4) rfl dX7_search_360 rfl ?_
              obtain rfl := Option.some.inj hf
              exact g_iret C (hret (l4, shs, shp, pls, pl, tri + (1 : Int32), tak, pld, cel, q429.2.1, q429.2.2.1, q429.2.2.2) rfl) dX7_search_362
          · replace hf := ift c430 hf
            refine g_iinc (v := l5 + (-1 : Int32)) (lv' := [(5, .int (l5 + (-1 : Int32))), (0, .ref a), (1, .int l1), (2, .int l2), (3, .int l3), (4, .int l4), (7, .int q429.1)]) (q := 5) C dX7_search_336 rfl rfl rfl (by rw [hKN]; decide) rfl ?_
            refine g_goto (pc' := 72) C dX7_search_339 (by decide) ?_
            refine g_sub (lv' := [(0, .ref a), (1, .int l1), (2, .int l2), (3, .int l3), (4, .int l4), (5, .int (l5 + (-1 : Int32)))]) [1, 2, 3, 4, 5, 0] rfl ?_
            exact ih _ _ _ _ _ _ _ _ _ _ hf hret hx
        · replace hf := iff' c323 hf
          refine g_aload_n C rfl (q := 1) rfl dX7_search_100 rfl ?_
          refine g_get C fc_X7 12 (by decide) wf_RX7_42 (wL_at0 rfl) rfl dX7_search_101 rfl ?_
          refine g_iload C (q := 6) rfl dX7_search_104 rfl ?_
          obtain ⟨g442, hf⟩ := gd hf
          refine g_iald C (wL_at 11 rfl) (inB_in g442) dX7_search_106 rfl ?_
          refine g_if_ge (tgt := 127) C dX7_search_107 (by decide) rfl (fun c443 => ?_) (fun c443 => ?_)
          · replace hf := ift c443 hf
            refine g_iconst (v := 0) C (by decide) dX7_search_127 rfl ?_
            refine g_istore (i := 7) (lv' := [(7, .int (0 : Int32)), (6, .int (if (pld l5.toNatClampNeg) = l3 then (1 : Int32) else (0 : Int32))), (0, .ref a), (1, .int l1), (2, .int l2), (3, .int l3), (4, .int l4), (5, .int l5)]) C dX7_search_128 rfl (by rw [hKN]; decide) rfl ?_
            refine g_sub (lv' := [(0, .ref a), (1, .int l1), (2, .int l2), (3, .int l3), (4, .int l4), (5, .int l5), (6, .int (if (pld l5.toNatClampNeg) = l3 then (1 : Int32) else (0 : Int32))), (7, .int (0 : Int32))]) [2, 3, 4, 5, 6, 7, 1, 0] rfl ?_
            obtain ⟨q444, hq444, hf⟩ := bd hf
            refine g_X7_search_130 (l1 := l1) (l2 := l2) (l3 := l3) (l4 := l4) (l5 := l5) (l6 := (if (pld l5.toNatClampNeg) = l3 then (1 : Int32) else (0 : Int32))) (th := th) (set := set) (mir := mir) (tgt := tgt) (shs := shs) (shp := shp) (pls := pls) (pl := pl) (tri := tri) (asm := asm) (tak := tak) (pld := pld) (cel := cel) (cbs := cbs) (cub := cub) (sts := sts) (stt := stt) (frm := frm) (by' := by') (wrk := wrk) (oth := oth) (mvs := mvs) (mov := mov) C hKR hKN _ _ _ _ _ _ hq444 ?_
            refine g_iload C (q := 6) rfl dX7_search_331 rfl ?_
            refine g_if_ne (tgt := 342) C dX7_search_333 (by decide) rfl (fun c445 => ?_) (fun c445 => ?_)
            · replace hf := iff' c445 hf
              refine g_aload_n C rfl (q := 0) rfl dX7_search_342 rfl ?_
              refine g_get C fc_X7 8 (by decide) wf_RX7_135 (wL_at0 rfl) rfl dX7_search_343 rfl ?_
              refine g_iload_n C rfl (q := 1) rfl dX7_search_346 rfl ?_
              refine g_icmp_ne (tgt := 363) C dX7_search_347 (by decide) rfl (fun c446 => ?_) (fun c446 => ?_)
              · replace hf := iff' c446 hf
                refine g_aload_n C rfl (q := 0) rfl dX7_search_363 rfl ?_
                refine g_dup C rfl dX7_search_364 rfl ?_
                refine g_get C fc_X7 8 (by decide) wf_RX7_135 (wL_at0 rfl) rfl dX7_search_365 rfl ?_
                refine g_iconst (v := 1) C (by decide) dX7_search_368 rfl ?_
                refine g_iadd C dX7_search_369 rfl ?_
                refine g_put (h' := (wMd σ a th set mir tgt shs shp pls pl (tri + (1 : Int32)) asm tak pld cel q444.2.1 q444.2.2.1 q444.2.2.2 cbs cub sts stt frm by' wrk oth mvs mov)) C fc_X7 8 (by decide) wf_RX7_135 rfl rfl rfl (Nat.le_of_ble_eq_true rfl) (wL_at0 rfl) (wL_up0 (Nat.le_of_ble_eq_true rfl) rfl) dX7_search_370 rfl ?_
                refine g_aload_n C rfl (q := 0) rfl dX7_search_373 rfl ?_
                refine g_get C fc_X7 15 (by decide) wf_RX7_51 (wL_at0 rfl) rfl dX7_search_374 rfl ?_
                refine g_iload C (q := 5) rfl dX7_search_377 rfl ?_
                obtain ⟨g447, hf⟩ := gd hf
                refine g_lald C (wL_at 14 rfl) (inB_in g447) dX7_search_379 rfl ?_
                refine g_aload_n C rfl (q := 0) rfl dX7_search_380 rfl ?_
                refine g_get C fc_X7 10 (by decide) wf_RX7_36 (wL_at0 rfl) rfl dX7_search_381 rfl ?_
                refine g_iload C (q := 5) rfl dX7_search_384 rfl ?_
                obtain ⟨g448, hf⟩ := gd hf
                refine g_lald C (wL_at 9 rfl) (inB_in g448) dX7_search_386 rfl ?_
                refine g_land C dX7_search_387 rfl ?_
                refine g_lconst (v := 0) C (by decide) dX7_search_388 rfl ?_
                refine g_lif_eq (tgt := 396) C dX7_search_389 rfl dX7_search_390 (by decide) rfl (fun c449 => ?_) (fun c449 => ?_)
                · replace hf := ift c449 hf
                  refine g_aload_n C rfl (q := 0) rfl dX7_search_396 rfl ?_
                  refine g_get C fc_X7 10 (by decide) wf_RX7_36 (wL_at0 rfl) rfl dX7_search_397 rfl ?_
                  refine g_iload C (q := 5) rfl dX7_search_400 rfl ?_
                  refine g_iconst (v := 1) C (by decide) dX7_search_402 rfl ?_
                  refine g_iadd C dX7_search_403 rfl ?_
                  refine g_aload_n C rfl (q := 0) rfl dX7_search_404 rfl ?_
                  refine g_get C fc_X7 10 (by decide) wf_RX7_36 (wL_at0 rfl) rfl dX7_search_405 rfl ?_
                  refine g_iload C (q := 5) rfl dX7_search_408 rfl ?_
                  obtain ⟨g450, hf⟩ := gd hf
                  refine g_lald C (wL_at 9 rfl) (inB_in g450) dX7_search_410 rfl ?_
                  refine g_aload_n C rfl (q := 0) rfl dX7_search_411 rfl ?_
                  refine g_get C fc_X7 15 (by decide) wf_RX7_51 (wL_at0 rfl) rfl dX7_search_412 rfl ?_
                  refine g_iload C (q := 5) rfl dX7_search_415 rfl ?_
                  obtain ⟨g451, hf⟩ := gd hf
                  refine g_lald C (wL_at 14 rfl) (inB_in g451) dX7_search_417 rfl ?_
                  refine g_lor C dX7_search_418 rfl ?_
                  obtain ⟨g452, hf⟩ := gd hf
                  refine g_last (h' := (wMd σ a th set mir tgt shs shp pls pl (tri + (1 : Int32)) asm (va_up tak (l5 + (1 : Int32)).toNatClampNeg ((tak l5.toNatClampNeg) ||| (q444.2.2.2 l5.toNatClampNeg))) pld cel q444.2.1 q444.2.2.1 q444.2.2.2 cbs cub sts stt frm by' wrk oth mvs mov)) C (wL_at 9 rfl) (inB_in g452) (wL_up 9 (Nat.le_of_ble_eq_true rfl) rfl) dX7_search_419 rfl ?_
                  refine g_aload_n C rfl (q := 0) rfl dX7_search_420 rfl ?_
                  refine g_get C fc_X7 11 (by decide) wf_RX7_39 (wL_at0 rfl) rfl dX7_search_421 rfl ?_
                  refine g_iload C (q := 5) rfl dX7_search_424 rfl ?_
                  refine g_iconst (v := 1) C (by decide) dX7_search_426 rfl ?_
                  refine g_iadd C dX7_search_427 rfl ?_
                  refine g_aload_n C rfl (q := 0) rfl dX7_search_428 rfl ?_
                  refine g_get C fc_X7 11 (by decide) wf_RX7_39 (wL_at0 rfl) rfl dX7_search_429 rfl ?_
                  refine g_iload C (q := 5) rfl dX7_search_432 rfl ?_
                  obtain ⟨g453, hf⟩ := gd hf
                  refine g_iald C (wL_at 10 rfl) (inB_in g453) dX7_search_434 rfl ?_
                  refine g_iconst (v := 1) C (by decide) dX7_search_435 rfl ?_
                  refine g_aload_n C rfl (q := 0) rfl dX7_search_436 rfl ?_
                  refine g_get C fc_X7 13 (by decide) wf_RX7_45 (wL_at0 rfl) rfl dX7_search_437 rfl ?_
                  refine g_iload C (q := 5) rfl dX7_search_440 rfl ?_
                  obtain ⟨g454, hf⟩ := gd hf
                  refine g_iald C (wL_at 12 rfl) (inB_in g454) dX7_search_442 rfl ?_
                  refine g_ishl C dX7_search_443 rfl ?_
                  refine g_ior C dX7_search_444 rfl ?_
                  obtain ⟨g455, hf⟩ := gd hf
                  refine g_iast (h' := (wMd σ a th set mir tgt shs shp pls pl (tri + (1 : Int32)) asm (va_up tak (l5 + (1 : Int32)).toNatClampNeg ((tak l5.toNatClampNeg) ||| (q444.2.2.2 l5.toNatClampNeg))) (va_up pld (l5 + (1 : Int32)).toNatClampNeg ((pld l5.toNatClampNeg) ||| ((1 : Int32) <<< ((q444.2.1 l5.toNatClampNeg) &&& 31)))) cel q444.2.1 q444.2.2.1 q444.2.2.2 cbs cub sts stt frm by' wrk oth mvs mov)) C (wL_at 10 rfl) (inB_in g455) (wL_up 10 (Nat.le_of_ble_eq_true rfl) rfl) dX7_search_445 rfl ?_
                  refine g_iinc (v := l5 + (1 : Int32)) (lv' := [(5, .int (l5 + (1 : Int32))), (0, .ref a), (1, .int l1), (2, .int l2), (3, .int l3), (4, .int l4), (7, .int q444.1)]) (q := 5) C dX7_search_446 rfl rfl rfl (by rw [hKN]; decide) rfl ?_
                  refine g_aload_n C rfl (q := 1) rfl dX7_search_449 rfl ?_
                  refine g_iload C (q := 0) rfl dX7_search_450 rfl ?_
                  refine g_iload_n C rfl (q := 4) rfl dX7_search_452 rfl ?_
                  obtain ⟨q456, hq456, hf⟩ := bd hf
                  refine g_callV0 (st' := []) (as := [.int (l5 + (1 : Int32)), .int l3]) (st2 := []) (k := 2) C ⟨wm_RX7_138, wn_X7_begins, wv_X7_begins, wi_RX7, wk_X7_begins, by decide +kernel⟩ rfl (wL_at0 rfl) (c_X7_begins (l := kL K) (E := kE K)  _ hq456) (by rw [hKR]; exact ⟨rfl, rfl, ⟨by decide, by decide⟩, Nat.le_refl _, Nat.le_refl _⟩) rfl rfl (by simp) rfl dX7_search_453 rfl ?_
                  refine g_goto (pc' := 72) C dX7_search_456 (by decide) ?_
                  refine g_sub (lv' := [(0, .ref a), (1, .int l1), (2, .int l2), (3, .int l3), (4, .int l4), (5, .int (l5 + (1 : Int32)))]) [1, 2, 3, 4, 5, 0] rfl ?_
                  exact ih _ _ _ _ _ _ _ _ _ _ hf hret hx
                · replace hf := iff' c449 hf
                  refine g_goto (pc' := 72) C dX7_search_393 (by decide) ?_
                  refine g_sub (lv' := [(0, .ref a), (1, .int l1), (2, .int l2), (3, .int l3), (4, .int l4), (5, .int l5)]) [0, 1, 2, 3, 4, 5] rfl ?_
                  exact ih _ _ _ _ _ _ _ _ _ _ hf hret hx
              · replace hf := ift c446 hf
                refine g_aload_n C rfl (q := 0) rfl dX7_search_350 rfl ?_
                refine g_dup C rfl dX7_search_351 rfl ?_
                refine g_get C fc_X7 8 (by decide) wf_RX7_135 (wL_at0 rfl) rfl dX7_search_352 rfl ?_
                refine g_iconst (v := 1) C (by decide) dX7_search_355 rfl ?_
                refine g_iadd C dX7_search_356 rfl ?_
                refine g_put (h' := (wMd σ a th set mir tgt shs shp pls pl (tri + (1 : Int32)) asm tak pld cel q444.2.1 q444.2.2.1 q444.2.2.2 cbs cub sts stt frm by' wrk oth mvs mov)) C fc_X7 8 (by decide) wf_RX7_135 rfl rfl rfl (Nat.le_of_ble_eq_true rfl) (wL_at0 rfl) (wL_up0 (Nat.le_of_ble_eq_true rfl) rfl) dX7_search_357 rfl ?_
                refine g_iload C (q := 4) rfl dX7_search_360 rfl ?_
                obtain rfl := Option.some.inj hf
                exact g_iret C (hret (l4, shs, shp, pls, pl, tri + (1 : Int32), tak, pld, cel, q444.2.1, q444.2.2.1, q444.2.2.2) rfl) dX7_search_362
            · replace hf := ift c445 hf
              refine g_iinc (v := l5 + (-1 : Int32)) (lv' := [(5, .int (l5 + (-1 : Int32))), (0, .ref a), (1, .int l1), (2, .int l2), (3, .int l3), (4, .int l4), (7, .int q444.1)]) (q := 5) C dX7_search_336 rfl rfl rfl (by rw [hKN]; decide) rfl ?_
              refine g_goto (pc' := 72) C dX7_search_339 (by decide) ?_
              refine g_sub (lv' := [(0, .ref a), (1, .int l1), (2, .int l2), (3, .int l3), (4, .int l4), (5, .int (l5 + (-1 : Int32)))]) [1, 2, 3, 4, 5, 0] rfl ?_
              exact ih _ _ _ _ _ _ _ _ _ _ hf hret hx
          · replace hf := iff' c443 hf
            refine g_iinc (v := l4 + (1 : Int32)) (lv' := [(4, .int (l4 + (1 : Int32))), (6, .int (if (pld l5.toNatClampNeg) = l3 then (1 : Int32) else (0 : Int32))), (0, .ref a), (1, .int l1), (2, .int l2), (3, .int l3), (5, .int l5)]) (q := 5) C dX7_search_110 rfl rfl rfl (by rw [hKN]; decide) rfl ?_
            refine g_iload C (q := 0) rfl dX7_search_113 rfl ?_
            refine g_iconst (v := 1) C (by decide) dX7_search_115 rfl ?_
            refine g_isub C dX7_search_116 rfl ?_
            refine g_iload_n C rfl (q := 4) rfl dX7_search_117 rfl ?_
            refine g_icmp_ne (tgt := 127) C dX7_search_118 (by decide) rfl (fun c457 => ?_) (fun c457 => ?_)
            · replace hf := iff' c457 hf
              refine g_iconst (v := 0) C (by decide) dX7_search_127 rfl ?_
              refine g_istore (i := 7) (lv' := [(7, .int (0 : Int32)), (4, .int (l4 + (1 : Int32))), (6, .int (if (pld l5.toNatClampNeg) = l3 then (1 : Int32) else (0 : Int32))), (0, .ref a), (1, .int l1), (2, .int l2), (3, .int l3), (5, .int l5)]) C dX7_search_128 rfl (by rw [hKN]; decide) rfl ?_
              refine g_sub (lv' := [(0, .ref a), (1, .int l1), (2, .int l2), (3, .int l3), (4, .int (l4 + (1 : Int32))), (5, .int l5), (6, .int (if (pld l5.toNatClampNeg) = l3 then (1 : Int32) else (0 : Int32))), (7, .int (0 : Int32))]) [3, 4, 5, 6, 1, 7, 2, 0] rfl ?_
              obtain ⟨q458, hq458, hf⟩ := bd hf
              refine g_X7_search_130 (l1 := l1) (l2 := l2) (l3 := l3) (l4 := l4 + (1 : Int32)) (l5 := l5) (l6 := (if (pld l5.toNatClampNeg) = l3 then (1 : Int32) else (0 : Int32))) (th := th) (set := set) (mir := mir) (tgt := tgt) (shs := shs) (shp := shp) (pls := pls) (pl := pl) (tri := tri) (asm := asm) (tak := tak) (pld := pld) (cel := cel) (cbs := cbs) (cub := cub) (sts := sts) (stt := stt) (frm := frm) (by' := by') (wrk := wrk) (oth := oth) (mvs := mvs) (mov := mov) C hKR hKN _ _ _ _ _ _ hq458 ?_
              refine g_iload C (q := 6) rfl dX7_search_331 rfl ?_
              refine g_if_ne (tgt := 342) C dX7_search_333 (by decide) rfl (fun c459 => ?_) (fun c459 => ?_)
              · replace hf := iff' c459 hf
                refine g_aload_n C rfl (q := 0) rfl dX7_search_342 rfl ?_
                refine g_get C fc_X7 8 (by decide) wf_RX7_135 (wL_at0 rfl) rfl dX7_search_343 rfl ?_
                refine g_iload_n C rfl (q := 1) rfl dX7_search_346 rfl ?_
                refine g_icmp_ne (tgt := 363) C dX7_search_347 (by decide) rfl (fun c460 => ?_) (fun c460 => ?_)
                · replace hf := iff' c460 hf
                  refine g_aload_n C rfl (q := 0) rfl dX7_search_363 rfl ?_
                  refine g_dup C rfl dX7_search_364 rfl ?_
                  refine g_get C fc_X7 8 (by decide) wf_RX7_135 (wL_at0 rfl) rfl dX7_search_365 rfl ?_
                  refine g_iconst (v := 1) C (by decide) dX7_search_368 rfl ?_
                  refine g_iadd C dX7_search_369 rfl ?_
                  refine g_put (h' := (wMd σ a th set mir tgt shs shp pls pl (tri + (1 : Int32)) asm tak pld cel q458.2.1 q458.2.2.1 q458.2.2.2 cbs cub sts stt frm by' wrk oth mvs mov)) C fc_X7 8 (by decide) wf_RX7_135 rfl rfl rfl (Nat.le_of_ble_eq_true rfl) (wL_at0 rfl) (wL_up0 (Nat.le_of_ble_eq_true rfl) rfl) dX7_search_370 rfl ?_
                  refine g_aload_n C rfl (q := 0) rfl dX7_search_373 rfl ?_
                  refine g_get C fc_X7 15 (by decide) wf_RX7_51 (wL_at0 rfl) rfl dX7_search_374 rfl ?_
                  refine g_iload C (q := 5) rfl dX7_search_377 rfl ?_
                  obtain ⟨g461, hf⟩ := gd hf
                  refine g_lald C (wL_at 14 rfl) (inB_in g461) dX7_search_379 rfl ?_
                  refine g_aload_n C rfl (q := 0) rfl dX7_search_380 rfl ?_
                  refine g_get C fc_X7 10 (by decide) wf_RX7_36 (wL_at0 rfl) rfl dX7_search_381 rfl ?_
                  refine g_iload C (q := 5) rfl dX7_search_384 rfl ?_
                  obtain ⟨g462, hf⟩ := gd hf
                  refine g_lald C (wL_at 9 rfl) (inB_in g462) dX7_search_386 rfl ?_
                  refine g_land C dX7_search_387 rfl ?_
                  refine g_lconst (v := 0) C (by decide) dX7_search_388 rfl ?_
                  refine g_lif_eq (tgt := 396) C dX7_search_389 rfl dX7_search_390 (by decide) rfl (fun c463 => ?_) (fun c463 => ?_)
                  · replace hf := ift c463 hf
                    refine g_aload_n C rfl (q := 0) rfl dX7_search_396 rfl ?_
                    refine g_get C fc_X7 10 (by decide) wf_RX7_36 (wL_at0 rfl) rfl dX7_search_397 rfl ?_
                    refine g_iload C (q := 5) rfl dX7_search_400 rfl ?_
                    refine g_iconst (v := 1) C (by decide) dX7_search_402 rfl ?_
                    refine g_iadd C dX7_search_403 rfl ?_
                    refine g_aload_n C rfl (q := 0) rfl dX7_search_404 rfl ?_
                    refine g_get C fc_X7 10 (by decide) wf_RX7_36 (wL_at0 rfl) rfl dX7_search_405 rfl ?_
                    refine g_iload C (q := 5) rfl dX7_search_408 rfl ?_
                    obtain ⟨g464, hf⟩ := gd hf
                    refine g_lald C (wL_at 9 rfl) (inB_in g464) dX7_search_410 rfl ?_
                    refine g_aload_n C rfl (q := 0) rfl dX7_search_411 rfl ?_
                    refine g_get C fc_X7 15 (by decide) wf_RX7_51 (wL_at0 rfl) rfl dX7_search_412 rfl ?_
                    refine g_iload C (q := 5) rfl dX7_search_415 rfl ?_
                    obtain ⟨g465, hf⟩ := gd hf
                    refine g_lald C (wL_at 14 rfl) (inB_in g465) dX7_search_417 rfl ?_
                    refine g_lor C dX7_search_418 rfl ?_
                    obtain ⟨g466, hf⟩ := gd hf
                    refine g_last (h' := (wMd σ a th set mir tgt shs shp pls pl (tri + (1 : Int32)) asm (va_up tak (l5 + (1 : Int32)).toNatClampNeg ((tak l5.toNatClampNeg) ||| (q458.2.2.2 l5.toNatClampNeg))) pld cel q458.2.1 q458.2.2.1 q458.2.2.2 cbs cub sts stt frm by' wrk oth mvs mov)) C (wL_at 9 rfl) (inB_in g466) (wL_up 9 (Nat.le_of_ble_eq_true rfl) rfl) dX7_search_419 rfl ?_
                    refine g_aload_n C rfl (q := 0) rfl dX7_search_420 rfl ?_
                    refine g_get C fc_X7 11 (by decide) wf_RX7_39 (wL_at0 rfl) rfl dX7_search_421 rfl ?_
                    refine g_iload C (q := 5) rfl dX7_search_424 rfl ?_
                    refine g_iconst (v := 1) C (by decide) dX7_search_426 rfl ?_
                    refine g_iadd C dX7_search_427 rfl ?_
                    refine g_aload_n C rfl (q := 0) rfl dX7_search_428 rfl ?_
                    refine g_get C fc_X7 11 (by decide) wf_RX7_39 (wL_at0 rfl) rfl dX7_search_429 rfl ?_
                    refine g_iload C (q := 5) rfl dX7_search_432 rfl ?_
                    obtain ⟨g467, hf⟩ := gd hf
                    refine g_iald C (wL_at 10 rfl) (inB_in g467) dX7_search_434 rfl ?_
                    refine g_iconst (v := 1) C (by decide) dX7_search_435 rfl ?_
                    refine g_aload_n C rfl (q := 0) rfl dX7_search_436 rfl ?_
                    refine g_get C fc_X7 13 (by decide) wf_RX7_45 (wL_at0 rfl) rfl dX7_search_437 rfl ?_
                    refine g_iload C (q := 5) rfl dX7_search_440 rfl ?_
                    obtain ⟨g468, hf⟩ := gd hf
                    refine g_iald C (wL_at 12 rfl) (inB_in g468) dX7_search_442 rfl ?_
                    refine g_ishl C dX7_search_443 rfl ?_
                    refine g_ior C dX7_search_444 rfl ?_
                    obtain ⟨g469, hf⟩ := gd hf
                    refine g_iast (h' := (wMd σ a th set mir tgt shs shp pls pl (tri + (1 : Int32)) asm (va_up tak (l5 + (1 : Int32)).toNatClampNeg ((tak l5.toNatClampNeg) ||| (q458.2.2.2 l5.toNatClampNeg))) (va_up pld (l5 + (1 : Int32)).toNatClampNeg ((pld l5.toNatClampNeg) ||| ((1 : Int32) <<< ((q458.2.1 l5.toNatClampNeg) &&& 31)))) cel q458.2.1 q458.2.2.1 q458.2.2.2 cbs cub sts stt frm by' wrk oth mvs mov)) C (wL_at 10 rfl) (inB_in g469) (wL_up 10 (Nat.le_of_ble_eq_true rfl) rfl) dX7_search_445 rfl ?_
                    refine g_iinc (v := l5 + (1 : Int32)) (lv' := [(5, .int (l5 + (1 : Int32))), (0, .ref a), (1, .int l1), (2, .int l2), (3, .int l3), (4, .int (l4 + (1 : Int32))), (7, .int q458.1)]) (q := 5) C dX7_search_446 rfl rfl rfl (by rw [hKN]; decide) rfl ?_
                    refine g_aload_n C rfl (q := 1) rfl dX7_search_449 rfl ?_
                    refine g_iload C (q := 0) rfl dX7_search_450 rfl ?_
                    refine g_iload_n C rfl (q := 4) rfl dX7_search_452 rfl ?_
                    obtain ⟨q470, hq470, hf⟩ := bd hf
                    refine g_callV0 (st' := []) (as := [.int (l5 + (1 : Int32)), .int l3]) (st2 := []) (k := 2) C ⟨wm_RX7_138, wn_X7_begins, wv_X7_begins, wi_RX7, wk_X7_begins, by decide +kernel⟩ rfl (wL_at0 rfl) (c_X7_begins (l := kL K) (E := kE K)  _ hq470) (by rw [hKR]; exact ⟨rfl, rfl, ⟨by decide, by decide⟩, Nat.le_refl _, Nat.le_refl _⟩) rfl rfl (by simp) rfl dX7_search_453 rfl ?_
                    refine g_goto (pc' := 72) C dX7_search_456 (by decide) ?_
                    refine g_sub (lv' := [(0, .ref a), (1, .int l1), (2, .int l2), (3, .int l3), (4, .int (l4 + (1 : Int32))), (5, .int (l5 + (1 : Int32)))]) [1, 2, 3, 4, 5, 0] rfl ?_
                    exact ih _ _ _ _ _ _ _ _ _ _ hf hret hx
                  · replace hf := iff' c463 hf
                    refine g_goto (pc' := 72) C dX7_search_393 (by decide) ?_
                    refine g_sub (lv' := [(0, .ref a), (1, .int l1), (2, .int l2), (3, .int l3), (4, .int (l4 + (1 : Int32))), (5, .int l5)]) [0, 1, 2, 3, 4, 5] rfl ?_
                    exact ih _ _ _ _ _ _ _ _ _ _ hf hret hx
                · replace hf := ift c460 hf
                  refine g_aload_n C rfl (q := 0) rfl dX7_search_350 rfl ?_
                  refine g_dup C rfl dX7_search_351 rfl ?_
                  refine g_get C fc_X7 8 (by decide) wf_RX7_135 (wL_at0 rfl) rfl dX7_search_352 rfl ?_
                  refine g_iconst (v := 1) C (by decide) dX7_search_355 rfl ?_
                  refine g_iadd C dX7_search_356 rfl ?_
                  refine g_put (h' := (wMd σ a th set mir tgt shs shp pls pl (tri + (1 : Int32)) asm tak pld cel q458.2.1 q458.2.2.1 q458.2.2.2 cbs cub sts stt frm by' wrk oth mvs mov)) C fc_X7 8 (by decide) wf_RX7_135 rfl rfl rfl (Nat.le_of_ble_eq_true rfl) (wL_at0 rfl) (wL_up0 (Nat.le_of_ble_eq_true rfl) rfl) dX7_search_357 rfl ?_
                  refine g_iload C (q := 4) rfl dX7_search_360 rfl ?_
                  obtain rfl := Option.some.inj hf
                  exact g_iret C (hret (l4 + (1 : Int32), shs, shp, pls, pl, tri + (1 : Int32), tak, pld, cel, q458.2.1, q458.2.2.1, q458.2.2.2) rfl) dX7_search_362
              · replace hf := ift c459 hf
                refine g_iinc (v := l5 + (-1 : Int32)) (lv' := [(5, .int (l5 + (-1 : Int32))), (0, .ref a), (1, .int l1), (2, .int l2), (3, .int l3), (4, .int (l4 + (1 : Int32))), (7, .int q458.1)]) (q := 5) C dX7_search_336 rfl rfl rfl (by rw [hKN]; decide) rfl ?_
                refine g_goto (pc' := 72) C dX7_search_339 (by decide) ?_
                refine g_sub (lv' := [(0, .ref a), (1, .int l1), (2, .int l2), (3, .int l3), (4, .int (l4 + (1 : Int32))), (5, .int (l5 + (-1 : Int32)))]) [1, 2, 3, 4, 5, 0] rfl ?_
                exact ih _ _ _ _ _ _ _ _ _ _ hf hret hx
            · replace hf := ift c457 hf
              refine g_iload C (q := 6) rfl dX7_search_121 rfl ?_
              refine g_ldc C wc_RX7_142 dX7_search_123 rfl ?_
              refine g_iadd C dX7_search_125 rfl ?_
              obtain rfl := Option.some.inj hf
              exact g_iret C (hret (l5 + (1000000 : Int32), shs, shp, pls, pl, tri, tak, pld, cel, pie, nxt, cho) rfl) dX7_search_126
      refine g_icmp_ne (tgt := 92) C dX7_search_85 (by decide) rfl (fun c472 => ?_) (fun c472 => ?_)
      · refine g_iconst (v := 0) C (by decide) dX7_search_92 rfl ?_
        exact g_topI (by rw [if_neg c472]) j471
      · refine g_iconst (v := 1) C (by decide) dX7_search_88 rfl ?_
        refine g_goto (pc' := 93) C dX7_search_89 (by decide) ?_
        exact g_topI (by rw [if_pos c472]) j471
set_option maxHeartbeats 2000000 in
set_option maxRecDepth 20000 in
theorem c_X7_search {l : Launch} {E : Ex} {n : Nat} {σ : AH} {a : Nat}  {th : Int32} {set : Nat → Int64} {mir : Nat → Int32} {tgt : Nat → Int32} {shs : Nat → Int32} {shp : Nat → Int64} {pls : Nat → Int32} {pl : Nat → Int64} {tri : Int32} {asm : Nat → Int64} {tak : Nat → Int64} {pld : Nat → Int32} {cel : Nat → Int32} {pie : Nat → Int32} {nxt : Nat → Int32} {cho : Nat → Int64} {cbs : Nat → Int32} {cub : Nat → Int32} {sts : Int32} {stt : Nat → Int32} {frm : Nat → Int32} {by' : Nat → Int32} {wrk : Nat → Int32} {oth : Nat → Int32} {mvs : Int32} {mov : Nat → Int32} {budget : Int32} {upTo : Int32} {fu : Nat} (res : (Int32 × (Nat → Int32) × (Nat → Int64) × (Nat → Int32) × (Nat → Int64) × Int32 × (Nat → Int64) × (Nat → Int32) × (Nat → Int32) × (Nat → Int32) × (Nat → Int32) × (Nat → Int64))) (hf : f_X7_search fu set mir tgt shs shp pls pl tak pld cel pie nxt cho budget upTo = some res) : Con l E yX7_search (.code yX7_search cX7_search 10 (some .int) :: TT) ({ frames := 4, cells := 0, slots := 0, locals := 109 } : Room) 0 0 [.ref a, .int budget, .int upTo] (wMd σ a th set mir tgt shs shp pls pl tri asm tak pld cel pie nxt cho cbs cub sts stt frm by' wrk oth mvs mov) n (some (.int res.1)) (wMd σ a th set mir tgt res.2.1 res.2.2.1 res.2.2.2.1 res.2.2.2.2.1 res.2.2.2.2.2.1 asm res.2.2.2.2.2.2.1 res.2.2.2.2.2.2.2.1 res.2.2.2.2.2.2.2.2.1 res.2.2.2.2.2.2.2.2.2.1 res.2.2.2.2.2.2.2.2.2.2.1 res.2.2.2.2.2.2.2.2.2.2.2 cbs cub sts stt frm by' wrk oth mvs mov) n := by
  refine con_intro (by decide +kernel) (Nat.le_of_ble_eq_true rfl) ?_
  intro K C hKR hKL hKE hKN hKQ
  subst hKL
  subst hKE
  have C : Cx K RX7 "search" cX7_search (some .int) := C
  show G K 0 0 0 [(0, .ref a), (1, .int budget), (2, .int upTo)] [] (wMd σ a th set mir tgt shs shp pls pl tri asm tak pld cel pie nxt cho cbs cub sts stt frm by' wrk oth mvs mov) n
  unfold f_X7_search at hf
  refine g_iconst (v := 0) C (by decide) dX7_search_0 rfl ?_
  refine g_istore_n (i := 3) (lv' := [(3, .int (0 : Int32)), (0, .ref a), (1, .int budget), (2, .int upTo)]) C dX7_search_1 rfl rfl (by rw [hKN]; decide) rfl ?_
  refine g_iconst (v := 0) C (by decide) dX7_search_2 rfl ?_
  refine g_istore (i := 4) (lv' := [(4, .int (0 : Int32)), (3, .int (0 : Int32)), (0, .ref a), (1, .int budget), (2, .int upTo)]) C dX7_search_3 rfl (by rw [hKN]; decide) rfl ?_
  refine g_sub (lv' := [(0, .ref a), (1, .int budget), (2, .int upTo), (3, .int (0 : Int32)), (4, .int (0 : Int32))]) [2, 3, 4, 1, 0] rfl ?_
  obtain ⟨q13, hq13, hf⟩ := bd hf
  refine g_X7_search_5 (l1 := budget) (l2 := upTo) (th := th) (set := set) (mir := mir) (tgt := tgt) (tri := tri) (asm := asm) (tak := tak) (pld := pld) (cel := cel) (pie := pie) (nxt := nxt) (cho := cho) (cbs := cbs) (cub := cub) (sts := sts) (stt := stt) (frm := frm) (by' := by') (wrk := wrk) (oth := oth) (mvs := mvs) (mov := mov) C hKR hKN _ _ _ _ _ _ _ _ hq13 ?_
  refine g_aload_n C rfl (q := 0) rfl dX7_search_41 rfl ?_
  refine g_iconst (v := 0) C (by decide) dX7_search_42 rfl ?_
  refine g_put (h' := (wMd σ a th set mir tgt q13.2.1 q13.2.2.1 q13.2.2.2.1 q13.2.2.2.2 (0 : Int32) asm tak pld cel pie nxt cho cbs cub sts stt frm by' wrk oth mvs mov)) C fc_X7 8 (by decide) wf_RX7_135 rfl rfl rfl (Nat.le_of_ble_eq_true rfl) (wL_at0 rfl) (wL_up0 (Nat.le_of_ble_eq_true rfl) rfl) dX7_search_43 rfl ?_
  refine g_iconst (v := 0) C (by decide) dX7_search_46 rfl ?_
  refine g_istore (i := 4) (lv' := [(4, .int (0 : Int32)), (0, .ref a), (1, .int budget), (2, .int upTo), (3, .int q13.1)]) C dX7_search_47 rfl (by rw [hKN]; decide) rfl ?_
  refine g_iconst (v := 0) C (by decide) dX7_search_49 rfl ?_
  refine g_istore (i := 5) (lv' := [(5, .int (0 : Int32)), (4, .int (0 : Int32)), (0, .ref a), (1, .int budget), (2, .int upTo), (3, .int q13.1)]) C dX7_search_50 rfl (by rw [hKN]; decide) rfl ?_
  refine g_aload_n C rfl (q := 2) rfl dX7_search_52 rfl ?_
  refine g_get C fc_X7 10 (by decide) wf_RX7_36 (wL_at0 rfl) rfl dX7_search_53 rfl ?_
  refine g_iconst (v := 0) C (by decide) dX7_search_56 rfl ?_
  refine g_lconst (v := 0) C (by decide) dX7_search_57 rfl ?_
  obtain ⟨g14, hf⟩ := gd hf
  refine g_last (h' := (wMd σ a th set mir tgt q13.2.1 q13.2.2.1 q13.2.2.2.1 q13.2.2.2.2 (0 : Int32) asm (va_up tak (0 : Int32).toNatClampNeg (0 : Int64)) pld cel pie nxt cho cbs cub sts stt frm by' wrk oth mvs mov)) C (wL_at 9 rfl) (inB_in g14) (wL_up 9 (Nat.le_of_ble_eq_true rfl) rfl) dX7_search_58 rfl ?_
  refine g_aload_n C rfl (q := 2) rfl dX7_search_59 rfl ?_
  refine g_get C fc_X7 11 (by decide) wf_RX7_39 (wL_at0 rfl) rfl dX7_search_60 rfl ?_
  refine g_iconst (v := 0) C (by decide) dX7_search_63 rfl ?_
  refine g_iconst (v := 0) C (by decide) dX7_search_64 rfl ?_
  obtain ⟨g15, hf⟩ := gd hf
  refine g_iast (h' := (wMd σ a th set mir tgt q13.2.1 q13.2.2.1 q13.2.2.2.1 q13.2.2.2.2 (0 : Int32) asm (va_up tak (0 : Int32).toNatClampNeg (0 : Int64)) (va_up pld (0 : Int32).toNatClampNeg (0 : Int32)) cel pie nxt cho cbs cub sts stt frm by' wrk oth mvs mov)) C (wL_at 10 rfl) (inB_in g15) (wL_up 10 (Nat.le_of_ble_eq_true rfl) rfl) dX7_search_65 rfl ?_
  refine g_aload_n C rfl (q := 2) rfl dX7_search_66 rfl ?_
  refine g_iconst (v := 0) C (by decide) dX7_search_67 rfl ?_
  refine g_iload_n C rfl (q := 5) rfl dX7_search_68 rfl ?_
  obtain ⟨q16, hq16, hf⟩ := bd hf
  refine g_callV0 (st' := []) (as := [.int (0 : Int32), .int q13.1]) (st2 := []) (k := 2) C ⟨wm_RX7_138, wn_X7_begins, wv_X7_begins, wi_RX7, wk_X7_begins, by decide +kernel⟩ rfl (wL_at0 rfl) (c_X7_begins (l := kL K) (E := kE K)  _ hq16) (by rw [hKR]; exact ⟨rfl, rfl, ⟨by decide, by decide⟩, Nat.le_refl _, Nat.le_refl _⟩) rfl rfl (by simp) rfl dX7_search_69 rfl ?_
  refine g_sub (lv' := [(0, .ref a), (1, .int budget), (2, .int upTo), (3, .int q13.1), (4, .int (0 : Int32)), (5, .int (0 : Int32))]) [2, 3, 4, 5, 1, 0] rfl ?_
  obtain ⟨q473, hq473, hf1, hf2⟩ := sb hf
  refine g_X7_search_72 (l1 := budget) (l2 := upTo) (l3 := q13.1) (th := th) (set := set) (mir := mir) (tgt := tgt) (shs := q13.2.1) (shp := q13.2.2.1) (pls := q13.2.2.2.1) (pl := q13.2.2.2.2) (asm := asm) (cbs := cbs) (cub := cub) (sts := sts) (stt := stt) (frm := frm) (by' := by') (wrk := wrk) (oth := oth) (mvs := mvs) (mov := mov) C hKR hKN _ _ _ _ _ _ _ _ _ _ q473 hq473 (fun t474 et474 => ?_) (fun t474 et474 => ?_)
  · obtain rfl := hf1 _ et474
    exact hKQ
  · have hf := hf2 _ et474
    refine g_iload C (q := 0) rfl dX7_search_459 rfl ?_
    obtain rfl := Option.some.inj hf
    exact g_iret C hKQ dX7_search_461
def f_X7_pack (fu : Nat) (set : Nat → Int64) (mir : Nat → Int32) (tgt : Nat → Int32) (shs : Nat → Int32) (shp : Nat → Int64) (pls : Nat → Int32) (pl : Nat → Int64) (tri : Int32) (tak : Nat → Int64) (pld : Nat → Int32) (cel : Nat → Int32) (pie : Nat → Int32) (nxt : Nat → Int32) (cho : Nat → Int64) (budget : Int32) : Option (Int32 × Int32 × (Nat → Int32) × (Nat → Int64) × (Nat → Int32) × (Nat → Int64) × Int32 × (Nat → Int64) × (Nat → Int32) × (Nat → Int32) × (Nat → Int32) × (Nat → Int32) × (Nat → Int64)) := ((f_X7_in budget (1 : Int32) (200000 : Int32)).bind fun q1 => ((f_X7_says q1).bind fun q2 => (if q2.1 = 0 then some ((0 : Int32), q2.2, shs, shp, pls, pl, tri, tak, pld, cel, pie, nxt, cho) else ((f_X7_search fu set mir tgt shs shp pls pl tak pld cel pie nxt cho budget (-1 : Int32)).bind fun q4 => (if budget < q4.2.2.2.2.2.1 then some ((-1 : Int32) - q4.1, q2.2, q4.2.1, q4.2.2.1, q4.2.2.2.1, q4.2.2.2.2.1, budget, q4.2.2.2.2.2.2.1, q4.2.2.2.2.2.2.2.1, q4.2.2.2.2.2.2.2.2.1, q4.2.2.2.2.2.2.2.2.2.1, q4.2.2.2.2.2.2.2.2.2.2.1, q4.2.2.2.2.2.2.2.2.2.2.2) else some (q4.1, q2.2, q4.2.1, q4.2.2.1, q4.2.2.2.1, q4.2.2.2.2.1, q4.2.2.2.2.2.1, q4.2.2.2.2.2.2.1, q4.2.2.2.2.2.2.2.1, q4.2.2.2.2.2.2.2.2.1, q4.2.2.2.2.2.2.2.2.2.1, q4.2.2.2.2.2.2.2.2.2.2.1, q4.2.2.2.2.2.2.2.2.2.2.2))))))
set_option maxHeartbeats 2000000 in
set_option maxRecDepth 20000 in
theorem c_X7_pack {l : Launch} {E : Ex} {n : Nat} {σ : AH} {a : Nat}  {th : Int32} {set : Nat → Int64} {mir : Nat → Int32} {tgt : Nat → Int32} {shs : Nat → Int32} {shp : Nat → Int64} {pls : Nat → Int32} {pl : Nat → Int64} {tri : Int32} {asm : Nat → Int64} {tak : Nat → Int64} {pld : Nat → Int32} {cel : Nat → Int32} {pie : Nat → Int32} {nxt : Nat → Int32} {cho : Nat → Int64} {cbs : Nat → Int32} {cub : Nat → Int32} {sts : Int32} {stt : Nat → Int32} {frm : Nat → Int32} {by' : Nat → Int32} {wrk : Nat → Int32} {oth : Nat → Int32} {mvs : Int32} {mov : Nat → Int32} {budget : Int32} {fu : Nat} (res : (Int32 × Int32 × (Nat → Int32) × (Nat → Int64) × (Nat → Int32) × (Nat → Int64) × Int32 × (Nat → Int64) × (Nat → Int32) × (Nat → Int32) × (Nat → Int32) × (Nat → Int32) × (Nat → Int64))) (hf : f_X7_pack fu set mir tgt shs shp pls pl tri tak pld cel pie nxt cho budget = some res) : Con l E yX7_pack (.code yX7_pack cX7_pack 3 (some .int) :: TT) ({ frames := 5, cells := 0, slots := 0, locals := 138 } : Room) 0 0 [.ref a, .int budget] (wMd σ a th set mir tgt shs shp pls pl tri asm tak pld cel pie nxt cho cbs cub sts stt frm by' wrk oth mvs mov) n (some (.int res.1)) (wMd σ a res.2.1 set mir tgt res.2.2.1 res.2.2.2.1 res.2.2.2.2.1 res.2.2.2.2.2.1 res.2.2.2.2.2.2.1 asm res.2.2.2.2.2.2.2.1 res.2.2.2.2.2.2.2.2.1 res.2.2.2.2.2.2.2.2.2.1 res.2.2.2.2.2.2.2.2.2.2.1 res.2.2.2.2.2.2.2.2.2.2.2.1 res.2.2.2.2.2.2.2.2.2.2.2.2 cbs cub sts stt frm by' wrk oth mvs mov) n := by
  refine con_intro (by decide +kernel) (Nat.le_of_ble_eq_true rfl) ?_
  intro K C hKR hKL hKE hKN hKQ
  subst hKL
  subst hKE
  have C : Cx K RX7 "pack" cX7_pack (some .int) := C
  show G K 0 0 0 [(0, .ref a), (1, .int budget)] [] (wMd σ a th set mir tgt shs shp pls pl tri asm tak pld cel pie nxt cho cbs cub sts stt frm by' wrk oth mvs mov) n
  unfold f_X7_pack at hf
  refine g_aload_n C rfl (q := 0) rfl dX7_pack_0 rfl ?_
  refine g_iload_n C rfl (q := 1) rfl dX7_pack_1 rfl ?_
  refine g_iconst (v := 1) C (by decide) dX7_pack_2 rfl ?_
  refine g_ldc C wc_RX7_143 dX7_pack_3 rfl ?_
  obtain ⟨q1, hq1, hf⟩ := bd hf
  refine g_callS0 (st' := [.ref a]) (as := [.int budget, .int (1 : Int32), .int (200000 : Int32)]) (st2 := [.int q1, .ref a]) (k := 3) C ⟨wm_RX7_88, ws_X7_in, wi_RX7, wk_X7_in, by decide +kernel⟩ (c_X7_in (l := kL K) (E := kE K)  _ hq1) (by rw [hKR]; exact ⟨rfl, rfl, ⟨by decide, by decide⟩, Nat.le_refl _, Nat.le_refl _⟩) rfl rfl (by simp [Value.category]) rfl dX7_pack_5 rfl ?_
  obtain ⟨q2, hq2, hf⟩ := bd hf
  refine g_callV0 (st' := []) (as := [.int q1]) (st2 := [.int q2.1]) (k := 1) C ⟨wm_RX7_96, wn_X7_says, wv_X7_says, wi_RX7, wk_X7_says, by decide +kernel⟩ rfl (wL_at0 rfl) (c_X7_says (l := kL K) (E := kE K)  _ hq2) (by rw [hKR]; exact ⟨rfl, rfl, ⟨by decide, by decide⟩, Nat.le_refl _, Nat.le_refl _⟩) rfl rfl (by simp) rfl dX7_pack_8 rfl ?_
  refine g_if_ne (tgt := 16) C dX7_pack_11 (by decide) rfl (fun c3 => ?_) (fun c3 => ?_)
  · replace hf := iff' c3 hf
    refine g_aload_n C rfl (q := 0) rfl dX7_pack_16 rfl ?_
    refine g_iload_n C rfl (q := 1) rfl dX7_pack_17 rfl ?_
    refine g_iconst (v := (-1)) C (by decide) dX7_pack_18 rfl ?_
    obtain ⟨q4, hq4, hf⟩ := bd hf
    refine g_callV0 (st' := []) (as := [.int budget, .int (-1 : Int32)]) (st2 := [.int q4.1]) (k := 2) C ⟨wm_RX7_144, wn_X7_search, wv_X7_search, wi_RX7, wk_X7_search, by decide +kernel⟩ rfl (wL_at0 rfl) (c_X7_search (l := kL K) (E := kE K)  _ hq4) (by rw [hKR]; exact ⟨rfl, rfl, ⟨by decide, by decide⟩, Nat.le_refl _, Nat.le_refl _⟩) rfl rfl (by simp) rfl dX7_pack_19 rfl ?_
    refine g_istore_n (i := 2) (lv' := [(2, .int q4.1), (0, .ref a), (1, .int budget)]) C dX7_pack_22 rfl rfl (by rw [hKN]; decide) rfl ?_
    refine g_aload_n C rfl (q := 1) rfl dX7_pack_23 rfl ?_
    refine g_get C fc_X7 8 (by decide) wf_RX7_135 (wL_at0 rfl) rfl dX7_pack_24 rfl ?_
    refine g_iload_n C rfl (q := 2) rfl dX7_pack_27 rfl ?_
    refine g_icmp_gt (tgt := 33) C dX7_pack_28 (by decide) rfl (fun c5 => ?_) (fun c5 => ?_)
    · replace hf := ift c5 hf
      refine g_aload_n C rfl (q := 1) rfl dX7_pack_33 rfl ?_
      refine g_iload_n C rfl (q := 2) rfl dX7_pack_34 rfl ?_
      refine g_put (h' := (wMd σ a q2.2 set mir tgt q4.2.1 q4.2.2.1 q4.2.2.2.1 q4.2.2.2.2.1 budget asm q4.2.2.2.2.2.2.1 q4.2.2.2.2.2.2.2.1 q4.2.2.2.2.2.2.2.2.1 q4.2.2.2.2.2.2.2.2.2.1 q4.2.2.2.2.2.2.2.2.2.2.1 q4.2.2.2.2.2.2.2.2.2.2.2 cbs cub sts stt frm by' wrk oth mvs mov)) C fc_X7 8 (by decide) wf_RX7_135 rfl rfl rfl (Nat.le_of_ble_eq_true rfl) (wL_at0 rfl) (wL_up0 (Nat.le_of_ble_eq_true rfl) rfl) dX7_pack_35 rfl ?_
      refine g_iconst (v := (-1)) C (by decide) dX7_pack_38 rfl ?_
      refine g_iload_n C rfl (q := 0) rfl dX7_pack_39 rfl ?_
      refine g_isub C dX7_pack_40 rfl ?_
      obtain rfl := Option.some.inj hf
      exact g_iret C hKQ dX7_pack_41
    · replace hf := iff' c5 hf
      refine g_iload_n C rfl (q := 0) rfl dX7_pack_31 rfl ?_
      obtain rfl := Option.some.inj hf
      exact g_iret C hKQ dX7_pack_32
  · replace hf := ift c3 hf
    refine g_iconst (v := 0) C (by decide) dX7_pack_14 rfl ?_
    obtain rfl := Option.some.inj hf
    exact g_iret C hKQ dX7_pack_15
def f_X7_tries (tri : Int32) : Option (Int32 × Int32) := some (tri, (0 : Int32))
set_option maxHeartbeats 2000000 in
set_option maxRecDepth 20000 in
theorem c_X7_tries {l : Launch} {E : Ex} {n : Nat} {σ : AH} {a : Nat}  {th : Int32} {set : Nat → Int64} {mir : Nat → Int32} {tgt : Nat → Int32} {shs : Nat → Int32} {shp : Nat → Int64} {pls : Nat → Int32} {pl : Nat → Int64} {tri : Int32} {asm : Nat → Int64} {tak : Nat → Int64} {pld : Nat → Int32} {cel : Nat → Int32} {pie : Nat → Int32} {nxt : Nat → Int32} {cho : Nat → Int64} {cbs : Nat → Int32} {cub : Nat → Int32} {sts : Int32} {stt : Nat → Int32} {frm : Nat → Int32} {by' : Nat → Int32} {wrk : Nat → Int32} {oth : Nat → Int32} {mvs : Int32} {mov : Nat → Int32}  (res : (Int32 × Int32)) (hf : f_X7_tries tri = some res) : Con l E yX7_tries (.code yX7_tries cX7_tries 1 (some .int) :: TT) ({ frames := 0, cells := 0, slots := 0, locals := 0 } : Room) 0 0 [.ref a] (wMd σ a th set mir tgt shs shp pls pl tri asm tak pld cel pie nxt cho cbs cub sts stt frm by' wrk oth mvs mov) n (some (.int res.1)) (wMd σ a res.2 set mir tgt shs shp pls pl tri asm tak pld cel pie nxt cho cbs cub sts stt frm by' wrk oth mvs mov) n := by
  refine con_intro (by decide +kernel) (Nat.le_of_ble_eq_true rfl) ?_
  intro K C hKR hKL hKE hKN hKQ
  subst hKL
  subst hKE
  have C : Cx K RX7 "tries" cX7_tries (some .int) := C
  show G K 0 0 0 [(0, .ref a)] [] (wMd σ a th set mir tgt shs shp pls pl tri asm tak pld cel pie nxt cho cbs cub sts stt frm by' wrk oth mvs mov) n
  unfold f_X7_tries at hf
  refine g_aload_n C rfl (q := 0) rfl dX7_tries_0 rfl ?_
  refine g_iconst (v := 0) C (by decide) dX7_tries_1 rfl ?_
  refine g_put (h' := (wMd σ a (0 : Int32) set mir tgt shs shp pls pl tri asm tak pld cel pie nxt cho cbs cub sts stt frm by' wrk oth mvs mov)) C fc_X7 0 (by decide) wf_RX7_78 rfl rfl rfl (Nat.le_of_ble_eq_true rfl) (wL_at0 rfl) (wL_up0 (Nat.le_of_ble_eq_true rfl) rfl) dX7_tries_2 rfl ?_
  refine g_aload_n C rfl (q := 0) rfl dX7_tries_5 rfl ?_
  refine g_get C fc_X7 8 (by decide) wf_RX7_135 (wL_at0 rfl) rfl dX7_tries_6 rfl ?_
  obtain rfl := Option.some.inj hf
  exact g_iret C hKQ dX7_tries_9
def f_X7_assemble_60   : Nat → Int32 → (Nat → Int64) → Option (Nat → Int64)
  | 0, _, _ => none
  | fu + 1, l4, asm => (if (6 : Int32) ≤ l4 then some asm else (if inB l4 6 = true then f_X7_assemble_60  fu (l4 + (1 : Int32)) (va_up asm l4.toNatClampNeg (0 : Int64)) else none))
def f_X7_assemble_84  (l3 : Int32) (pie : Nat → Int32) (cho : Nat → Int64) : Nat → Int32 → (Nat → Int64) → Option (Nat → Int64)
  | 0, _, _ => none
  | fu + 1, l4, asm => (if l3 ≤ l4 then some asm else (if inB l4 7 = true then (if inB l4 7 = true then (if inB (pie l4.toNatClampNeg) 6 = true then f_X7_assemble_84 l3 pie cho fu (l4 + (1 : Int32)) (va_up asm (pie l4.toNatClampNeg).toNatClampNeg (cho l4.toNatClampNeg)) else none) else none) else none))
def f_X7_assemble (fu : Nat) (set : Nat → Int64) (mir : Nat → Int32) (tgt : Nat → Int32) (shs : Nat → Int32) (shp : Nat → Int64) (pls : Nat → Int32) (pl : Nat → Int64) (tri : Int32) (asm : Nat → Int64) (tak : Nat → Int64) (pld : Nat → Int32) (cel : Nat → Int32) (pie : Nat → Int32) (nxt : Nat → Int32) (cho : Nat → Int64) (k : Int32) (budget : Int32) : Option (Int32 × Int32 × (Nat → Int32) × (Nat → Int64) × (Nat → Int32) × (Nat → Int64) × Int32 × (Nat → Int64) × (Nat → Int64) × (Nat → Int32) × (Nat → Int32) × (Nat → Int32) × (Nat → Int32) × (Nat → Int64)) := (if k < 0 then ((f_X7_says (0 : Int32)).bind fun q2 => (if q2.1 = 0 then some ((0 : Int32), q2.2, shs, shp, pls, pl, tri, asm, tak, pld, cel, pie, nxt, cho) else ((f_X7_search fu set mir tgt shs shp pls pl tak pld cel pie nxt cho budget k).bind fun q4 => (if q4.2.2.2.2.2.1 ≤ budget then (if 0 ≤ (q4.1 - (1000000 : Int32)) then ((f_X7_assemble_60  fu (0 : Int32) asm).bind fun q13 => ((f_X7_assemble_84 (q4.1 - (1000000 : Int32)) q4.2.2.2.2.2.2.2.2.2.1 q4.2.2.2.2.2.2.2.2.2.2.2 fu (0 : Int32) q13).bind fun q26 => some ((1 : Int32), q2.2, q4.2.1, q4.2.2.1, q4.2.2.2.1, q4.2.2.2.2.1, q4.2.2.2.2.2.1, q26, q4.2.2.2.2.2.2.1, q4.2.2.2.2.2.2.2.1, q4.2.2.2.2.2.2.2.2.1, q4.2.2.2.2.2.2.2.2.2.1, q4.2.2.2.2.2.2.2.2.2.2.1, q4.2.2.2.2.2.2.2.2.2.2.2))) else some ((0 : Int32), q2.2, q4.2.1, q4.2.2.1, q4.2.2.2.1, q4.2.2.2.2.1, q4.2.2.2.2.2.1, asm, q4.2.2.2.2.2.2.1, q4.2.2.2.2.2.2.2.1, q4.2.2.2.2.2.2.2.2.1, q4.2.2.2.2.2.2.2.2.2.1, q4.2.2.2.2.2.2.2.2.2.2.1, q4.2.2.2.2.2.2.2.2.2.2.2)) else (if 0 ≤ (q4.1 - (1000000 : Int32)) then ((f_X7_assemble_60  fu (0 : Int32) asm).bind fun q28 => ((f_X7_assemble_84 (q4.1 - (1000000 : Int32)) q4.2.2.2.2.2.2.2.2.2.1 q4.2.2.2.2.2.2.2.2.2.2.2 fu (0 : Int32) q28).bind fun q29 => some ((1 : Int32), q2.2, q4.2.1, q4.2.2.1, q4.2.2.2.1, q4.2.2.2.2.1, budget, q29, q4.2.2.2.2.2.2.1, q4.2.2.2.2.2.2.2.1, q4.2.2.2.2.2.2.2.2.1, q4.2.2.2.2.2.2.2.2.2.1, q4.2.2.2.2.2.2.2.2.2.2.1, q4.2.2.2.2.2.2.2.2.2.2.2))) else some ((0 : Int32), q2.2, q4.2.1, q4.2.2.1, q4.2.2.2.1, q4.2.2.2.2.1, budget, asm, q4.2.2.2.2.2.2.1, q4.2.2.2.2.2.2.2.1, q4.2.2.2.2.2.2.2.2.1, q4.2.2.2.2.2.2.2.2.2.1, q4.2.2.2.2.2.2.2.2.2.2.1, q4.2.2.2.2.2.2.2.2.2.2.2)))))) else ((f_X7_in budget (1 : Int32) (200000 : Int32)).bind fun q30 => ((f_X7_says (if q30 = 0 then (0 : Int32) else (1 : Int32))).bind fun q31 => (if q31.1 = 0 then some ((0 : Int32), q31.2, shs, shp, pls, pl, tri, asm, tak, pld, cel, pie, nxt, cho) else ((f_X7_search fu set mir tgt shs shp pls pl tak pld cel pie nxt cho budget k).bind fun q33 => (if q33.2.2.2.2.2.1 ≤ budget then (if 0 ≤ (q33.1 - (1000000 : Int32)) then ((f_X7_assemble_60  fu (0 : Int32) asm).bind fun q36 => ((f_X7_assemble_84 (q33.1 - (1000000 : Int32)) q33.2.2.2.2.2.2.2.2.2.1 q33.2.2.2.2.2.2.2.2.2.2.2 fu (0 : Int32) q36).bind fun q37 => some ((1 : Int32), q31.2, q33.2.1, q33.2.2.1, q33.2.2.2.1, q33.2.2.2.2.1, q33.2.2.2.2.2.1, q37, q33.2.2.2.2.2.2.1, q33.2.2.2.2.2.2.2.1, q33.2.2.2.2.2.2.2.2.1, q33.2.2.2.2.2.2.2.2.2.1, q33.2.2.2.2.2.2.2.2.2.2.1, q33.2.2.2.2.2.2.2.2.2.2.2))) else some ((0 : Int32), q31.2, q33.2.1, q33.2.2.1, q33.2.2.2.1, q33.2.2.2.2.1, q33.2.2.2.2.2.1, asm, q33.2.2.2.2.2.2.1, q33.2.2.2.2.2.2.2.1, q33.2.2.2.2.2.2.2.2.1, q33.2.2.2.2.2.2.2.2.2.1, q33.2.2.2.2.2.2.2.2.2.2.1, q33.2.2.2.2.2.2.2.2.2.2.2)) else (if 0 ≤ (q33.1 - (1000000 : Int32)) then ((f_X7_assemble_60  fu (0 : Int32) asm).bind fun q39 => ((f_X7_assemble_84 (q33.1 - (1000000 : Int32)) q33.2.2.2.2.2.2.2.2.2.1 q33.2.2.2.2.2.2.2.2.2.2.2 fu (0 : Int32) q39).bind fun q40 => some ((1 : Int32), q31.2, q33.2.1, q33.2.2.1, q33.2.2.2.1, q33.2.2.2.2.1, budget, q40, q33.2.2.2.2.2.2.1, q33.2.2.2.2.2.2.2.1, q33.2.2.2.2.2.2.2.2.1, q33.2.2.2.2.2.2.2.2.2.1, q33.2.2.2.2.2.2.2.2.2.2.1, q33.2.2.2.2.2.2.2.2.2.2.2))) else some ((0 : Int32), q31.2, q33.2.1, q33.2.2.1, q33.2.2.2.1, q33.2.2.2.2.1, budget, asm, q33.2.2.2.2.2.2.1, q33.2.2.2.2.2.2.2.1, q33.2.2.2.2.2.2.2.2.1, q33.2.2.2.2.2.2.2.2.2.1, q33.2.2.2.2.2.2.2.2.2.2.1, q33.2.2.2.2.2.2.2.2.2.2.2))))))))
set_option maxHeartbeats 2000000 in
set_option maxRecDepth 20000 in
theorem g_X7_assemble_60 {K : KX} {n : Nat} {σ : AH} {a : Nat}  {l3 : Int32} {th : Int32} {set : Nat → Int64} {mir : Nat → Int32} {tgt : Nat → Int32} {shs : Nat → Int32} {shp : Nat → Int64} {pls : Nat → Int32} {pl : Nat → Int64} {tri : Int32} {tak : Nat → Int64} {pld : Nat → Int32} {cel : Nat → Int32} {pie : Nat → Int32} {nxt : Nat → Int32} {cho : Nat → Int64} {cbs : Nat → Int32} {cub : Nat → Int32} {sts : Int32} {stt : Nat → Int32} {frm : Nat → Int32} {by' : Nat → Int32} {wrk : Nat → Int32} {oth : Nat → Int32} {mvs : Int32} {mov : Nat → Int32} (C : Cx K RX7 "assemble" cX7_assemble (some .boolean)) (hKR : kR K = ({ frames := 5, cells := 0, slots := 0, locals := 138 } : Room)) (hKN : kN K = 5) : ∀ (fu : Nat) (l4 : Int32) (asm : Nat → Int64) (res : (Nat → Int64)), f_X7_assemble_60  fu l4 asm = some res → G K 0 0 81 [(0, .ref a), (3, .int l3)] [] (wMd σ a th set mir tgt shs shp pls pl tri res tak pld cel pie nxt cho cbs cub sts stt frm by' wrk oth mvs mov) n → G K 0 0 60 [(0, .ref a), (3, .int l3), (4, .int l4)] [] (wMd σ a th set mir tgt shs shp pls pl tri asm tak pld cel pie nxt cho cbs cub sts stt frm by' wrk oth mvs mov) n := by
  intro fu
  induction fu with
  | zero =>
    intro l4 asm res hf
    exact absurd hf (by simp [f_X7_assemble_60])
  | succ fu ih =>
    intro l4 asm res hf hx
    rw [f_X7_assemble_60] at hf
    refine g_iload C (q := 2) rfl dX7_assemble_60 rfl ?_
    refine g_bipush (v := 6) C (by decide) dX7_assemble_62 rfl ?_
    refine g_icmp_ge (tgt := 81) C dX7_assemble_64 (by decide) rfl (fun c11 => ?_) (fun c11 => ?_)
    · replace hf := ift c11 hf
      obtain rfl := Option.some.inj hf
      refine g_sub (lv' := [(0, .ref a), (3, .int l3)]) [0, 1] rfl ?_
      exact hx
    · replace hf := iff' c11 hf
      refine g_aload_n C rfl (q := 0) rfl dX7_assemble_67 rfl ?_
      refine g_get C fc_X7 9 (by decide) wf_RX7_33 (wL_at0 rfl) rfl dX7_assemble_68 rfl ?_
      refine g_iload C (q := 2) rfl dX7_assemble_71 rfl ?_
      refine g_lconst (v := 0) C (by decide) dX7_assemble_73 rfl ?_
      obtain ⟨g12, hf⟩ := gd hf
      refine g_last (h' := (wMd σ a th set mir tgt shs shp pls pl tri (va_up asm l4.toNatClampNeg (0 : Int64)) tak pld cel pie nxt cho cbs cub sts stt frm by' wrk oth mvs mov)) C (wL_at 8 rfl) (inB_in g12) (wL_up 8 (Nat.le_of_ble_eq_true rfl) rfl) dX7_assemble_74 rfl ?_
      refine g_iinc (v := l4 + (1 : Int32)) (lv' := [(4, .int (l4 + (1 : Int32))), (0, .ref a), (3, .int l3)]) (q := 2) C dX7_assemble_75 rfl rfl rfl (by rw [hKN]; decide) rfl ?_
      refine g_goto (pc' := 60) C dX7_assemble_78 (by decide) ?_
      refine g_sub (lv' := [(0, .ref a), (3, .int l3), (4, .int (l4 + (1 : Int32)))]) [1, 2, 0] rfl ?_
      exact ih _ _ _ hf hx
set_option maxHeartbeats 2000000 in
set_option maxRecDepth 20000 in
theorem g_X7_assemble_84 {K : KX} {n : Nat} {σ : AH} {a : Nat}  {l3 : Int32} {th : Int32} {set : Nat → Int64} {mir : Nat → Int32} {tgt : Nat → Int32} {shs : Nat → Int32} {shp : Nat → Int64} {pls : Nat → Int32} {pl : Nat → Int64} {tri : Int32} {tak : Nat → Int64} {pld : Nat → Int32} {cel : Nat → Int32} {pie : Nat → Int32} {nxt : Nat → Int32} {cho : Nat → Int64} {cbs : Nat → Int32} {cub : Nat → Int32} {sts : Int32} {stt : Nat → Int32} {frm : Nat → Int32} {by' : Nat → Int32} {wrk : Nat → Int32} {oth : Nat → Int32} {mvs : Int32} {mov : Nat → Int32} (C : Cx K RX7 "assemble" cX7_assemble (some .boolean)) (hKR : kR K = ({ frames := 5, cells := 0, slots := 0, locals := 138 } : Room)) (hKN : kN K = 5) : ∀ (fu : Nat) (l4 : Int32) (asm : Nat → Int64) (res : (Nat → Int64)), f_X7_assemble_84 l3 pie cho fu l4 asm = some res → G K 0 0 115 [] [] (wMd σ a th set mir tgt shs shp pls pl tri res tak pld cel pie nxt cho cbs cub sts stt frm by' wrk oth mvs mov) n → G K 0 0 84 [(0, .ref a), (3, .int l3), (4, .int l4)] [] (wMd σ a th set mir tgt shs shp pls pl tri asm tak pld cel pie nxt cho cbs cub sts stt frm by' wrk oth mvs mov) n := by
  intro fu
  induction fu with
  | zero =>
    intro l4 asm res hf
    exact absurd hf (by simp [f_X7_assemble_84])
  | succ fu ih =>
    intro l4 asm res hf hx
    rw [f_X7_assemble_84] at hf
    refine g_iload C (q := 2) rfl dX7_assemble_84 rfl ?_
    refine g_iload_n C rfl (q := 1) rfl dX7_assemble_86 rfl ?_
    refine g_icmp_ge (tgt := 115) C dX7_assemble_87 (by decide) rfl (fun c22 => ?_) (fun c22 => ?_)
    · replace hf := ift c22 hf
      obtain rfl := Option.some.inj hf
      refine g_sub (lv' := []) [] rfl ?_
      exact hx
    · replace hf := iff' c22 hf
      refine g_aload_n C rfl (q := 0) rfl dX7_assemble_90 rfl ?_
      refine g_get C fc_X7 9 (by decide) wf_RX7_33 (wL_at0 rfl) rfl dX7_assemble_91 rfl ?_
      refine g_aload_n C rfl (q := 0) rfl dX7_assemble_94 rfl ?_
      refine g_get C fc_X7 13 (by decide) wf_RX7_45 (wL_at0 rfl) rfl dX7_assemble_95 rfl ?_
      refine g_iload C (q := 2) rfl dX7_assemble_98 rfl ?_
      obtain ⟨g23, hf⟩ := gd hf
      refine g_iald C (wL_at 12 rfl) (inB_in g23) dX7_assemble_100 rfl ?_
      refine g_aload_n C rfl (q := 0) rfl dX7_assemble_101 rfl ?_
      refine g_get C fc_X7 15 (by decide) wf_RX7_51 (wL_at0 rfl) rfl dX7_assemble_102 rfl ?_
      refine g_iload C (q := 2) rfl dX7_assemble_105 rfl ?_
      obtain ⟨g24, hf⟩ := gd hf
      refine g_lald C (wL_at 14 rfl) (inB_in g24) dX7_assemble_107 rfl ?_
      obtain ⟨g25, hf⟩ := gd hf
      refine g_last (h' := (wMd σ a th set mir tgt shs shp pls pl tri (va_up asm (pie l4.toNatClampNeg).toNatClampNeg (cho l4.toNatClampNeg)) tak pld cel pie nxt cho cbs cub sts stt frm by' wrk oth mvs mov)) C (wL_at 8 rfl) (inB_in g25) (wL_up 8 (Nat.le_of_ble_eq_true rfl) rfl) dX7_assemble_108 rfl ?_
      refine g_iinc (v := l4 + (1 : Int32)) (lv' := [(4, .int (l4 + (1 : Int32))), (0, .ref a), (3, .int l3)]) (q := 2) C dX7_assemble_109 rfl rfl rfl (by rw [hKN]; decide) rfl ?_
      refine g_goto (pc' := 84) C dX7_assemble_112 (by decide) ?_
      refine g_sub (lv' := [(0, .ref a), (3, .int l3), (4, .int (l4 + (1 : Int32)))]) [1, 2, 0] rfl ?_
      exact ih _ _ _ hf hx
set_option maxHeartbeats 2000000 in
set_option maxRecDepth 20000 in
theorem c_X7_assemble {l : Launch} {E : Ex} {n : Nat} {σ : AH} {a : Nat}  {th : Int32} {set : Nat → Int64} {mir : Nat → Int32} {tgt : Nat → Int32} {shs : Nat → Int32} {shp : Nat → Int64} {pls : Nat → Int32} {pl : Nat → Int64} {tri : Int32} {asm : Nat → Int64} {tak : Nat → Int64} {pld : Nat → Int32} {cel : Nat → Int32} {pie : Nat → Int32} {nxt : Nat → Int32} {cho : Nat → Int64} {cbs : Nat → Int32} {cub : Nat → Int32} {sts : Int32} {stt : Nat → Int32} {frm : Nat → Int32} {by' : Nat → Int32} {wrk : Nat → Int32} {oth : Nat → Int32} {mvs : Int32} {mov : Nat → Int32} {k : Int32} {budget : Int32} {fu : Nat} (res : (Int32 × Int32 × (Nat → Int32) × (Nat → Int64) × (Nat → Int32) × (Nat → Int64) × Int32 × (Nat → Int64) × (Nat → Int64) × (Nat → Int32) × (Nat → Int32) × (Nat → Int32) × (Nat → Int32) × (Nat → Int64))) (hf : f_X7_assemble fu set mir tgt shs shp pls pl tri asm tak pld cel pie nxt cho k budget = some res) : Con l E yX7_assemble (.code yX7_assemble cX7_assemble 5 (some .boolean) :: TT) ({ frames := 5, cells := 0, slots := 0, locals := 138 } : Room) 0 0 [.ref a, .int k, .int budget] (wMd σ a th set mir tgt shs shp pls pl tri asm tak pld cel pie nxt cho cbs cub sts stt frm by' wrk oth mvs mov) n (some (.int res.1)) (wMd σ a res.2.1 set mir tgt res.2.2.1 res.2.2.2.1 res.2.2.2.2.1 res.2.2.2.2.2.1 res.2.2.2.2.2.2.1 res.2.2.2.2.2.2.2.1 res.2.2.2.2.2.2.2.2.1 res.2.2.2.2.2.2.2.2.2.1 res.2.2.2.2.2.2.2.2.2.2.1 res.2.2.2.2.2.2.2.2.2.2.2.1 res.2.2.2.2.2.2.2.2.2.2.2.2.1 res.2.2.2.2.2.2.2.2.2.2.2.2.2 cbs cub sts stt frm by' wrk oth mvs mov) n := by
  refine con_intro (by decide +kernel) (Nat.le_of_ble_eq_true rfl) ?_
  intro K C hKR hKL hKE hKN hKQ
  subst hKL
  subst hKE
  have C : Cx K RX7 "assemble" cX7_assemble (some .boolean) := C
  show G K 0 0 0 [(0, .ref a), (1, .int k), (2, .int budget)] [] (wMd σ a th set mir tgt shs shp pls pl tri asm tak pld cel pie nxt cho cbs cub sts stt frm by' wrk oth mvs mov) n
  unfold f_X7_assemble at hf
  refine g_aload_n C rfl (q := 0) rfl dX7_assemble_0 rfl ?_
  refine g_iload_n C rfl (q := 1) rfl dX7_assemble_1 rfl ?_
  refine g_if_lt (tgt := 19) C dX7_assemble_2 (by decide) rfl (fun c1 => ?_) (fun c1 => ?_)
  · replace hf := ift c1 hf
    refine g_iconst (v := 0) C (by decide) dX7_assemble_19 rfl ?_
    obtain ⟨q2, hq2, hf⟩ := bd hf
    refine g_callV0 (st' := []) (as := [.int (0 : Int32)]) (st2 := [.int q2.1]) (k := 1) C ⟨wm_RX7_96, wn_X7_says, wv_X7_says, wi_RX7, wk_X7_says, by decide +kernel⟩ rfl (wL_at0 rfl) (c_X7_says (l := kL K) (E := kE K)  _ hq2) (by rw [hKR]; exact ⟨rfl, rfl, ⟨by decide, by decide⟩, Nat.le_refl _, Nat.le_refl _⟩) rfl rfl (by simp) rfl dX7_assemble_20 rfl ?_
    refine g_if_ne (tgt := 28) C dX7_assemble_23 (by decide) rfl (fun c3 => ?_) (fun c3 => ?_)
    · replace hf := iff' c3 hf
      refine g_aload_n C rfl (q := 0) rfl dX7_assemble_28 rfl ?_
      refine g_iload_n C rfl (q := 2) rfl dX7_assemble_29 rfl ?_
      refine g_iload_n C rfl (q := 1) rfl dX7_assemble_30 rfl ?_
      obtain ⟨q4, hq4, hf⟩ := bd hf
      refine g_callV0 (st' := []) (as := [.int budget, .int k]) (st2 := [.int q4.1]) (k := 2) C ⟨wm_RX7_144, wn_X7_search, wv_X7_search, wi_RX7, wk_X7_search, by decide +kernel⟩ rfl (wL_at0 rfl) (c_X7_search (l := kL K) (E := kE K)  _ hq4) (by rw [hKR]; exact ⟨rfl, rfl, ⟨by decide, by decide⟩, Nat.le_refl _, Nat.le_refl _⟩) rfl rfl (by simp) rfl dX7_assemble_31 rfl ?_
      refine g_ldc C wc_RX7_142 dX7_assemble_34 rfl ?_
      refine g_isub C dX7_assemble_36 rfl ?_
      refine g_istore_n (i := 3) (lv' := [(3, .int (q4.1 - (1000000 : Int32))), (0, .ref a), (1, .int k), (2, .int budget)]) C dX7_assemble_37 rfl rfl (by rw [hKN]; decide) rfl ?_
      refine g_aload_n C rfl (q := 1) rfl dX7_assemble_38 rfl ?_
      refine g_get C fc_X7 8 (by decide) wf_RX7_135 (wL_at0 rfl) rfl dX7_assemble_39 rfl ?_
      refine g_iload_n C rfl (q := 3) rfl dX7_assemble_42 rfl ?_
      refine g_icmp_le (tgt := 51) C dX7_assemble_43 (by decide) rfl (fun c5 => ?_) (fun c5 => ?_)
      · replace hf := ift c5 hf
        refine g_iload_n C rfl (q := 0) rfl dX7_assemble_51 rfl ?_
        refine g_if_ge (tgt := 57) C dX7_assemble_52 (by decide) rfl (fun c6 => ?_) (fun c6 => ?_)
        · replace hf := ift c6 hf
          refine g_iconst (v := 0) C (by decide) dX7_assemble_57 rfl ?_
          refine g_istore (i := 4) (lv' := [(4, .int (0 : Int32)), (3, .int (q4.1 - (1000000 : Int32))), (0, .ref a), (1, .int k), (2, .int budget)]) C dX7_assemble_58 rfl (by rw [hKN]; decide) rfl ?_
          refine g_sub (lv' := [(0, .ref a), (3, .int (q4.1 - (1000000 : Int32))), (4, .int (0 : Int32))]) [2, 1, 0] rfl ?_
          obtain ⟨q13, hq13, hf⟩ := bd hf
          refine g_X7_assemble_60 (l3 := q4.1 - (1000000 : Int32)) (th := q2.2) (set := set) (mir := mir) (tgt := tgt) (shs := q4.2.1) (shp := q4.2.2.1) (pls := q4.2.2.2.1) (pl := q4.2.2.2.2.1) (tri := q4.2.2.2.2.2.1) (tak := q4.2.2.2.2.2.2.1) (pld := q4.2.2.2.2.2.2.2.1) (cel := q4.2.2.2.2.2.2.2.2.1) (pie := q4.2.2.2.2.2.2.2.2.2.1) (nxt := q4.2.2.2.2.2.2.2.2.2.2.1) (cho := q4.2.2.2.2.2.2.2.2.2.2.2) (cbs := cbs) (cub := cub) (sts := sts) (stt := stt) (frm := frm) (by' := by') (wrk := wrk) (oth := oth) (mvs := mvs) (mov := mov) C hKR hKN _ _ _ _ hq13 ?_
          refine g_iconst (v := 0) C (by decide) dX7_assemble_81 rfl ?_
          refine g_istore (i := 4) (lv' := [(4, .int (0 : Int32)), (0, .ref a), (3, .int (q4.1 - (1000000 : Int32)))]) C dX7_assemble_82 rfl (by rw [hKN]; decide) rfl ?_
          refine g_sub (lv' := [(0, .ref a), (3, .int (q4.1 - (1000000 : Int32))), (4, .int (0 : Int32))]) [1, 2, 0] rfl ?_
          obtain ⟨q26, hq26, hf⟩ := bd hf
          refine g_X7_assemble_84 (l3 := q4.1 - (1000000 : Int32)) (th := q2.2) (set := set) (mir := mir) (tgt := tgt) (shs := q4.2.1) (shp := q4.2.2.1) (pls := q4.2.2.2.1) (pl := q4.2.2.2.2.1) (tri := q4.2.2.2.2.2.1) (tak := q4.2.2.2.2.2.2.1) (pld := q4.2.2.2.2.2.2.2.1) (cel := q4.2.2.2.2.2.2.2.2.1) (pie := q4.2.2.2.2.2.2.2.2.2.1) (nxt := q4.2.2.2.2.2.2.2.2.2.2.1) (cho := q4.2.2.2.2.2.2.2.2.2.2.2) (cbs := cbs) (cub := cub) (sts := sts) (stt := stt) (frm := frm) (by' := by') (wrk := wrk) (oth := oth) (mvs := mvs) (mov := mov) C hKR hKN _ _ _ _ hq26 ?_
          refine g_iconst (v := 1) C (by decide) dX7_assemble_115 rfl ?_
          obtain rfl := Option.some.inj hf
          exact g_zret C rfl hKQ dX7_assemble_116
        · replace hf := iff' c6 hf
          refine g_iconst (v := 0) C (by decide) dX7_assemble_55 rfl ?_
          obtain rfl := Option.some.inj hf
          exact g_zret C rfl hKQ dX7_assemble_56
      · replace hf := iff' c5 hf
        refine g_aload_n C rfl (q := 1) rfl dX7_assemble_46 rfl ?_
        refine g_iload_n C rfl (q := 3) rfl dX7_assemble_47 rfl ?_
        refine g_put (h' := (wMd σ a q2.2 set mir tgt q4.2.1 q4.2.2.1 q4.2.2.2.1 q4.2.2.2.2.1 budget asm q4.2.2.2.2.2.2.1 q4.2.2.2.2.2.2.2.1 q4.2.2.2.2.2.2.2.2.1 q4.2.2.2.2.2.2.2.2.2.1 q4.2.2.2.2.2.2.2.2.2.2.1 q4.2.2.2.2.2.2.2.2.2.2.2 cbs cub sts stt frm by' wrk oth mvs mov)) C fc_X7 8 (by decide) wf_RX7_135 rfl rfl rfl (Nat.le_of_ble_eq_true rfl) (wL_at0 rfl) (wL_up0 (Nat.le_of_ble_eq_true rfl) rfl) dX7_assemble_48 rfl ?_
        refine g_iload_n C rfl (q := 0) rfl dX7_assemble_51 rfl ?_
        refine g_if_ge (tgt := 57) C dX7_assemble_52 (by decide) rfl (fun c27 => ?_) (fun c27 => ?_)
        · replace hf := ift c27 hf
          refine g_iconst (v := 0) C (by decide) dX7_assemble_57 rfl ?_
          refine g_istore (i := 4) (lv' := [(4, .int (0 : Int32)), (3, .int (q4.1 - (1000000 : Int32))), (0, .ref a), (1, .int k), (2, .int budget)]) C dX7_assemble_58 rfl (by rw [hKN]; decide) rfl ?_
          refine g_sub (lv' := [(0, .ref a), (3, .int (q4.1 - (1000000 : Int32))), (4, .int (0 : Int32))]) [2, 1, 0] rfl ?_
          obtain ⟨q28, hq28, hf⟩ := bd hf
          refine g_X7_assemble_60 (l3 := q4.1 - (1000000 : Int32)) (th := q2.2) (set := set) (mir := mir) (tgt := tgt) (shs := q4.2.1) (shp := q4.2.2.1) (pls := q4.2.2.2.1) (pl := q4.2.2.2.2.1) (tri := budget) (tak := q4.2.2.2.2.2.2.1) (pld := q4.2.2.2.2.2.2.2.1) (cel := q4.2.2.2.2.2.2.2.2.1) (pie := q4.2.2.2.2.2.2.2.2.2.1) (nxt := q4.2.2.2.2.2.2.2.2.2.2.1) (cho := q4.2.2.2.2.2.2.2.2.2.2.2) (cbs := cbs) (cub := cub) (sts := sts) (stt := stt) (frm := frm) (by' := by') (wrk := wrk) (oth := oth) (mvs := mvs) (mov := mov) C hKR hKN _ _ _ _ hq28 ?_
          refine g_iconst (v := 0) C (by decide) dX7_assemble_81 rfl ?_
          refine g_istore (i := 4) (lv' := [(4, .int (0 : Int32)), (0, .ref a), (3, .int (q4.1 - (1000000 : Int32)))]) C dX7_assemble_82 rfl (by rw [hKN]; decide) rfl ?_
          refine g_sub (lv' := [(0, .ref a), (3, .int (q4.1 - (1000000 : Int32))), (4, .int (0 : Int32))]) [1, 2, 0] rfl ?_
          obtain ⟨q29, hq29, hf⟩ := bd hf
          refine g_X7_assemble_84 (l3 := q4.1 - (1000000 : Int32)) (th := q2.2) (set := set) (mir := mir) (tgt := tgt) (shs := q4.2.1) (shp := q4.2.2.1) (pls := q4.2.2.2.1) (pl := q4.2.2.2.2.1) (tri := budget) (tak := q4.2.2.2.2.2.2.1) (pld := q4.2.2.2.2.2.2.2.1) (cel := q4.2.2.2.2.2.2.2.2.1) (pie := q4.2.2.2.2.2.2.2.2.2.1) (nxt := q4.2.2.2.2.2.2.2.2.2.2.1) (cho := q4.2.2.2.2.2.2.2.2.2.2.2) (cbs := cbs) (cub := cub) (sts := sts) (stt := stt) (frm := frm) (by' := by') (wrk := wrk) (oth := oth) (mvs := mvs) (mov := mov) C hKR hKN _ _ _ _ hq29 ?_
          refine g_iconst (v := 1) C (by decide) dX7_assemble_115 rfl ?_
          obtain rfl := Option.some.inj hf
          exact g_zret C rfl hKQ dX7_assemble_116
        · replace hf := iff' c27 hf
          refine g_iconst (v := 0) C (by decide) dX7_assemble_55 rfl ?_
          obtain rfl := Option.some.inj hf
          exact g_zret C rfl hKQ dX7_assemble_56
    · replace hf := ift c3 hf
      refine g_iconst (v := 0) C (by decide) dX7_assemble_26 rfl ?_
      obtain rfl := Option.some.inj hf
      exact g_zret C rfl hKQ dX7_assemble_27
  · replace hf := iff' c1 hf
    refine g_iload_n C rfl (q := 2) rfl dX7_assemble_5 rfl ?_
    refine g_iconst (v := 1) C (by decide) dX7_assemble_6 rfl ?_
    refine g_ldc C wc_RX7_143 dX7_assemble_7 rfl ?_
    obtain ⟨q30, hq30, hf⟩ := bd hf
    refine g_callS0 (st' := [.ref a]) (as := [.int budget, .int (1 : Int32), .int (200000 : Int32)]) (st2 := [.int q30, .ref a]) (k := 3) C ⟨wm_RX7_88, ws_X7_in, wi_RX7, wk_X7_in, by decide +kernel⟩ (c_X7_in (l := kL K) (E := kE K)  _ hq30) (by rw [hKR]; exact ⟨rfl, rfl, ⟨by decide, by decide⟩, Nat.le_refl _, Nat.le_refl _⟩) rfl rfl (by simp [Value.category]) rfl dX7_assemble_9 rfl ?_
    have j41 : G K 0 0 20 [(0, .ref a), (1, .int k), (2, .int budget)] [.int (if q30 = 0 then (0 : Int32) else (1 : Int32)), .ref a] (wMd σ a th set mir tgt shs shp pls pl tri asm tak pld cel pie nxt cho cbs cub sts stt frm by' wrk oth mvs mov) n := by
      obtain ⟨q31, hq31, hf⟩ := bd hf
      refine g_callV0 (st' := []) (as := [.int (if q30 = 0 then (0 : Int32) else (1 : Int32))]) (st2 := [.int q31.1]) (k := 1) C ⟨wm_RX7_96, wn_X7_says, wv_X7_says, wi_RX7, wk_X7_says, by decide +kernel⟩ rfl (wL_at0 rfl) (c_X7_says (l := kL K) (E := kE K)  _ hq31) (by rw [hKR]; exact ⟨rfl, rfl, ⟨by decide, by decide⟩, Nat.le_refl _, Nat.le_refl _⟩) rfl rfl (by simp) rfl dX7_assemble_20 rfl ?_
      refine g_if_ne (tgt := 28) C dX7_assemble_23 (by decide) rfl (fun c32 => ?_) (fun c32 => ?_)
      · replace hf := iff' c32 hf
        refine g_aload_n C rfl (q := 0) rfl dX7_assemble_28 rfl ?_
        refine g_iload_n C rfl (q := 2) rfl dX7_assemble_29 rfl ?_
        refine g_iload_n C rfl (q := 1) rfl dX7_assemble_30 rfl ?_
        obtain ⟨q33, hq33, hf⟩ := bd hf
        refine g_callV0 (st' := []) (as := [.int budget, .int k]) (st2 := [.int q33.1]) (k := 2) C ⟨wm_RX7_144, wn_X7_search, wv_X7_search, wi_RX7, wk_X7_search, by decide +kernel⟩ rfl (wL_at0 rfl) (c_X7_search (l := kL K) (E := kE K)  _ hq33) (by rw [hKR]; exact ⟨rfl, rfl, ⟨by decide, by decide⟩, Nat.le_refl _, Nat.le_refl _⟩) rfl rfl (by simp) rfl dX7_assemble_31 rfl ?_
        refine g_ldc C wc_RX7_142 dX7_assemble_34 rfl ?_
        refine g_isub C dX7_assemble_36 rfl ?_
        refine g_istore_n (i := 3) (lv' := [(3, .int (q33.1 - (1000000 : Int32))), (0, .ref a), (1, .int k), (2, .int budget)]) C dX7_assemble_37 rfl rfl (by rw [hKN]; decide) rfl ?_
        refine g_aload_n C rfl (q := 1) rfl dX7_assemble_38 rfl ?_
        refine g_get C fc_X7 8 (by decide) wf_RX7_135 (wL_at0 rfl) rfl dX7_assemble_39 rfl ?_
        refine g_iload_n C rfl (q := 3) rfl dX7_assemble_42 rfl ?_
        refine g_icmp_le (tgt := 51) C dX7_assemble_43 (by decide) rfl (fun c34 => ?_) (fun c34 => ?_)
        · replace hf := ift c34 hf
          refine g_iload_n C rfl (q := 0) rfl dX7_assemble_51 rfl ?_
          refine g_if_ge (tgt := 57) C dX7_assemble_52 (by decide) rfl (fun c35 => ?_) (fun c35 => ?_)
          · replace hf := ift c35 hf
            refine g_iconst (v := 0) C (by decide) dX7_assemble_57 rfl ?_
            refine g_istore (i := 4) (lv' := [(4, .int (0 : Int32)), (3, .int (q33.1 - (1000000 : Int32))), (0, .ref a), (1, .int k), (2, .int budget)]) C dX7_assemble_58 rfl (by rw [hKN]; decide) rfl ?_
            refine g_sub (lv' := [(0, .ref a), (3, .int (q33.1 - (1000000 : Int32))), (4, .int (0 : Int32))]) [2, 1, 0] rfl ?_
            obtain ⟨q36, hq36, hf⟩ := bd hf
            refine g_X7_assemble_60 (l3 := q33.1 - (1000000 : Int32)) (th := q31.2) (set := set) (mir := mir) (tgt := tgt) (shs := q33.2.1) (shp := q33.2.2.1) (pls := q33.2.2.2.1) (pl := q33.2.2.2.2.1) (tri := q33.2.2.2.2.2.1) (tak := q33.2.2.2.2.2.2.1) (pld := q33.2.2.2.2.2.2.2.1) (cel := q33.2.2.2.2.2.2.2.2.1) (pie := q33.2.2.2.2.2.2.2.2.2.1) (nxt := q33.2.2.2.2.2.2.2.2.2.2.1) (cho := q33.2.2.2.2.2.2.2.2.2.2.2) (cbs := cbs) (cub := cub) (sts := sts) (stt := stt) (frm := frm) (by' := by') (wrk := wrk) (oth := oth) (mvs := mvs) (mov := mov) C hKR hKN _ _ _ _ hq36 ?_
            refine g_iconst (v := 0) C (by decide) dX7_assemble_81 rfl ?_
            refine g_istore (i := 4) (lv' := [(4, .int (0 : Int32)), (0, .ref a), (3, .int (q33.1 - (1000000 : Int32)))]) C dX7_assemble_82 rfl (by rw [hKN]; decide) rfl ?_
            refine g_sub (lv' := [(0, .ref a), (3, .int (q33.1 - (1000000 : Int32))), (4, .int (0 : Int32))]) [1, 2, 0] rfl ?_
            obtain ⟨q37, hq37, hf⟩ := bd hf
            refine g_X7_assemble_84 (l3 := q33.1 - (1000000 : Int32)) (th := q31.2) (set := set) (mir := mir) (tgt := tgt) (shs := q33.2.1) (shp := q33.2.2.1) (pls := q33.2.2.2.1) (pl := q33.2.2.2.2.1) (tri := q33.2.2.2.2.2.1) (tak := q33.2.2.2.2.2.2.1) (pld := q33.2.2.2.2.2.2.2.1) (cel := q33.2.2.2.2.2.2.2.2.1) (pie := q33.2.2.2.2.2.2.2.2.2.1) (nxt := q33.2.2.2.2.2.2.2.2.2.2.1) (cho := q33.2.2.2.2.2.2.2.2.2.2.2) (cbs := cbs) (cub := cub) (sts := sts) (stt := stt) (frm := frm) (by' := by') (wrk := wrk) (oth := oth) (mvs := mvs) (mov := mov) C hKR hKN _ _ _ _ hq37 ?_
            refine g_iconst (v := 1) C (by decide) dX7_assemble_115 rfl ?_
            obtain rfl := Option.some.inj hf
            exact g_zret C rfl hKQ dX7_assemble_116
          · replace hf := iff' c35 hf
            refine g_iconst (v := 0) C (by decide) dX7_assemble_55 rfl ?_
            obtain rfl := Option.some.inj hf
            exact g_zret C rfl hKQ dX7_assemble_56
        · replace hf := iff' c34 hf
          refine g_aload_n C rfl (q := 1) rfl dX7_assemble_46 rfl ?_
          refine g_iload_n C rfl (q := 3) rfl dX7_assemble_47 rfl ?_
          refine g_put (h' := (wMd σ a q31.2 set mir tgt q33.2.1 q33.2.2.1 q33.2.2.2.1 q33.2.2.2.2.1 budget asm q33.2.2.2.2.2.2.1 q33.2.2.2.2.2.2.2.1 q33.2.2.2.2.2.2.2.2.1 q33.2.2.2.2.2.2.2.2.2.1 q33.2.2.2.2.2.2.2.2.2.2.1 q33.2.2.2.2.2.2.2.2.2.2.2 cbs cub sts stt frm by' wrk oth mvs mov)) C fc_X7 8 (by decide) wf_RX7_135 rfl rfl rfl (Nat.le_of_ble_eq_true rfl) (wL_at0 rfl) (wL_up0 (Nat.le_of_ble_eq_true rfl) rfl) dX7_assemble_48 rfl ?_
          refine g_iload_n C rfl (q := 0) rfl dX7_assemble_51 rfl ?_
          refine g_if_ge (tgt := 57) C dX7_assemble_52 (by decide) rfl (fun c38 => ?_) (fun c38 => ?_)
          · replace hf := ift c38 hf
            refine g_iconst (v := 0) C (by decide) dX7_assemble_57 rfl ?_
            refine g_istore (i := 4) (lv' := [(4, .int (0 : Int32)), (3, .int (q33.1 - (1000000 : Int32))), (0, .ref a), (1, .int k), (2, .int budget)]) C dX7_assemble_58 rfl (by rw [hKN]; decide) rfl ?_
            refine g_sub (lv' := [(0, .ref a), (3, .int (q33.1 - (1000000 : Int32))), (4, .int (0 : Int32))]) [2, 1, 0] rfl ?_
            obtain ⟨q39, hq39, hf⟩ := bd hf
            refine g_X7_assemble_60 (l3 := q33.1 - (1000000 : Int32)) (th := q31.2) (set := set) (mir := mir) (tgt := tgt) (shs := q33.2.1) (shp := q33.2.2.1) (pls := q33.2.2.2.1) (pl := q33.2.2.2.2.1) (tri := budget) (tak := q33.2.2.2.2.2.2.1) (pld := q33.2.2.2.2.2.2.2.1) (cel := q33.2.2.2.2.2.2.2.2.1) (pie := q33.2.2.2.2.2.2.2.2.2.1) (nxt := q33.2.2.2.2.2.2.2.2.2.2.1) (cho := q33.2.2.2.2.2.2.2.2.2.2.2) (cbs := cbs) (cub := cub) (sts := sts) (stt := stt) (frm := frm) (by' := by') (wrk := wrk) (oth := oth) (mvs := mvs) (mov := mov) C hKR hKN _ _ _ _ hq39 ?_
            refine g_iconst (v := 0) C (by decide) dX7_assemble_81 rfl ?_
            refine g_istore (i := 4) (lv' := [(4, .int (0 : Int32)), (0, .ref a), (3, .int (q33.1 - (1000000 : Int32)))]) C dX7_assemble_82 rfl (by rw [hKN]; decide) rfl ?_
            refine g_sub (lv' := [(0, .ref a), (3, .int (q33.1 - (1000000 : Int32))), (4, .int (0 : Int32))]) [1, 2, 0] rfl ?_
            obtain ⟨q40, hq40, hf⟩ := bd hf
            refine g_X7_assemble_84 (l3 := q33.1 - (1000000 : Int32)) (th := q31.2) (set := set) (mir := mir) (tgt := tgt) (shs := q33.2.1) (shp := q33.2.2.1) (pls := q33.2.2.2.1) (pl := q33.2.2.2.2.1) (tri := budget) (tak := q33.2.2.2.2.2.2.1) (pld := q33.2.2.2.2.2.2.2.1) (cel := q33.2.2.2.2.2.2.2.2.1) (pie := q33.2.2.2.2.2.2.2.2.2.1) (nxt := q33.2.2.2.2.2.2.2.2.2.2.1) (cho := q33.2.2.2.2.2.2.2.2.2.2.2) (cbs := cbs) (cub := cub) (sts := sts) (stt := stt) (frm := frm) (by' := by') (wrk := wrk) (oth := oth) (mvs := mvs) (mov := mov) C hKR hKN _ _ _ _ hq40 ?_
            refine g_iconst (v := 1) C (by decide) dX7_assemble_115 rfl ?_
            obtain rfl := Option.some.inj hf
            exact g_zret C rfl hKQ dX7_assemble_116
          · replace hf := iff' c38 hf
            refine g_iconst (v := 0) C (by decide) dX7_assemble_55 rfl ?_
            obtain rfl := Option.some.inj hf
            exact g_zret C rfl hKQ dX7_assemble_56
      · replace hf := ift c32 hf
        refine g_iconst (v := 0) C (by decide) dX7_assemble_26 rfl ?_
        obtain rfl := Option.some.inj hf
        exact g_zret C rfl hKQ dX7_assemble_27
    refine g_if_eq (tgt := 19) C dX7_assemble_12 (by decide) rfl (fun c42 => ?_) (fun c42 => ?_)
    · refine g_iconst (v := 0) C (by decide) dX7_assemble_19 rfl ?_
      exact g_topI (by rw [if_pos c42]) j41
    · refine g_iconst (v := 1) C (by decide) dX7_assemble_15 rfl ?_
      refine g_goto (pc' := 20) C dX7_assemble_16 (by decide) ?_
      exact g_topI (by rw [if_neg c42]) j41
