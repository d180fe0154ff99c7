def f_X7_thrown (th : Int32) : Option Int32 := some th
set_option maxHeartbeats 2000000 in
set_option maxRecDepth 20000 in
theorem c_X7_thrown {l : Launch} {E : Ex} {n : Nat} {σ : AH} {a : Nat}  {th : Int32} {set : Nat → Int64} {mir : Nat → Int32} {tgt : Nat → Int32} {shs : Nat → Int32} {shp : Nat → Int64} {pls : Nat → Int32} {pl : Nat → Int64} {tri : Int32} {asm : Nat → Int64} {tak : Nat → Int64} {pld : Nat → Int32} {cel : Nat → Int32} {pie : Nat → Int32} {nxt : Nat → Int32} {cho : Nat → Int64} {cbs : Nat → Int32} {cub : Nat → Int32} {sts : Int32} {stt : Nat → Int32} {frm : Nat → Int32} {by' : Nat → Int32} {wrk : Nat → Int32} {oth : Nat → Int32} {mvs : Int32} {mov : Nat → Int32}  (res : Int32) (hf : f_X7_thrown th = some res) : Con l E yX7_thrown (.code yX7_thrown cX7_thrown 1 (some .int) :: TT) ({ frames := 0, cells := 0, slots := 0, locals := 0 } : Room) 0 0 [.ref a] (wMd σ a th set mir tgt shs shp pls pl tri asm tak pld cel pie nxt cho cbs cub sts stt frm by' wrk oth mvs mov) n (some (.int res)) (wMd σ a th set mir tgt shs shp pls pl tri asm tak pld cel pie nxt cho cbs cub sts stt frm by' wrk oth mvs mov) n := by
  refine con_intro (by decide +kernel) (Nat.le_of_ble_eq_true rfl) ?_
  intro K C hKR hKL hKE hKN hKQ
  subst hKL
  subst hKE
  have C : Cx K RX7 "thrown" cX7_thrown (some .int) := C
  show G K 0 0 0 [(0, .ref a)] [] (wMd σ a th set mir tgt shs shp pls pl tri asm tak pld cel pie nxt cho cbs cub sts stt frm by' wrk oth mvs mov) n
  unfold f_X7_thrown at hf
  refine g_aload_n C rfl (q := 0) rfl dX7_thrown_0 rfl ?_
  refine g_get C fc_X7 0 (by decide) wf_RX7_78 (wL_at0 rfl) rfl dX7_thrown_1 rfl ?_
  obtain rfl := Option.some.inj hf
  exact g_iret C hKQ dX7_thrown_4
def f_X7_says (good : Int32) : Option (Int32 × Int32) := (if bOk good = true then some (good, (if good = 0 then (1 : Int32) else (0 : Int32))) else none)
set_option maxHeartbeats 2000000 in
set_option maxRecDepth 20000 in
theorem c_X7_says {l : Launch} {E : Ex} {n : Nat} {σ : AH} {a : Nat}  {th : Int32} {set : Nat → Int64} {mir : Nat → Int32} {tgt : Nat → Int32} {shs : Nat → Int32} {shp : Nat → Int64} {pls : Nat → Int32} {pl : Nat → Int64} {tri : Int32} {asm : Nat → Int64} {tak : Nat → Int64} {pld : Nat → Int32} {cel : Nat → Int32} {pie : Nat → Int32} {nxt : Nat → Int32} {cho : Nat → Int64} {cbs : Nat → Int32} {cub : Nat → Int32} {sts : Int32} {stt : Nat → Int32} {frm : Nat → Int32} {by' : Nat → Int32} {wrk : Nat → Int32} {oth : Nat → Int32} {mvs : Int32} {mov : Nat → Int32} {good : Int32} (res : (Int32 × Int32)) (hf : f_X7_says good = some res) : Con l E yX7_says (.code yX7_says cX7_says 2 (some .boolean) :: TT) ({ frames := 0, cells := 0, slots := 0, locals := 0 } : Room) 0 0 [.ref a, .int good] (wMd σ a th set mir tgt shs shp pls pl tri asm tak pld cel pie nxt cho cbs cub sts stt frm by' wrk oth mvs mov) n (some (.int res.1)) (wMd σ a res.2 set mir tgt shs shp pls pl tri asm tak pld cel pie nxt cho cbs cub sts stt frm by' wrk oth mvs mov) n := by
  refine con_intro (by decide +kernel) (Nat.le_of_ble_eq_true rfl) ?_
  intro K C hKR hKL hKE hKN hKQ
  subst hKL
  subst hKE
  have C : Cx K RX7 "says" cX7_says (some .boolean) := C
  show G K 0 0 0 [(0, .ref a), (1, .int good)] [] (wMd σ a th set mir tgt shs shp pls pl tri asm tak pld cel pie nxt cho cbs cub sts stt frm by' wrk oth mvs mov) n
  unfold f_X7_says at hf
  refine g_aload_n C rfl (q := 0) rfl dX7_says_0 rfl ?_
  refine g_iload_n C rfl (q := 1) rfl dX7_says_1 rfl ?_
  have j2 : G K 0 0 10 [(0, .ref a), (1, .int good)] [.int (if good = 0 then (1 : Int32) else (0 : Int32)), .ref a] (wMd σ a th set mir tgt shs shp pls pl tri asm tak pld cel pie nxt cho cbs cub sts stt frm by' wrk oth mvs mov) n := by
    refine g_put (h' := (wMd σ a (if good = 0 then (1 : Int32) else (0 : Int32)) set mir tgt shs shp pls pl tri asm tak pld cel pie nxt cho cbs cub sts stt frm by' wrk oth mvs mov)) C fc_X7 0 (by decide) wf_RX7_78 rfl rfl rfl (Nat.le_of_ble_eq_true rfl) (wL_at0 rfl) (wL_up0 (Nat.le_of_ble_eq_true rfl) rfl) dX7_says_10 rfl ?_
    refine g_iload_n C rfl (q := 1) rfl dX7_says_13 rfl ?_
    obtain ⟨g1, hf⟩ := gd hf
    obtain rfl := Option.some.inj hf
    exact g_zret C (bOk_n g1) hKQ dX7_says_14
  refine g_if_eq (tgt := 9) C dX7_says_2 (by decide) rfl (fun c3 => ?_) (fun c3 => ?_)
  · refine g_iconst (v := 1) C (by decide) dX7_says_9 rfl ?_
    exact g_topI (by rw [if_pos c3]) j2
  · refine g_iconst (v := 0) C (by decide) dX7_says_5 rfl ?_
    refine g_goto (pc' := 10) C dX7_says_6 (by decide) ?_
    exact g_topI (by rw [if_neg c3]) j2
def f_X7_cube (fu : Nat) (set : Nat → Int64) (asm : Nat → Int64) (p : Int32) (c : Int32) (on : Int32) : Option (Int32 × Int32 × (Nat → Int64) × (Nat → Int64)) := ((f_X7_in p (0 : Int32) (5 : Int32)).bind fun q1 => (if q1 = 0 then some ((0 : Int32), (1 : Int32), set, asm) else ((f_X7_in c (0 : Int32) (63 : Int32)).bind fun q5 => (if (if q5 = 0 then (0 : Int32) else (1 : Int32)) = 0 then some ((0 : Int32), (1 : Int32), set, asm) else (if inB p 6 = true then ((f_X7_has (set p.toNatClampNeg) c).bind fun q8 => (if q8 = on then some ((0 : Int32), (2 : Int32), set, asm) else (if on = 0 then (if inB p 6 = true then (if inB p 6 = true then (if inB p 6 = true then (if inB p 6 = true then ((f_X7_count fu ((va_up set p.toNatClampNeg ((set p.toNatClampNeg) ^^^ ((1 : Int64) <<< (c.toInt64 &&& 63)))) p.toNatClampNeg)).bind fun q17 => some (q17, (0 : Int32), va_up set p.toNatClampNeg ((set p.toNatClampNeg) ^^^ ((1 : Int64) <<< (c.toInt64 &&& 63))), va_up asm p.toNatClampNeg (0 : Int64))) else none) else none) else none) else none) else (if inB p 6 = true then ((f_X7_count fu (set p.toNatClampNeg)).bind fun q19 => (if (if q19 = (10 : Int32) then (2 : Int32) else (0 : Int32)) ≤ 0 then (if inB p 6 = true then (if inB p 6 = true then (if inB p 6 = true then (if inB p 6 = true then ((f_X7_count fu ((va_up set p.toNatClampNeg ((set p.toNatClampNeg) ^^^ ((1 : Int64) <<< (c.toInt64 &&& 63)))) p.toNatClampNeg)).bind fun q25 => some (q25, (if q19 = (10 : Int32) then (2 : Int32) else (0 : Int32)), va_up set p.toNatClampNeg ((set p.toNatClampNeg) ^^^ ((1 : Int64) <<< (c.toInt64 &&& 63))), va_up asm p.toNatClampNeg (0 : Int64))) else none) else none) else none) else none) else some ((0 : Int32), (if q19 = (10 : Int32) then (2 : Int32) else (0 : Int32)), set, asm))) else none)))) else none)))))
set_option maxHeartbeats 2000000 in
set_option maxRecDepth 20000 in
theorem c_X7_cube {l : Launch} {E : Ex} {n : Nat} {σ : AH} {a : Nat}  {th : Int32} {set : Nat → Int64} {mir : Nat → Int32} {tgt : Nat → Int32} {shs : Nat → Int32} {shp : Nat → Int64} {pls : Nat → Int32} {pl : Nat → Int64} {tri : Int32} {asm : Nat → Int64} {tak : Nat → Int64} {pld : Nat → Int32} {cel : Nat → Int32} {pie : Nat → Int32} {nxt : Nat → Int32} {cho : Nat → Int64} {cbs : Nat → Int32} {cub : Nat → Int32} {sts : Int32} {stt : Nat → Int32} {frm : Nat → Int32} {by' : Nat → Int32} {wrk : Nat → Int32} {oth : Nat → Int32} {mvs : Int32} {mov : Nat → Int32} {p : Int32} {c : Int32} {on : Int32} {fu : Nat} (res : (Int32 × Int32 × (Nat → Int64) × (Nat → Int64))) (hf : f_X7_cube fu set asm p c on = some res) : Con l E yX7_cube (.code yX7_cube cX7_cube 5 (some .int) :: TT) ({ frames := 2, cells := 0, slots := 0, locals := 45 } : Room) 0 0 [.ref a, .int p, .int c, .int on] (wMd σ a th set mir tgt shs shp pls pl tri asm tak pld cel pie nxt cho cbs cub sts stt frm by' wrk oth mvs mov) n (some (.int res.1)) (wMd σ a res.2.1 res.2.2.1 mir tgt shs shp pls pl tri res.2.2.2 tak pld cel pie nxt cho cbs cub sts stt frm by' wrk oth mvs mov) n := by
  refine con_intro (by decide +kernel) (Nat.le_of_ble_eq_true rfl) ?_
  intro K C hKR hKL hKE hKN hKQ
  subst hKL
  subst hKE
  have C : Cx K RX7 "cube" cX7_cube (some .int) := C
  show G K 0 0 0 [(0, .ref a), (1, .int p), (2, .int c), (3, .int on)] [] (wMd σ a th set mir tgt shs shp pls pl tri asm tak pld cel pie nxt cho cbs cub sts stt frm by' wrk oth mvs mov) n
  unfold f_X7_cube at hf
  refine g_iload_n C rfl (q := 1) rfl dX7_cube_0 rfl ?_
  refine g_iconst (v := 0) C (by decide) dX7_cube_1 rfl ?_
  refine g_iconst (v := 5) C (by decide) dX7_cube_2 rfl ?_
  obtain ⟨q1, hq1, hf⟩ := bd hf
  refine g_callS0 (st' := []) (as := [.int p, .int (0 : Int32), .int (5 : Int32)]) (st2 := [.int q1]) (k := 3) C ⟨wm_RX7_88, ws_X7_in, wi_RX7, wk_X7_in, by decide +kernel⟩ (c_X7_in (l := kL K) (E := kE K)  _ hq1) (by rw [hKR]; exact ⟨rfl, rfl, ⟨by decide, by decide⟩, Nat.le_refl _, Nat.le_refl _⟩) rfl rfl (by simp) rfl dX7_cube_3 rfl ?_
  refine g_if_eq (tgt := 23) C dX7_cube_6 (by decide) rfl (fun c2 => ?_) (fun c2 => ?_)
  · replace hf := ift c2 hf
    refine g_iconst (v := 0) C (by decide) dX7_cube_23 rfl ?_
    refine g_istore (i := 4) (lv' := [(4, .int (0 : Int32)), (0, .ref a), (1, .int p), (2, .int c), (3, .int on)]) C dX7_cube_24 rfl (by rw [hKN]; decide) rfl ?_
    refine g_aload_n C rfl (q := 1) rfl dX7_cube_26 rfl ?_
    refine g_iload C (q := 0) rfl dX7_cube_27 rfl ?_
    refine g_if_ne (tgt := 36) C dX7_cube_29 (by decide) rfl (fun c3 => absurd c3 (by decide)) (fun c3 => ?_)
    refine g_iconst (v := 1) C (by decide) dX7_cube_32 rfl ?_
    refine g_goto (pc' := 73) C dX7_cube_33 (by decide) ?_
    refine g_put (h' := (wMd σ a (1 : Int32) set mir tgt shs shp pls pl tri asm tak pld cel pie nxt cho cbs cub sts stt frm by' wrk oth mvs mov)) C fc_X7 0 (by decide) wf_RX7_78 rfl rfl rfl (Nat.le_of_ble_eq_true rfl) (wL_at0 rfl) (wL_up0 (Nat.le_of_ble_eq_true rfl) rfl) dX7_cube_73 rfl ?_
    refine g_aload_n C rfl (q := 1) rfl dX7_cube_76 rfl ?_
    refine g_get C fc_X7 0 (by decide) wf_RX7_78 (wL_at0 rfl) rfl dX7_cube_77 rfl ?_
    refine g_if_le (tgt := 85) C dX7_cube_80 (by decide) rfl (fun c4 => absurd c4 (by decide)) (fun c4 => ?_)
    refine g_iconst (v := 0) C (by decide) dX7_cube_83 rfl ?_
    obtain rfl := Option.some.inj hf
    exact g_iret C hKQ dX7_cube_84
  · replace hf := iff' c2 hf
    refine g_iload_n C rfl (q := 2) rfl dX7_cube_9 rfl ?_
    refine g_iconst (v := 0) C (by decide) dX7_cube_10 rfl ?_
    refine g_bipush (v := 63) C (by decide) dX7_cube_11 rfl ?_
    obtain ⟨q5, hq5, hf⟩ := bd hf
    refine g_callS0 (st' := []) (as := [.int c, .int (0 : Int32), .int (63 : Int32)]) (st2 := [.int q5]) (k := 3) C ⟨wm_RX7_88, ws_X7_in, wi_RX7, wk_X7_in, by decide +kernel⟩ (c_X7_in (l := kL K) (E := kE K)  _ hq5) (by rw [hKR]; exact ⟨rfl, rfl, ⟨by decide, by decide⟩, Nat.le_refl _, Nat.le_refl _⟩) rfl rfl (by simp) rfl dX7_cube_13 rfl ?_
    have j29 : G K 0 0 24 [(0, .ref a), (1, .int p), (2, .int c), (3, .int on)] [.int (if q5 = 0 then (0 : Int32) else (1 : Int32))] (wMd σ a th set mir tgt shs shp pls pl tri asm tak pld cel pie nxt cho cbs cub sts stt frm by' wrk oth mvs mov) n := by
      refine g_istore (i := 4) (lv' := [(4, .int (if q5 = 0 then (0 : Int32) else (1 : Int32))), (0, .ref a), (1, .int p), (2, .int c), (3, .int on)]) C dX7_cube_24 rfl (by rw [hKN]; decide) rfl ?_
      refine g_aload_n C rfl (q := 1) rfl dX7_cube_26 rfl ?_
      refine g_iload C (q := 0) rfl dX7_cube_27 rfl ?_
      refine g_if_ne (tgt := 36) C dX7_cube_29 (by decide) rfl (fun c6 => ?_) (fun c6 => ?_)
      · replace hf := iff' c6 hf
        refine g_aload_n C rfl (q := 1) rfl dX7_cube_36 rfl ?_
        refine g_get C fc_X7 1 (by decide) wf_RX7_7 (wL_at0 rfl) rfl dX7_cube_37 rfl ?_
        refine g_iload_n C rfl (q := 2) rfl dX7_cube_40 rfl ?_
        obtain ⟨g7, hf⟩ := gd hf
        refine g_lald C (wL_at 1 rfl) (inB_in g7) dX7_cube_41 rfl ?_
        refine g_iload_n C rfl (q := 3) rfl dX7_cube_42 rfl ?_
        obtain ⟨q8, hq8, hf⟩ := bd hf
        refine g_callS0 (st' := [.ref a]) (as := [.long (set p.toNatClampNeg), .int c]) (st2 := [.int q8, .ref a]) (k := 2) C ⟨wm_RX7_82, ws_X7_has, wi_RX7, wk_X7_has, by decide +kernel⟩ (c_X7_has (l := kL K) (E := kE K)  _ hq8) (by rw [hKR]; exact ⟨rfl, rfl, ⟨by decide, by decide⟩, Nat.le_refl _, Nat.le_refl _⟩) rfl rfl (by simp [Value.category]) rfl dX7_cube_43 rfl ?_
        refine g_iload_n C rfl (q := 4) rfl dX7_cube_46 rfl ?_
        refine g_icmp_eq (tgt := 68) C dX7_cube_47 (by decide) rfl (fun c9 => ?_) (fun c9 => ?_)
        · replace hf := ift c9 hf
          refine g_iconst (v := 2) C (by decide) dX7_cube_68 rfl ?_
          refine g_goto (pc' := 73) C dX7_cube_69 (by decide) ?_
          refine g_put (h' := (wMd σ a (2 : Int32) set mir tgt shs shp pls pl tri asm tak pld cel pie nxt cho cbs cub sts stt frm by' wrk oth mvs mov)) C fc_X7 0 (by decide) wf_RX7_78 rfl rfl rfl (Nat.le_of_ble_eq_true rfl) (wL_at0 rfl) (wL_up0 (Nat.le_of_ble_eq_true rfl) rfl) dX7_cube_73 rfl ?_
          refine g_aload_n C rfl (q := 1) rfl dX7_cube_76 rfl ?_
          refine g_get C fc_X7 0 (by decide) wf_RX7_78 (wL_at0 rfl) rfl dX7_cube_77 rfl ?_
          refine g_if_le (tgt := 85) C dX7_cube_80 (by decide) rfl (fun c10 => absurd c10 (by decide)) (fun c10 => ?_)
          refine g_iconst (v := 0) C (by decide) dX7_cube_83 rfl ?_
          obtain rfl := Option.some.inj hf
          exact g_iret C hKQ dX7_cube_84
        · replace hf := iff' c9 hf
          refine g_iload_n C rfl (q := 4) rfl dX7_cube_50 rfl ?_
          refine g_if_eq (tgt := 72) C dX7_cube_51 (by decide) rfl (fun c11 => ?_) (fun c11 => ?_)
          · replace hf := ift c11 hf
            refine g_iconst (v := 0) C (by decide) dX7_cube_72 rfl ?_
            refine g_put (h' := (wMd σ a (0 : Int32) set mir tgt shs shp pls pl tri asm tak pld cel pie nxt cho cbs cub sts stt frm by' wrk oth mvs mov)) C fc_X7 0 (by decide) wf_RX7_78 rfl rfl rfl (Nat.le_of_ble_eq_true rfl) (wL_at0 rfl) (wL_up0 (Nat.le_of_ble_eq_true rfl) rfl) dX7_cube_73 rfl ?_
            refine g_aload_n C rfl (q := 1) rfl dX7_cube_76 rfl ?_
            refine g_get C fc_X7 0 (by decide) wf_RX7_78 (wL_at0 rfl) rfl dX7_cube_77 rfl ?_
            refine g_if_le (tgt := 85) C dX7_cube_80 (by decide) rfl (fun c12 => ?_) (fun c12 => absurd c12 (by decide))
            refine g_aload_n C rfl (q := 1) rfl dX7_cube_85 rfl ?_
            refine g_get C fc_X7 1 (by decide) wf_RX7_7 (wL_at0 rfl) rfl dX7_cube_86 rfl ?_
            refine g_iload_n C rfl (q := 2) rfl dX7_cube_89 rfl ?_
            refine g_aload_n C rfl (q := 1) rfl dX7_cube_90 rfl ?_
            refine g_get C fc_X7 1 (by decide) wf_RX7_7 (wL_at0 rfl) rfl dX7_cube_91 rfl ?_
            refine g_iload_n C rfl (q := 2) rfl dX7_cube_94 rfl ?_
            obtain ⟨g13, hf⟩ := gd hf
            refine g_lald C (wL_at 1 rfl) (inB_in g13) dX7_cube_95 rfl ?_
            refine g_lconst (v := 1) C (by decide) dX7_cube_96 rfl ?_
            refine g_iload_n C rfl (q := 3) rfl dX7_cube_97 rfl ?_
            refine g_lshl C dX7_cube_98 rfl ?_
            refine g_lxor C dX7_cube_99 rfl ?_
            obtain ⟨g14, hf⟩ := gd hf
            refine g_last (h' := (wMd σ a (0 : Int32) (va_up set p.toNatClampNeg ((set p.toNatClampNeg) ^^^ ((1 : Int64) <<< (c.toInt64 &&& 63)))) mir tgt shs shp pls pl tri asm tak pld cel pie nxt cho cbs cub sts stt frm by' wrk oth mvs mov)) C (wL_at 1 rfl) (inB_in g14) (wL_up 1 (Nat.le_of_ble_eq_true rfl) rfl) dX7_cube_100 rfl ?_
            refine g_aload_n C rfl (q := 1) rfl dX7_cube_101 rfl ?_
            refine g_get C fc_X7 9 (by decide) wf_RX7_33 (wL_at0 rfl) rfl dX7_cube_102 rfl ?_
            refine g_iload_n C rfl (q := 2) rfl dX7_cube_105 rfl ?_
            refine g_lconst (v := 0) C (by decide) dX7_cube_106 rfl ?_
            obtain ⟨g15, hf⟩ := gd hf
            refine g_last (h' := (wMd σ a (0 : Int32) (va_up set p.toNatClampNeg ((set p.toNatClampNeg) ^^^ ((1 : Int64) <<< (c.toInt64 &&& 63)))) mir tgt shs shp pls pl tri (va_up asm p.toNatClampNeg (0 : Int64)) tak pld cel pie nxt cho cbs cub sts stt frm by' wrk oth mvs mov)) C (wL_at 8 rfl) (inB_in g15) (wL_up 8 (Nat.le_of_ble_eq_true rfl) rfl) dX7_cube_107 rfl ?_
            refine g_aload_n C rfl (q := 1) rfl dX7_cube_108 rfl ?_
            refine g_get C fc_X7 1 (by decide) wf_RX7_7 (wL_at0 rfl) rfl dX7_cube_109 rfl ?_
            refine g_iload_n C rfl (q := 2) rfl dX7_cube_112 rfl ?_
            obtain ⟨g16, hf⟩ := gd hf
            refine g_lald C (wL_at 1 rfl) (inB_in g16) dX7_cube_113 rfl ?_
            obtain ⟨q17, hq17, hf⟩ := bd hf
            refine g_callS0 (st' := []) (as := [.long ((va_up set p.toNatClampNeg ((set p.toNatClampNeg) ^^^ ((1 : Int64) <<< (c.toInt64 &&& 63)))) p.toNatClampNeg)]) (st2 := [.int q17]) (k := 1) C ⟨wm_RX7_92, ws_X7_count, wi_RX7, wk_X7_count, by decide +kernel⟩ (c_X7_count (l := kL K) (E := kE K)  _ hq17) (by rw [hKR]; exact ⟨rfl, rfl, ⟨by decide, by decide⟩, Nat.le_refl _, Nat.le_refl _⟩) rfl rfl (by simp) rfl dX7_cube_114 rfl ?_
            obtain rfl := Option.some.inj hf
            exact g_iret C hKQ dX7_cube_117
          · replace hf := iff' c11 hf
            refine g_aload_n C rfl (q := 1) rfl dX7_cube_54 rfl ?_
            refine g_get C fc_X7 1 (by decide) wf_RX7_7 (wL_at0 rfl) rfl dX7_cube_55 rfl ?_
            refine g_iload_n C rfl (q := 2) rfl dX7_cube_58 rfl ?_
            obtain ⟨g18, hf⟩ := gd hf
            refine g_lald C (wL_at 1 rfl) (inB_in g18) dX7_cube_59 rfl ?_
            obtain ⟨q19, hq19, hf⟩ := bd hf
            refine g_callS0 (st' := [.ref a]) (as := [.long (set p.toNatClampNeg)]) (st2 := [.int q19, .ref a]) (k := 1) C ⟨wm_RX7_92, ws_X7_count, wi_RX7, wk_X7_count, by decide +kernel⟩ (c_X7_count (l := kL K) (E := kE K)  _ hq19) (by rw [hKR]; exact ⟨rfl, rfl, ⟨by decide, by decide⟩, Nat.le_refl _, Nat.le_refl _⟩) rfl rfl (by simp [Value.category]) rfl dX7_cube_60 rfl ?_
            refine g_bipush (v := 10) C (by decide) dX7_cube_63 rfl ?_
            have j26 : G K 0 0 73 [(4, .int (if q5 = 0 then (0 : Int32) else (1 : Int32))), (0, .ref a), (1, .int p), (2, .int c), (3, .int on)] [.int (if q19 = (10 : Int32) then (2 : Int32) else (0 : Int32)), .ref a] (wMd σ a th set mir tgt shs shp pls pl tri asm tak pld cel pie nxt cho cbs cub sts stt frm by' wrk oth mvs mov) n := by
              refine g_put (h' := (wMd σ a (if q19 = (10 : Int32) then (2 : Int32) else (0 : Int32)) set mir tgt shs shp pls pl tri asm tak pld cel pie nxt cho cbs cub sts stt frm by' wrk oth mvs mov)) C fc_X7 0 (by decide) wf_RX7_78 rfl rfl rfl (Nat.le_of_ble_eq_true rfl) (wL_at0 rfl) (wL_up0 (Nat.le_of_ble_eq_true rfl) rfl) dX7_cube_73 rfl ?_
              refine g_aload_n C rfl (q := 1) rfl dX7_cube_76 rfl ?_
              refine g_get C fc_X7 0 (by decide) wf_RX7_78 (wL_at0 rfl) rfl dX7_cube_77 rfl ?_
              refine g_if_le (tgt := 85) C dX7_cube_80 (by decide) rfl (fun c20 => ?_) (fun c20 => ?_)
              · replace hf := ift c20 hf
                refine g_aload_n C rfl (q := 1) rfl dX7_cube_85 rfl ?_
                refine g_get C fc_X7 1 (by decide) wf_RX7_7 (wL_at0 rfl) rfl dX7_cube_86 rfl ?_
                refine g_iload_n C rfl (q := 2) rfl dX7_cube_89 rfl ?_
                refine g_aload_n C rfl (q := 1) rfl dX7_cube_90 rfl ?_
                refine g_get C fc_X7 1 (by decide) wf_RX7_7 (wL_at0 rfl) rfl dX7_cube_91 rfl ?_
                refine g_iload_n C rfl (q := 2) rfl dX7_cube_94 rfl ?_
                obtain ⟨g21, hf⟩ := gd hf
                refine g_lald C (wL_at 1 rfl) (inB_in g21) dX7_cube_95 rfl ?_
                refine g_lconst (v := 1) C (by decide) dX7_cube_96 rfl ?_
                refine g_iload_n C rfl (q := 3) rfl dX7_cube_97 rfl ?_
                refine g_lshl C dX7_cube_98 rfl ?_
                refine g_lxor C dX7_cube_99 rfl ?_
                obtain ⟨g22, hf⟩ := gd hf
                refine g_last (h' := (wMd σ a (if q19 = (10 : Int32) then (2 : Int32) else (0 : Int32)) (va_up set p.toNatClampNeg ((set p.toNatClampNeg) ^^^ ((1 : Int64) <<< (c.toInt64 &&& 63)))) mir tgt shs shp pls pl tri asm tak pld cel pie nxt cho cbs cub sts stt frm by' wrk oth mvs mov)) C (wL_at 1 rfl) (inB_in g22) (wL_up 1 (Nat.le_of_ble_eq_true rfl) rfl) dX7_cube_100 rfl ?_
                refine g_aload_n C rfl (q := 1) rfl dX7_cube_101 rfl ?_
                refine g_get C fc_X7 9 (by decide) wf_RX7_33 (wL_at0 rfl) rfl dX7_cube_102 rfl ?_
                refine g_iload_n C rfl (q := 2) rfl dX7_cube_105 rfl ?_
                refine g_lconst (v := 0) C (by decide) dX7_cube_106 rfl ?_
                obtain ⟨g23, hf⟩ := gd hf
                refine g_last (h' := (wMd σ a (if q19 = (10 : Int32) then (2 : Int32) else (0 : Int32)) (va_up set p.toNatClampNeg ((set p.toNatClampNeg) ^^^ ((1 : Int64) <<< (c.toInt64 &&& 63)))) mir tgt shs shp pls pl tri (va_up asm p.toNatClampNeg (0 : Int64)) tak pld cel pie nxt cho cbs cub sts stt frm by' wrk oth mvs mov)) C (wL_at 8 rfl) (inB_in g23) (wL_up 8 (Nat.le_of_ble_eq_true rfl) rfl) dX7_cube_107 rfl ?_
                refine g_aload_n C rfl (q := 1) rfl dX7_cube_108 rfl ?_
                refine g_get C fc_X7 1 (by decide) wf_RX7_7 (wL_at0 rfl) rfl dX7_cube_109 rfl ?_
                refine g_iload_n C rfl (q := 2) rfl dX7_cube_112 rfl ?_
                obtain ⟨g24, hf⟩ := gd hf
                refine g_lald C (wL_at 1 rfl) (inB_in g24) dX7_cube_113 rfl ?_
                obtain ⟨q25, hq25, hf⟩ := bd hf
                refine g_callS0 (st' := []) (as := [.long ((va_up set p.toNatClampNeg ((set p.toNatClampNeg) ^^^ ((1 : Int64) <<< (c.toInt64 &&& 63)))) p.toNatClampNeg)]) (st2 := [.int q25]) (k := 1) C ⟨wm_RX7_92, ws_X7_count, wi_RX7, wk_X7_count, by decide +kernel⟩ (c_X7_count (l := kL K) (E := kE K)  _ hq25) (by rw [hKR]; exact ⟨rfl, rfl, ⟨by decide, by decide⟩, Nat.le_refl _, Nat.le_refl _⟩) rfl rfl (by simp) rfl dX7_cube_114 rfl ?_
                obtain rfl := Option.some.inj hf
                exact g_iret C hKQ dX7_cube_117
              · replace hf := iff' c20 hf
                refine g_iconst (v := 0) C (by decide) dX7_cube_83 rfl ?_
                obtain rfl := Option.some.inj hf
                exact g_iret C hKQ dX7_cube_84
            refine g_icmp_ne (tgt := 72) C dX7_cube_65 (by decide) rfl (fun c27 => ?_) (fun c27 => ?_)
            · refine g_iconst (v := 0) C (by decide) dX7_cube_72 rfl ?_
              exact g_topI (by rw [if_neg c27]) j26
            · refine g_iconst (v := 2) C (by decide) dX7_cube_68 rfl ?_
              refine g_goto (pc' := 73) C dX7_cube_69 (by decide) ?_
              exact g_topI (by rw [if_pos c27]) j26
      · replace hf := ift c6 hf
        refine g_iconst (v := 1) C (by decide) dX7_cube_32 rfl ?_
        refine g_goto (pc' := 73) C dX7_cube_33 (by decide) ?_
        refine g_put (h' := (wMd σ a (1 : Int32) set mir tgt shs shp pls pl tri asm tak pld cel pie nxt cho cbs cub sts stt frm by' wrk oth mvs mov)) C fc_X7 0 (by decide) wf_RX7_78 rfl rfl rfl (Nat.le_of_ble_eq_true rfl) (wL_at0 rfl) (wL_up0 (Nat.le_of_ble_eq_true rfl) rfl) dX7_cube_73 rfl ?_
        refine g_aload_n C rfl (q := 1) rfl dX7_cube_76 rfl ?_
        refine g_get C fc_X7 0 (by decide) wf_RX7_78 (wL_at0 rfl) rfl dX7_cube_77 rfl ?_
        refine g_if_le (tgt := 85) C dX7_cube_80 (by decide) rfl (fun c28 => absurd c28 (by decide)) (fun c28 => ?_)
        refine g_iconst (v := 0) C (by decide) dX7_cube_83 rfl ?_
        obtain rfl := Option.some.inj hf
        exact g_iret C hKQ dX7_cube_84
    refine g_if_eq (tgt := 23) C dX7_cube_16 (by decide) rfl (fun c30 => ?_) (fun c30 => ?_)
    · refine g_iconst (v := 0) C (by decide) dX7_cube_23 rfl ?_
      exact g_topI (by rw [if_pos c30]) j29
    · refine g_iconst (v := 1) C (by decide) dX7_cube_19 rfl ?_
      refine g_goto (pc' := 24) C dX7_cube_20 (by decide) ?_
      exact g_topI (by rw [if_neg c30]) j29
def f_X7_mirror (mir : Nat → Int32) (p : Int32) (may : Int32) : Option (Int32 × (Nat → Int32)) := ((f_X7_in p (0 : Int32) (5 : Int32)).bind fun q1 => ((f_X7_says q1).bind fun q2 => (if q2.1 = 0 then some (q2.2, mir) else (if inB p 6 = true then (if bOk may = true then some (q2.2, va_up mir p.toNatClampNeg may) else none) else none))))
set_option maxHeartbeats 2000000 in
set_option maxRecDepth 20000 in
theorem c_X7_mirror {l : Launch} {E : Ex} {n : Nat} {σ : AH} {a : Nat}  {th : Int32} {set : Nat → Int64} {mir : Nat → Int32} {tgt : Nat → Int32} {shs : Nat → Int32} {shp : Nat → Int64} {pls : Nat → Int32} {pl : Nat → Int64} {tri : Int32} {asm : Nat → Int64} {tak : Nat → Int64} {pld : Nat → Int32} {cel : Nat → Int32} {pie : Nat → Int32} {nxt : Nat → Int32} {cho : Nat → Int64} {cbs : Nat → Int32} {cub : Nat → Int32} {sts : Int32} {stt : Nat → Int32} {frm : Nat → Int32} {by' : Nat → Int32} {wrk : Nat → Int32} {oth : Nat → Int32} {mvs : Int32} {mov : Nat → Int32} {p : Int32} {may : Int32} (res : (Int32 × (Nat → Int32))) (hf : f_X7_mirror mir p may = some res) : Con l E yX7_mirror (.code yX7_mirror cX7_mirror 3 none :: TT) ({ frames := 1, cells := 0, slots := 0, locals := 22 } : Room) 0 0 [.ref a, .int p, .int may] (wMd σ a th set mir tgt shs shp pls pl tri asm tak pld cel pie nxt cho cbs cub sts stt frm by' wrk oth mvs mov) n none (wMd σ a res.1 set res.2 tgt shs shp pls pl tri asm tak pld cel pie nxt cho cbs cub sts stt frm by' wrk oth mvs mov) n := by
  refine con_intro (by decide +kernel) (Nat.le_of_ble_eq_true rfl) ?_
  intro K C hKR hKL hKE hKN hKQ
  subst hKL
  subst hKE
  have C : Cx K RX7 "mirror" cX7_mirror none := C
  show G K 0 0 0 [(0, .ref a), (1, .int p), (2, .int may)] [] (wMd σ a th set mir tgt shs shp pls pl tri asm tak pld cel pie nxt cho cbs cub sts stt frm by' wrk oth mvs mov) n
  unfold f_X7_mirror at hf
  refine g_aload_n C rfl (q := 0) rfl dX7_mirror_0 rfl ?_
  refine g_iload_n C rfl (q := 1) rfl dX7_mirror_1 rfl ?_
  refine g_iconst (v := 0) C (by decide) dX7_mirror_2 rfl ?_
  refine g_iconst (v := 5) C (by decide) dX7_mirror_3 rfl ?_
  obtain ⟨q1, hq1, hf⟩ := bd hf
  refine g_callS0 (st' := [.ref a]) (as := [.int p, .int (0 : Int32), .int (5 : Int32)]) (st2 := [.int q1, .ref a]) (k := 3) C ⟨wm_RX7_88, ws_X7_in, wi_RX7, wk_X7_in, by decide +kernel⟩ (c_X7_in (l := kL K) (E := kE K)  _ hq1) (by rw [hKR]; exact ⟨rfl, rfl, ⟨by decide, by decide⟩, Nat.le_refl _, Nat.le_refl _⟩) rfl rfl (by simp [Value.category]) rfl dX7_mirror_4 rfl ?_
  obtain ⟨q2, hq2, hf⟩ := bd hf
  refine g_callV0 (st' := []) (as := [.int q1]) (st2 := [.int q2.1]) (k := 1) C ⟨wm_RX7_96, wn_X7_says, wv_X7_says, wi_RX7, wk_X7_says, by decide +kernel⟩ rfl (wL_at0 rfl) (c_X7_says (l := kL K) (E := kE K)  _ hq2) (by rw [hKR]; exact ⟨rfl, rfl, ⟨by decide, by decide⟩, Nat.le_refl _, Nat.le_refl _⟩) rfl rfl (by simp) rfl dX7_mirror_7 rfl ?_
  refine g_if_eq (tgt := 20) C dX7_mirror_10 (by decide) rfl (fun c3 => ?_) (fun c3 => ?_)
  · replace hf := ift c3 hf
    obtain rfl := Option.some.inj hf
    exact g_vret C hKQ dX7_mirror_20
  · replace hf := iff' c3 hf
    refine g_aload_n C rfl (q := 0) rfl dX7_mirror_13 rfl ?_
    refine g_get C fc_X7 2 (by decide) wf_RX7_13 (wL_at0 rfl) rfl dX7_mirror_14 rfl ?_
    refine g_iload_n C rfl (q := 1) rfl dX7_mirror_17 rfl ?_
    refine g_iload_n C rfl (q := 2) rfl dX7_mirror_18 rfl ?_
    obtain ⟨g4, hf⟩ := gd hf
    obtain ⟨g5, hf⟩ := gd hf
    refine g_zast (h' := (wMd σ a q2.2 set (va_up mir p.toNatClampNeg may) tgt shs shp pls pl tri asm tak pld cel pie nxt cho cbs cub sts stt frm by' wrk oth mvs mov)) C (bOk_n g5) (wL_at 2 rfl) (inB_in g4) (wL_up 2 (Nat.le_of_ble_eq_true rfl) rfl) dX7_mirror_19 rfl ?_
    obtain rfl := Option.some.inj hf
    exact g_vret C hKQ dX7_mirror_20
def f_X7_shapesOf_30  (l1 : Int32) (l2 : Int32) (set : Nat → Int64) (mir : Nat → Int32) : Nat → Int32 → (Nat → Int32) → (Nat → Int64) → Option ((Nat → Int32) × (Nat → Int64))
  | 0, _, _, _ => none
  | fu + 1, l3, shs, shp => (if (8 : Int32) ≤ l3 then some (shs, shp) else (if (((((l2 - l2 / (2 : Int32) * (2 : Int32)) + (l3 &&& (1 : Int32))) + ((l3 >>> ((1 : Int32) &&& 31)) &&& (1 : Int32))) + (l3 >>> ((2 : Int32) &&& 31))) - ((((l2 - l2 / (2 : Int32) * (2 : Int32)) + (l3 &&& (1 : Int32))) + ((l3 >>> ((1 : Int32) &&& 31)) &&& (1 : Int32))) + (l3 >>> ((2 : Int32) &&& 31))) / (2 : Int32) * (2 : Int32)) = 0 then (if inB l1 6 = true then (if inB l1 6 = true then ((f_X7_turned fu (set l1.toNatClampNeg) l2 l3).bind fun q126 => ((f_X7_insert fu 288 shp (l1 * (48 : Int32)) (shs l1.toNatClampNeg) q126).bind fun q127 => (if inB l1 6 = true then f_X7_shapesOf_30 l1 l2 set mir fu (l3 + (1 : Int32)) (va_up shs l1.toNatClampNeg q127.1) q127.2 else none))) else none) else none) else (if inB l1 6 = true then (if (mir l1.toNatClampNeg) = 0 then f_X7_shapesOf_30 l1 l2 set mir fu (l3 + (1 : Int32)) shs shp else (if inB l1 6 = true then (if inB l1 6 = true then ((f_X7_turned fu (set l1.toNatClampNeg) l2 l3).bind fun q133 => ((f_X7_insert fu 288 shp (l1 * (48 : Int32)) (shs l1.toNatClampNeg) q133).bind fun q134 => (if inB l1 6 = true then f_X7_shapesOf_30 l1 l2 set mir fu (l3 + (1 : Int32)) (va_up shs l1.toNatClampNeg q134.1) q134.2 else none))) else none) else none)) else none)))
def f_X7_shapesOf_22  (l1 : Int32) (set : Nat → Int64) (mir : Nat → Int32) : Nat → Int32 → (Nat → Int32) → (Nat → Int64) → Option ((Nat → Int32) × (Nat → Int64))
  | 0, _, _, _ => none
  | fu + 1, l2, shs, shp => (if (6 : Int32) ≤ l2 then some (shs, shp) else ((f_X7_shapesOf_30 l1 l2 set mir fu (0 : Int32) shs shp).bind fun q136 => f_X7_shapesOf_22 l1 set mir fu (l2 + (1 : Int32)) q136.1 q136.2))
def f_X7_shapesOf (fu : Nat) (set : Nat → Int64) (mir : Nat → Int32) (shs : Nat → Int32) (shp : Nat → Int64) (p : Int32) : Option ((Nat → Int32) × (Nat → Int64)) := (if inB p 6 = true then (if inB p 6 = true then ((f_X7_isMade fu (set p.toNatClampNeg)).bind fun q3 => (if q3 = 0 then some (va_up shs p.toNatClampNeg (0 : Int32), shp) else ((f_X7_shapesOf_22 p set mir fu (0 : Int32) (va_up shs p.toNatClampNeg (0 : Int32)) shp).bind fun q137 => some (q137.1, q137.2)))) else none) else none)
set_option maxHeartbeats 2000000 in
set_option maxRecDepth 20000 in
theorem g_X7_shapesOf_30 {K : KX} {n : Nat} {σ : AH} {a : Nat}  {l1 : Int32} {l2 : Int32} {th : Int32} {set : Nat → Int64} {mir : Nat → Int32} {tgt : Nat → Int32} {pls : Nat → Int32} {pl : Nat → Int64} {tri : Int32} {asm : Nat → Int64} {tak : Nat → Int64} {pld : Nat → Int32} {cel : Nat → Int32} {pie : Nat → Int32} {nxt : Nat → Int32} {cho : Nat → Int64} {cbs : Nat → Int32} {cub : Nat → Int32} {sts : Int32} {stt : Nat → Int32} {frm : Nat → Int32} {by' : Nat → Int32} {wrk : Nat → Int32} {oth : Nat → Int32} {mvs : Int32} {mov : Nat → Int32} (C : Cx K RX7 "shapesOf" cX7_shapesOf none) (hKR : kR K = ({ frames := 2, cells := 0, slots := 0, locals := 58 } : Room)) (hKN : kN K = 5) : ∀ (fu : Nat) (l3 : Int32) (shs : Nat → Int32) (shp : Nat → Int64) (res : ((Nat → Int32) × (Nat → Int64))), f_X7_shapesOf_30 l1 l2 set mir fu l3 shs shp = some res → G K 0 0 111 [(0, .ref a), (1, .int l1), (2, .int l2)] [] (wMd σ a th set mir tgt res.1 res.2 pls pl tri asm tak pld cel pie nxt cho cbs cub sts stt frm by' wrk oth mvs mov) n → G K 0 0 30 [(0, .ref a), (1, .int l1), (2, .int l2), (3, .int l3)] [] (wMd σ a th set mir tgt shs shp pls pl tri asm tak pld cel pie nxt cho cbs cub sts stt frm by' wrk oth mvs mov) n := by
  intro fu
  induction fu with
  | zero =>
    intro l3 shs shp res hf
    exact absurd hf (by simp [f_X7_shapesOf_30])
  | succ fu ih =>
    intro l3 shs shp res hf hx
    rw [f_X7_shapesOf_30] at hf
    refine g_iload_n C rfl (q := 3) rfl dX7_shapesOf_30 rfl ?_
    refine g_bipush (v := 8) C (by decide) dX7_shapesOf_31 rfl ?_
    refine g_icmp_ge (tgt := 111) C dX7_shapesOf_33 (by decide) rfl (fun c122 => ?_) (fun c122 => ?_)
    · replace hf := ift c122 hf
      obtain rfl := Option.some.inj hf
      refine g_sub (lv' := [(0, .ref a), (1, .int l1), (2, .int l2)]) [0, 1, 2] rfl ?_
      exact hx
    · replace hf := iff' c122 hf
      refine g_iload_n C rfl (q := 2) rfl dX7_shapesOf_36 rfl ?_
      refine g_iconst (v := 2) C (by decide) dX7_shapesOf_37 rfl ?_
      refine g_irem C (by decide) dX7_shapesOf_38 rfl ?_
      refine g_iload_n C rfl (q := 3) rfl dX7_shapesOf_39 rfl ?_
      refine g_iconst (v := 1) C (by decide) dX7_shapesOf_40 rfl ?_
      refine g_iand C dX7_shapesOf_41 rfl ?_
      refine g_iadd C dX7_shapesOf_42 rfl ?_
      refine g_iload_n C rfl (q := 3) rfl dX7_shapesOf_43 rfl ?_
      refine g_iconst (v := 1) C (by decide) dX7_shapesOf_44 rfl ?_
      refine g_ishr C dX7_shapesOf_45 rfl ?_
      refine g_iconst (v := 1) C (by decide) dX7_shapesOf_46 rfl ?_
      refine g_iand C dX7_shapesOf_47 rfl ?_
      refine g_iadd C dX7_shapesOf_48 rfl ?_
      refine g_iload_n C rfl (q := 3) rfl dX7_shapesOf_49 rfl ?_
      refine g_iconst (v := 2) C (by decide) dX7_shapesOf_50 rfl ?_
      refine g_ishr C dX7_shapesOf_51 rfl ?_
      refine g_iadd C dX7_shapesOf_52 rfl ?_
      refine g_istore (i := 4) (lv' := [(4, .int ((((l2 - l2 / (2 : Int32) * (2 : Int32)) + (l3 &&& (1 : Int32))) + ((l3 >>> ((1 : Int32) &&& 31)) &&& (1 : Int32))) + (l3 >>> ((2 : Int32) &&& 31)))), (0, .ref a), (1, .int l1), (2, .int l2), (3, .int l3)]) C dX7_shapesOf_53 rfl (by rw [hKN]; decide) rfl ?_
      refine g_iload C (q := 0) rfl dX7_shapesOf_55 rfl ?_
      refine g_iconst (v := 2) C (by decide) dX7_shapesOf_57 rfl ?_
      refine g_irem C (by decide) dX7_shapesOf_58 rfl ?_
      refine g_if_eq (tgt := 71) C dX7_shapesOf_59 (by decide) rfl (fun c123 => ?_) (fun c123 => ?_)
      · replace hf := ift c123 hf
        refine g_aload_n C rfl (q := 1) rfl dX7_shapesOf_71 rfl ?_
        refine g_get C fc_X7 4 (by decide) wf_RX7_21 (wL_at0 rfl) rfl dX7_shapesOf_72 rfl ?_
        refine g_iload_n C rfl (q := 2) rfl dX7_shapesOf_75 rfl ?_
        refine g_aload_n C rfl (q := 1) rfl dX7_shapesOf_76 rfl ?_
        refine g_get C fc_X7 5 (by decide) wf_RX7_24 (wL_at0 rfl) rfl dX7_shapesOf_77 rfl ?_
        refine g_iload_n C rfl (q := 2) rfl dX7_shapesOf_80 rfl ?_
        refine g_bipush (v := 48) C (by decide) dX7_shapesOf_81 rfl ?_
        refine g_imul C dX7_shapesOf_83 rfl ?_
        refine g_aload_n C rfl (q := 1) rfl dX7_shapesOf_84 rfl ?_
        refine g_get C fc_X7 4 (by decide) wf_RX7_21 (wL_at0 rfl) rfl dX7_shapesOf_85 rfl ?_
        refine g_iload_n C rfl (q := 2) rfl dX7_shapesOf_88 rfl ?_
        obtain ⟨g124, hf⟩ := gd hf
        refine g_iald C (wL_at 4 rfl) (inB_in g124) dX7_shapesOf_89 rfl ?_
        refine g_aload_n C rfl (q := 1) rfl dX7_shapesOf_90 rfl ?_
        refine g_get C fc_X7 1 (by decide) wf_RX7_7 (wL_at0 rfl) rfl dX7_shapesOf_91 rfl ?_
        refine g_iload_n C rfl (q := 2) rfl dX7_shapesOf_94 rfl ?_
        obtain ⟨g125, hf⟩ := gd hf
        refine g_lald C (wL_at 1 rfl) (inB_in g125) dX7_shapesOf_95 rfl ?_
        refine g_iload_n C rfl (q := 3) rfl dX7_shapesOf_96 rfl ?_
        refine g_iload_n C rfl (q := 4) rfl dX7_shapesOf_97 rfl ?_
        obtain ⟨q126, hq126, hf⟩ := bd hf
        refine g_callS0 (st' := [.int (shs l1.toNatClampNeg), .int (l1 * (48 : Int32)), .ref (a + 5), .int l1, .ref (a + 4)]) (as := [.long (set l1.toNatClampNeg), .int l2, .int l3]) (st2 := [.long q126, .int (shs l1.toNatClampNeg), .int (l1 * (48 : Int32)), .ref (a + 5), .int l1, .ref (a + 4)]) (k := 3) C ⟨wm_RX7_116, ws_X7_turned, wi_RX7, wk_X7_turned, by decide +kernel⟩ (c_X7_turned (l := kL K) (E := kE K)  _ hq126) (by rw [hKR]; exact ⟨rfl, rfl, ⟨by decide, by decide⟩, Nat.le_refl _, Nat.le_refl _⟩) rfl rfl (by simp [Value.category]) rfl dX7_shapesOf_98 rfl ?_
        obtain ⟨q127, hq127, hf⟩ := bd hf
        refine g_heap (wA_self (z := 288) (wL_at 5 rfl)) ?_
        refine g_callS0 (st' := [.int l1, .ref (a + 4)]) (as := [.ref (a + 5), .int (l1 * (48 : Int32)), .int (shs l1.toNatClampNeg), .long q126]) (st2 := [.int q127.1, .int l1, .ref (a + 4)]) (k := 4) C ⟨wm_RX7_120, ws_X7_insert, wi_RX7, wk_X7_insert, by decide +kernel⟩ (c_X7_insert (l := kL K) (E := kE K) (σ := (wMd σ a th set mir tgt shs shp pls pl tri asm tak pld cel pie nxt cho cbs cub sts stt frm by' wrk oth mvs mov)) (a := a + 5) (z := 288) _ hq127) (by rw [hKR]; exact ⟨rfl, rfl, ⟨by decide, by decide⟩, Nat.le_refl _, Nat.le_refl _⟩) rfl rfl (by simp [Value.category]) rfl dX7_shapesOf_101 rfl ?_
        refine g_heap (h' := (wMd σ a th set mir tgt shs q127.2 pls pl tri asm tak pld cel pie nxt cho cbs cub sts stt frm by' wrk oth mvs mov)) (wA_up (wL_up 5 (Nat.le_of_ble_eq_true rfl) rfl)) ?_
        obtain ⟨g128, hf⟩ := gd hf
        refine g_iast (h' := (wMd σ a th set mir tgt (va_up shs l1.toNatClampNeg q127.1) q127.2 pls pl tri asm tak pld cel pie nxt cho cbs cub sts stt frm by' wrk oth mvs mov)) C (wL_at 4 rfl) (inB_in g128) (wL_up 4 (Nat.le_of_ble_eq_true rfl) rfl) dX7_shapesOf_104 rfl ?_
        refine g_iinc (v := l3 + (1 : Int32)) (lv' := [(3, .int (l3 + (1 : Int32))), (4, .int ((((l2 - l2 / (2 : Int32) * (2 : Int32)) + (l3 &&& (1 : Int32))) + ((l3 >>> ((1 : Int32) &&& 31)) &&& (1 : Int32))) + (l3 >>> ((2 : Int32) &&& 31)))), (0, .ref a), (1, .int l1), (2, .int l2)]) (q := 4) C dX7_shapesOf_105 rfl rfl rfl (by rw [hKN]; decide) rfl ?_
        refine g_goto (pc' := 30) C dX7_shapesOf_108 (by decide) ?_
        refine g_sub (lv' := [(0, .ref a), (1, .int l1), (2, .int l2), (3, .int (l3 + (1 : Int32)))]) [2, 3, 4, 0] rfl ?_
        exact ih _ _ _ _ hf hx
      · replace hf := iff' c123 hf
        refine g_aload_n C rfl (q := 1) rfl dX7_shapesOf_62 rfl ?_
        refine g_get C fc_X7 2 (by decide) wf_RX7_13 (wL_at0 rfl) rfl dX7_shapesOf_63 rfl ?_
        refine g_iload_n C rfl (q := 2) rfl dX7_shapesOf_66 rfl ?_
        obtain ⟨g129, hf⟩ := gd hf
        refine g_zald C (wL_at 2 rfl) (inB_in g129) dX7_shapesOf_67 rfl ?_
        refine g_if_eq (tgt := 105) C dX7_shapesOf_68 (by decide) rfl (fun c130 => ?_) (fun c130 => ?_)
        · replace hf := ift c130 hf
          refine g_iinc (v := l3 + (1 : Int32)) (lv' := [(3, .int (l3 + (1 : Int32))), (4, .int ((((l2 - l2 / (2 : Int32) * (2 : Int32)) + (l3 &&& (1 : Int32))) + ((l3 >>> ((1 : Int32) &&& 31)) &&& (1 : Int32))) + (l3 >>> ((2 : Int32) &&& 31)))), (0, .ref a), (1, .int l1), (2, .int l2)]) (q := 4) C dX7_shapesOf_105 rfl rfl rfl (by rw [hKN]; decide) rfl ?_
          refine g_goto (pc' := 30) C dX7_shapesOf_108 (by decide) ?_
          refine g_sub (lv' := [(0, .ref a), (1, .int l1), (2, .int l2), (3, .int (l3 + (1 : Int32)))]) [2, 3, 4, 0] rfl ?_
          exact ih _ _ _ _ hf hx
        · replace hf := iff' c130 hf
          refine g_aload_n C rfl (q := 1) rfl dX7_shapesOf_71 rfl ?_
          refine g_get C fc_X7 4 (by decide) wf_RX7_21 (wL_at0 rfl) rfl dX7_shapesOf_72 rfl ?_
          refine g_iload_n C rfl (q := 2) rfl dX7_shapesOf_75 rfl ?_
          refine g_aload_n C rfl (q := 1) rfl dX7_shapesOf_76 rfl ?_
          refine g_get C fc_X7 5 (by decide) wf_RX7_24 (wL_at0 rfl) rfl dX7_shapesOf_77 rfl ?_
          refine g_iload_n C rfl (q := 2) rfl dX7_shapesOf_80 rfl ?_
          refine g_bipush (v := 48) C (by decide) dX7_shapesOf_81 rfl ?_
          refine g_imul C dX7_shapesOf_83 rfl ?_
          refine g_aload_n C rfl (q := 1) rfl dX7_shapesOf_84 rfl ?_
          refine g_get C fc_X7 4 (by decide) wf_RX7_21 (wL_at0 rfl) rfl dX7_shapesOf_85 rfl ?_
          refine g_iload_n C rfl (q := 2) rfl dX7_shapesOf_88 rfl ?_
          obtain ⟨g131, hf⟩ := gd hf
          refine g_iald C (wL_at 4 rfl) (inB_in g131) dX7_shapesOf_89 rfl ?_
          refine g_aload_n C rfl (q := 1) rfl dX7_shapesOf_90 rfl ?_
          refine g_get C fc_X7 1 (by decide) wf_RX7_7 (wL_at0 rfl) rfl dX7_shapesOf_91 rfl ?_
          refine g_iload_n C rfl (q := 2) rfl dX7_shapesOf_94 rfl ?_
          obtain ⟨g132, hf⟩ := gd hf
          refine g_lald C (wL_at 1 rfl) (inB_in g132) dX7_shapesOf_95 rfl ?_
          refine g_iload_n C rfl (q := 3) rfl dX7_shapesOf_96 rfl ?_
          refine g_iload_n C rfl (q := 4) rfl dX7_shapesOf_97 rfl ?_
          obtain ⟨q133, hq133, hf⟩ := bd hf
          refine g_callS0 (st' := [.int (shs l1.toNatClampNeg), .int (l1 * (48 : Int32)), .ref (a + 5), .int l1, .ref (a + 4)]) (as := [.long (set l1.toNatClampNeg), .int l2, .int l3]) (st2 := [.long q133, .int (shs l1.toNatClampNeg), .int (l1 * (48 : Int32)), .ref (a + 5), .int l1, .ref (a + 4)]) (k := 3) C ⟨wm_RX7_116, ws_X7_turned, wi_RX7, wk_X7_turned, by decide +kernel⟩ (c_X7_turned (l := kL K) (E := kE K)  _ hq133) (by rw [hKR]; exact ⟨rfl, rfl, ⟨by decide, by decide⟩, Nat.le_refl _, Nat.le_refl _⟩) rfl rfl (by simp [Value.category]) rfl dX7_shapesOf_98 rfl ?_
          obtain ⟨q134, hq134, hf⟩ := bd hf
          refine g_heap (wA_self (z := 288) (wL_at 5 rfl)) ?_
          refine g_callS0 (st' := [.int l1, .ref (a + 4)]) (as := [.ref (a + 5), .int (l1 * (48 : Int32)), .int (shs l1.toNatClampNeg), .long q133]) (st2 := [.int q134.1, .int l1, .ref (a + 4)]) (k := 4) C ⟨wm_RX7_120, ws_X7_insert, wi_RX7, wk_X7_insert, by decide +kernel⟩ (c_X7_insert (l := kL K) (E := kE K) (σ := (wMd σ a th set mir tgt shs shp pls pl tri asm tak pld cel pie nxt cho cbs cub sts stt frm by' wrk oth mvs mov)) (a := a + 5) (z := 288) _ hq134) (by rw [hKR]; exact ⟨rfl, rfl, ⟨by decide, by decide⟩, Nat.le_refl _, Nat.le_refl _⟩) rfl rfl (by simp [Value.category]) rfl dX7_shapesOf_101 rfl ?_
          refine g_heap (h' := (wMd σ a th set mir tgt shs q134.2 pls pl tri asm tak pld cel pie nxt cho cbs cub sts stt frm by' wrk oth mvs mov)) (wA_up (wL_up 5 (Nat.le_of_ble_eq_true rfl) rfl)) ?_
          obtain ⟨g135, hf⟩ := gd hf
          refine g_iast (h' := (wMd σ a th set mir tgt (va_up shs l1.toNatClampNeg q134.1) q134.2 pls pl tri asm tak pld cel pie nxt cho cbs cub sts stt frm by' wrk oth mvs mov)) C (wL_at 4 rfl) (inB_in g135) (wL_up 4 (Nat.le_of_ble_eq_true rfl) rfl) dX7_shapesOf_104 rfl ?_
          refine g_iinc (v := l3 + (1 : Int32)) (lv' := [(3, .int (l3 + (1 : Int32))), (4, .int ((((l2 - l2 / (2 : Int32) * (2 : Int32)) + (l3 &&& (1 : Int32))) + ((l3 >>> ((1 : Int32) &&& 31)) &&& (1 : Int32))) + (l3 >>> ((2 : Int32) &&& 31)))), (0, .ref a), (1, .int l1), (2, .int l2)]) (q := 4) C dX7_shapesOf_105 rfl rfl rfl (by rw [hKN]; decide) rfl ?_
          refine g_goto (pc' := 30) C dX7_shapesOf_108 (by decide) ?_
          refine g_sub (lv' := [(0, .ref a), (1, .int l1), (2, .int l2), (3, .int (l3 + (1 : Int32)))]) [2, 3, 4, 0] rfl ?_
          exact ih _ _ _ _ hf hx
set_option maxHeartbeats 2000000 in
set_option maxRecDepth 20000 in
theorem g_X7_shapesOf_22 {K : KX} {n : Nat} {σ : AH} {a : Nat}  {l1 : Int32} {th : Int32} {set : Nat → Int64} {mir : Nat → Int32} {tgt : Nat → Int32} {pls : Nat → Int32} {pl : Nat → Int64} {tri : Int32} {asm : Nat → Int64} {tak : Nat → Int64} {pld : Nat → Int32} {cel : Nat → Int32} {pie : Nat → Int32} {nxt : Nat → Int32} {cho : Nat → Int64} {cbs : Nat → Int32} {cub : Nat → Int32} {sts : Int32} {stt : Nat → Int32} {frm : Nat → Int32} {by' : Nat → Int32} {wrk : Nat → Int32} {oth : Nat → Int32} {mvs : Int32} {mov : Nat → Int32} (C : Cx K RX7 "shapesOf" cX7_shapesOf none) (hKR : kR K = ({ frames := 2, cells := 0, slots := 0, locals := 58 } : Room)) (hKN : kN K = 5) : ∀ (fu : Nat) (l2 : Int32) (shs : Nat → Int32) (shp : Nat → Int64) (res : ((Nat → Int32) × (Nat → Int64))), f_X7_shapesOf_22 l1 set mir fu l2 shs shp = some res → G K 0 0 117 [] [] (wMd σ a th set mir tgt res.1 res.2 pls pl tri asm tak pld cel pie nxt cho cbs cub sts stt frm by' wrk oth mvs mov) n → G K 0 0 22 [(0, .ref a), (1, .int l1), (2, .int l2)] [] (wMd σ a th set mir tgt shs shp pls pl tri asm tak pld cel pie nxt cho cbs cub sts stt frm by' wrk oth mvs mov) n := by
  intro fu
  induction fu with
  | zero =>
    intro l2 shs shp res hf
    exact absurd hf (by simp [f_X7_shapesOf_22])
  | succ fu ih =>
    intro l2 shs shp res hf hx
    rw [f_X7_shapesOf_22] at hf
    refine g_iload_n C rfl (q := 2) rfl dX7_shapesOf_22 rfl ?_
    refine g_bipush (v := 6) C (by decide) dX7_shapesOf_23 rfl ?_
    refine g_icmp_ge (tgt := 117) C dX7_shapesOf_25 (by decide) rfl (fun c93 => ?_) (fun c93 => ?_)
    · replace hf := ift c93 hf
      obtain rfl := Option.some.inj hf
      refine g_sub (lv' := []) [] rfl ?_
      exact hx
    · replace hf := iff' c93 hf
      refine g_iconst (v := 0) C (by decide) dX7_shapesOf_28 rfl ?_
      refine g_istore_n (i := 3) (lv' := [(3, .int (0 : Int32)), (0, .ref a), (1, .int l1), (2, .int l2)]) C dX7_shapesOf_29 rfl rfl (by rw [hKN]; decide) rfl ?_
      refine g_sub (lv' := [(0, .ref a), (1, .int l1), (2, .int l2), (3, .int (0 : Int32))]) [1, 2, 3, 0] rfl ?_
      obtain ⟨q136, hq136, hf⟩ := bd hf
      refine g_X7_shapesOf_30 (l1 := l1) (l2 := l2) (th := th) (set := set) (mir := mir) (tgt := tgt) (pls := pls) (pl := pl) (tri := tri) (asm := asm) (tak := tak) (pld := pld) (cel := cel) (pie := pie) (nxt := nxt) (cho := cho) (cbs := cbs) (cub := cub) (sts := sts) (stt := stt) (frm := frm) (by' := by') (wrk := wrk) (oth := oth) (mvs := mvs) (mov := mov) C hKR hKN _ _ _ _ _ hq136 ?_
      refine g_iinc (v := l2 + (1 : Int32)) (lv' := [(2, .int (l2 + (1 : Int32))), (0, .ref a), (1, .int l1)]) (q := 2) C dX7_shapesOf_111 rfl rfl rfl (by rw [hKN]; decide) rfl ?_
      refine g_goto (pc' := 22) C dX7_shapesOf_114 (by decide) ?_
      refine g_sub (lv' := [(0, .ref a), (1, .int l1), (2, .int (l2 + (1 : Int32)))]) [1, 2, 0] rfl ?_
      exact ih _ _ _ _ hf hx
set_option maxHeartbeats 2000000 in
set_option maxRecDepth 20000 in
theorem c_X7_shapesOf {l : Launch} {E : Ex} {n : Nat} {σ : AH} {a : Nat}  {th : Int32} {set : Nat → Int64} {mir : Nat → Int32} {tgt : Nat → Int32} {shs : Nat → Int32} {shp : Nat → Int64} {pls : Nat → Int32} {pl : Nat → Int64} {tri : Int32} {asm : Nat → Int64} {tak : Nat → Int64} {pld : Nat → Int32} {cel : Nat → Int32} {pie : Nat → Int32} {nxt : Nat → Int32} {cho : Nat → Int64} {cbs : Nat → Int32} {cub : Nat → Int32} {sts : Int32} {stt : Nat → Int32} {frm : Nat → Int32} {by' : Nat → Int32} {wrk : Nat → Int32} {oth : Nat → Int32} {mvs : Int32} {mov : Nat → Int32} {p : Int32} {fu : Nat} (res : ((Nat → Int32) × (Nat → Int64))) (hf : f_X7_shapesOf fu set mir shs shp p = some res) : Con l E yX7_shapesOf (.code yX7_shapesOf cX7_shapesOf 5 none :: TT) ({ frames := 2, cells := 0, slots := 0, locals := 58 } : Room) 0 0 [.ref a, .int p] (wMd σ a th set mir tgt shs shp pls pl tri asm tak pld cel pie nxt cho cbs cub sts stt frm by' wrk oth mvs mov) n none (wMd σ a th set mir tgt res.1 res.2 pls pl tri asm tak pld cel pie nxt cho cbs cub sts stt frm by' wrk oth mvs mov) n := by
  refine con_intro (by decide +kernel) (Nat.le_of_ble_eq_true rfl) ?_
  intro K C hKR hKL hKE hKN hKQ
  subst hKL
  subst hKE
  have C : Cx K RX7 "shapesOf" cX7_shapesOf none := C
  show G K 0 0 0 [(0, .ref a), (1, .int p)] [] (wMd σ a th set mir tgt shs shp pls pl tri asm tak pld cel pie nxt cho cbs cub sts stt frm by' wrk oth mvs mov) n
  unfold f_X7_shapesOf at hf
  refine g_aload_n C rfl (q := 0) rfl dX7_shapesOf_0 rfl ?_
  refine g_get C fc_X7 4 (by decide) wf_RX7_21 (wL_at0 rfl) rfl dX7_shapesOf_1 rfl ?_
  refine g_iload_n C rfl (q := 1) rfl dX7_shapesOf_4 rfl ?_
  refine g_iconst (v := 0) C (by decide) dX7_shapesOf_5 rfl ?_
  obtain ⟨g1, hf⟩ := gd hf
  refine g_iast (h' := (wMd σ a th set mir tgt (va_up shs p.toNatClampNeg (0 : Int32)) shp pls pl tri asm tak pld cel pie nxt cho cbs cub sts stt frm by' wrk oth mvs mov)) C (wL_at 4 rfl) (inB_in g1) (wL_up 4 (Nat.le_of_ble_eq_true rfl) rfl) dX7_shapesOf_6 rfl ?_
  refine g_aload_n C rfl (q := 0) rfl dX7_shapesOf_7 rfl ?_
  refine g_get C fc_X7 1 (by decide) wf_RX7_7 (wL_at0 rfl) rfl dX7_shapesOf_8 rfl ?_
  refine g_iload_n C rfl (q := 1) rfl dX7_shapesOf_11 rfl ?_
  obtain ⟨g2, hf⟩ := gd hf
  refine g_lald C (wL_at 1 rfl) (inB_in g2) dX7_shapesOf_12 rfl ?_
  obtain ⟨q3, hq3, hf⟩ := bd hf
  refine g_callS0 (st' := []) (as := [.long (set p.toNatClampNeg)]) (st2 := [.int q3]) (k := 1) C ⟨wm_RX7_112, ws_X7_isMade, wi_RX7, wk_X7_isMade, by decide +kernel⟩ (c_X7_isMade (l := kL K) (E := kE K)  _ hq3) (by rw [hKR]; exact ⟨rfl, rfl, ⟨by decide, by decide⟩, Nat.le_refl _, Nat.le_refl _⟩) rfl rfl (by simp) rfl dX7_shapesOf_13 rfl ?_
  refine g_if_ne (tgt := 20) C dX7_shapesOf_16 (by decide) rfl (fun c4 => ?_) (fun c4 => ?_)
  · replace hf := iff' c4 hf
    refine g_iconst (v := 0) C (by decide) dX7_shapesOf_20 rfl ?_
    refine g_istore_n (i := 2) (lv' := [(2, .int (0 : Int32)), (0, .ref a), (1, .int p)]) C dX7_shapesOf_21 rfl rfl (by rw [hKN]; decide) rfl ?_
    refine g_sub (lv' := [(0, .ref a), (1, .int p), (2, .int (0 : Int32))]) [1, 2, 0] rfl ?_
    obtain ⟨q137, hq137, hf⟩ := bd hf
    refine g_X7_shapesOf_22 (l1 := p) (th := th) (set := set) (mir := mir) (tgt := tgt) (pls := pls) (pl := pl) (tri := tri) (asm := asm) (tak := tak) (pld := pld) (cel := cel) (pie := pie) (nxt := nxt) (cho := cho) (cbs := cbs) (cub := cub) (sts := sts) (stt := stt) (frm := frm) (by' := by') (wrk := wrk) (oth := oth) (mvs := mvs) (mov := mov) C hKR hKN _ _ _ _ _ hq137 ?_
    obtain rfl := Option.some.inj hf
    exact g_vret C hKQ dX7_shapesOf_117
  · replace hf := ift c4 hf
    obtain rfl := Option.some.inj hf
    exact g_vret C hKQ dX7_shapesOf_19
def f_X7_shapes (fu : Nat) (set : Nat → Int64) (mir : Nat → Int32) (shs : Nat → Int32) (shp : Nat → Int64) (p : Int32) : Option (Int32 × Int32 × (Nat → Int32) × (Nat → Int64)) := ((f_X7_in p (0 : Int32) (5 : Int32)).bind fun q1 => ((f_X7_says q1).bind fun q2 => (if q2.1 = 0 then some ((0 : Int32), q2.2, shs, shp) else ((f_X7_shapesOf fu set mir shs shp p).bind fun q4 => (if inB p 6 = true then some (q4.1 p.toNatClampNeg, q2.2, q4.1, q4.2) else none)))))
set_option maxHeartbeats 2000000 in
set_option maxRecDepth 20000 in
theorem c_X7_shapes {l : Launch} {E : Ex} {n : Nat} {σ : AH} {a : Nat}  {th : Int32} {set : Nat → Int64} {mir : Nat → Int32} {tgt : Nat → Int32} {shs : Nat → Int32} {shp : Nat → Int64} {pls : Nat → Int32} {pl : Nat → Int64} {tri : Int32} {asm : Nat → Int64} {tak : Nat → Int64} {pld : Nat → Int32} {cel : Nat → Int32} {pie : Nat → Int32} {nxt : Nat → Int32} {cho : Nat → Int64} {cbs : Nat → Int32} {cub : Nat → Int32} {sts : Int32} {stt : Nat → Int32} {frm : Nat → Int32} {by' : Nat → Int32} {wrk : Nat → Int32} {oth : Nat → Int32} {mvs : Int32} {mov : Nat → Int32} {p : Int32} {fu : Nat} (res : (Int32 × Int32 × (Nat → Int32) × (Nat → Int64))) (hf : f_X7_shapes fu set mir shs shp p = some res) : Con l E yX7_shapes (.code yX7_shapes cX7_shapes 2 (some .int) :: TT) ({ frames := 3, cells := 0, slots := 0, locals := 82 } : Room) 0 0 [.ref a, .int p] (wMd σ a th set mir tgt shs shp pls pl tri asm tak pld cel pie nxt cho cbs cub sts stt frm by' wrk oth mvs mov) n (some (.int res.1)) (wMd σ a res.2.1 set mir tgt res.2.2.1 res.2.2.2 pls pl tri asm tak pld cel pie nxt cho cbs cub sts stt frm by' wrk oth mvs mov) n := by
  refine con_intro (by decide +kernel) (Nat.le_of_ble_eq_true rfl) ?_
  intro K C hKR hKL hKE hKN hKQ
  subst hKL
  subst hKE
  have C : Cx K RX7 "shapes" cX7_shapes (some .int) := C
  show G K 0 0 0 [(0, .ref a), (1, .int p)] [] (wMd σ a th set mir tgt shs shp pls pl tri asm tak pld cel pie nxt cho cbs cub sts stt frm by' wrk oth mvs mov) n
  unfold f_X7_shapes at hf
  refine g_aload_n C rfl (q := 0) rfl dX7_shapes_0 rfl ?_
  refine g_iload_n C rfl (q := 1) rfl dX7_shapes_1 rfl ?_
  refine g_iconst (v := 0) C (by decide) dX7_shapes_2 rfl ?_
  refine g_iconst (v := 5) C (by decide) dX7_shapes_3 rfl ?_
  obtain ⟨q1, hq1, hf⟩ := bd hf
  refine g_callS0 (st' := [.ref a]) (as := [.int p, .int (0 : Int32), .int (5 : Int32)]) (st2 := [.int q1, .ref a]) (k := 3) C ⟨wm_RX7_88, ws_X7_in, wi_RX7, wk_X7_in, by decide +kernel⟩ (c_X7_in (l := kL K) (E := kE K)  _ hq1) (by rw [hKR]; exact ⟨rfl, rfl, ⟨by decide, by decide⟩, Nat.le_refl _, Nat.le_refl _⟩) rfl rfl (by simp [Value.category]) rfl dX7_shapes_4 rfl ?_
  obtain ⟨q2, hq2, hf⟩ := bd hf
  refine g_callV0 (st' := []) (as := [.int q1]) (st2 := [.int q2.1]) (k := 1) C ⟨wm_RX7_96, wn_X7_says, wv_X7_says, wi_RX7, wk_X7_says, by decide +kernel⟩ rfl (wL_at0 rfl) (c_X7_says (l := kL K) (E := kE K)  _ hq2) (by rw [hKR]; exact ⟨rfl, rfl, ⟨by decide, by decide⟩, Nat.le_refl _, Nat.le_refl _⟩) rfl rfl (by simp) rfl dX7_shapes_7 rfl ?_
  refine g_if_ne (tgt := 15) C dX7_shapes_10 (by decide) rfl (fun c3 => ?_) (fun c3 => ?_)
  · replace hf := iff' c3 hf
    refine g_aload_n C rfl (q := 0) rfl dX7_shapes_15 rfl ?_
    refine g_iload_n C rfl (q := 1) rfl dX7_shapes_16 rfl ?_
    obtain ⟨q4, hq4, hf⟩ := bd hf
    refine g_callV0 (st' := []) (as := [.int p]) (st2 := []) (k := 1) C ⟨wm_RX7_124, wn_X7_shapesOf, wv_X7_shapesOf, wi_RX7, wk_X7_shapesOf, by decide +kernel⟩ rfl (wL_at0 rfl) (c_X7_shapesOf (l := kL K) (E := kE K)  _ hq4) (by rw [hKR]; exact ⟨rfl, rfl, ⟨by decide, by decide⟩, Nat.le_refl _, Nat.le_refl _⟩) rfl rfl (by simp) rfl dX7_shapes_17 rfl ?_
    refine g_aload_n C rfl (q := 0) rfl dX7_shapes_20 rfl ?_
    refine g_get C fc_X7 4 (by decide) wf_RX7_21 (wL_at0 rfl) rfl dX7_shapes_21 rfl ?_
    refine g_iload_n C rfl (q := 1) rfl dX7_shapes_24 rfl ?_
    obtain ⟨g5, hf⟩ := gd hf
    refine g_iald C (wL_at 4 rfl) (inB_in g5) dX7_shapes_25 rfl ?_
    obtain rfl := Option.some.inj hf
    exact g_iret C hKQ dX7_shapes_26
  · replace hf := ift c3 hf
    refine g_iconst (v := 0) C (by decide) dX7_shapes_13 rfl ?_
    obtain rfl := Option.some.inj hf
    exact g_iret C hKQ dX7_shapes_14
def f_X7_shape (fu : Nat) (set : Nat → Int64) (mir : Nat → Int32) (shs : Nat → Int32) (shp : Nat → Int64) (p : Int32) (k : Int32) : Option (Int64 × Int32 × (Nat → Int32) × (Nat → Int64)) := ((f_X7_in p (0 : Int32) (5 : Int32)).bind fun q1 => ((f_X7_says q1).bind fun q2 => (if q2.1 = 0 then some ((0 : Int64), q2.2, shs, shp) else ((f_X7_shapesOf fu set mir shs shp p).bind fun q4 => (if inB p 6 = true then ((f_X7_in k (0 : Int32) ((q4.1 p.toNatClampNeg) - (1 : Int32))).bind fun q6 => (if (if q6 = 0 then (2 : Int32) else (0 : Int32)) ≤ 0 then (if inB ((p * (48 : Int32)) + k) 288 = true then some (q4.2 ((p * (48 : Int32)) + k).toNatClampNeg, (if q6 = 0 then (2 : Int32) else (0 : Int32)), q4.1, q4.2) else none) else some ((0 : Int64), (if q6 = 0 then (2 : Int32) else (0 : Int32)), q4.1, q4.2))) else none)))))
set_option maxHeartbeats 2000000 in
set_option maxRecDepth 20000 in
theorem c_X7_shape {l : Launch} {E : Ex} {n : Nat} {σ : AH} {a : Nat}  {th : Int32} {set : Nat → Int64} {mir : Nat → Int32} {tgt : Nat → Int32} {shs : Nat → Int32} {shp : Nat → Int64} {pls : Nat → Int32} {pl : Nat → Int64} {tri : Int32} {asm : Nat → Int64} {tak : Nat → Int64} {pld : Nat → Int32} {cel : Nat → Int32} {pie : Nat → Int32} {nxt : Nat → Int32} {cho : Nat → Int64} {cbs : Nat → Int32} {cub : Nat → Int32} {sts : Int32} {stt : Nat → Int32} {frm : Nat → Int32} {by' : Nat → Int32} {wrk : Nat → Int32} {oth : Nat → Int32} {mvs : Int32} {mov : Nat → Int32} {p : Int32} {k : Int32} {fu : Nat} (res : (Int64 × Int32 × (Nat → Int32) × (Nat → Int64))) (hf : f_X7_shape fu set mir shs shp p k = some res) : Con l E yX7_shape (.code yX7_shape cX7_shape 3 (some .long) :: TT) ({ frames := 3, cells := 0, slots := 0, locals := 82 } : Room) 0 0 [.ref a, .int p, .int k] (wMd σ a th set mir tgt shs shp pls pl tri asm tak pld cel pie nxt cho cbs cub sts stt frm by' wrk oth mvs mov) n (some (.long res.1)) (wMd σ a res.2.1 set mir tgt res.2.2.1 res.2.2.2 pls pl tri asm tak pld cel pie nxt cho cbs cub sts stt frm by' wrk oth mvs mov) n := by
  refine con_intro (by decide +kernel) (Nat.le_of_ble_eq_true rfl) ?_
  intro K C hKR hKL hKE hKN hKQ
  subst hKL
  subst hKE
  have C : Cx K RX7 "shape" cX7_shape (some .long) := C
  show G K 0 0 0 [(0, .ref a), (1, .int p), (2, .int k)] [] (wMd σ a th set mir tgt shs shp pls pl tri asm tak pld cel pie nxt cho cbs cub sts stt frm by' wrk oth mvs mov) n
  unfold f_X7_shape at hf
  refine g_aload_n C rfl (q := 0) rfl dX7_shape_0 rfl ?_
  refine g_iload_n C rfl (q := 1) rfl dX7_shape_1 rfl ?_
  refine g_iconst (v := 0) C (by decide) dX7_shape_2 rfl ?_
  refine g_iconst (v := 5) C (by decide) dX7_shape_3 rfl ?_
  obtain ⟨q1, hq1, hf⟩ := bd hf
  refine g_callS0 (st' := [.ref a]) (as := [.int p, .int (0 : Int32), .int (5 : Int32)]) (st2 := [.int q1, .ref a]) (k := 3) C ⟨wm_RX7_88, ws_X7_in, wi_RX7, wk_X7_in, by decide +kernel⟩ (c_X7_in (l := kL K) (E := kE K)  _ hq1) (by rw [hKR]; exact ⟨rfl, rfl, ⟨by decide, by decide⟩, Nat.le_refl _, Nat.le_refl _⟩) rfl rfl (by simp [Value.category]) rfl dX7_shape_4 rfl ?_
  obtain ⟨q2, hq2, hf⟩ := bd hf
  refine g_callV0 (st' := []) (as := [.int q1]) (st2 := [.int q2.1]) (k := 1) C ⟨wm_RX7_96, wn_X7_says, wv_X7_says, wi_RX7, wk_X7_says, by decide +kernel⟩ rfl (wL_at0 rfl) (c_X7_says (l := kL K) (E := kE K)  _ hq2) (by rw [hKR]; exact ⟨rfl, rfl, ⟨by decide, by decide⟩, Nat.le_refl _, Nat.le_refl _⟩) rfl rfl (by simp) rfl dX7_shape_7 rfl ?_
  refine g_if_ne (tgt := 15) C dX7_shape_10 (by decide) rfl (fun c3 => ?_) (fun c3 => ?_)
  · replace hf := iff' c3 hf
    refine g_aload_n C rfl (q := 0) rfl dX7_shape_15 rfl ?_
    refine g_iload_n C rfl (q := 1) rfl dX7_shape_16 rfl ?_
    obtain ⟨q4, hq4, hf⟩ := bd hf
    refine g_callV0 (st' := []) (as := [.int p]) (st2 := []) (k := 1) C ⟨wm_RX7_124, wn_X7_shapesOf, wv_X7_shapesOf, wi_RX7, wk_X7_shapesOf, by decide +kernel⟩ rfl (wL_at0 rfl) (c_X7_shapesOf (l := kL K) (E := kE K)  _ hq4) (by rw [hKR]; exact ⟨rfl, rfl, ⟨by decide, by decide⟩, Nat.le_refl _, Nat.le_refl _⟩) rfl rfl (by simp) rfl dX7_shape_17 rfl ?_
    refine g_aload_n C rfl (q := 0) rfl dX7_shape_20 rfl ?_
    refine g_iload_n C rfl (q := 2) rfl dX7_shape_21 rfl ?_
    refine g_iconst (v := 0) C (by decide) dX7_shape_22 rfl ?_
    refine g_aload_n C rfl (q := 0) rfl dX7_shape_23 rfl ?_
    refine g_get C fc_X7 4 (by decide) wf_RX7_21 (wL_at0 rfl) rfl dX7_shape_24 rfl ?_
    refine g_iload_n C rfl (q := 1) rfl dX7_shape_27 rfl ?_
    obtain ⟨g5, hf⟩ := gd hf
    refine g_iald C (wL_at 4 rfl) (inB_in g5) dX7_shape_28 rfl ?_
    refine g_iconst (v := 1) C (by decide) dX7_shape_29 rfl ?_
    refine g_isub C dX7_shape_30 rfl ?_
    obtain ⟨q6, hq6, hf⟩ := bd hf
    refine g_callS0 (st' := [.ref a]) (as := [.int k, .int (0 : Int32), .int ((q4.1 p.toNatClampNeg) - (1 : Int32))]) (st2 := [.int q6, .ref a]) (k := 3) C ⟨wm_RX7_88, ws_X7_in, wi_RX7, wk_X7_in, by decide +kernel⟩ (c_X7_in (l := kL K) (E := kE K)  _ hq6) (by rw [hKR]; exact ⟨rfl, rfl, ⟨by decide, by decide⟩, Nat.le_refl _, Nat.le_refl _⟩) rfl rfl (by simp [Value.category]) rfl dX7_shape_31 rfl ?_
    have j9 : G K 0 0 42 [(0, .ref a), (1, .int p), (2, .int k)] [.int (if q6 = 0 then (2 : Int32) else (0 : Int32)), .ref a] (wMd σ a q2.2 set mir tgt q4.1 q4.2 pls pl tri asm tak pld cel pie nxt cho cbs cub sts stt frm by' wrk oth mvs mov) n := by
      refine g_put (h' := (wMd σ a (if q6 = 0 then (2 : Int32) else (0 : Int32)) set mir tgt q4.1 q4.2 pls pl tri asm tak pld cel pie nxt cho cbs cub sts stt frm by' wrk oth mvs mov)) C fc_X7 0 (by decide) wf_RX7_78 rfl rfl rfl (Nat.le_of_ble_eq_true rfl) (wL_at0 rfl) (wL_up0 (Nat.le_of_ble_eq_true rfl) rfl) dX7_shape_42 rfl ?_
      refine g_aload_n C rfl (q := 0) rfl dX7_shape_45 rfl ?_
      refine g_get C fc_X7 0 (by decide) wf_RX7_78 (wL_at0 rfl) rfl dX7_shape_46 rfl ?_
      refine g_if_le (tgt := 56) C dX7_shape_49 (by decide) rfl (fun c7 => ?_) (fun c7 => ?_)
      · replace hf := ift c7 hf
        refine g_aload_n C rfl (q := 0) rfl dX7_shape_56 rfl ?_
        refine g_get C fc_X7 5 (by decide) wf_RX7_24 (wL_at0 rfl) rfl dX7_shape_57 rfl ?_
        refine g_iload_n C rfl (q := 1) rfl dX7_shape_60 rfl ?_
        refine g_bipush (v := 48) C (by decide) dX7_shape_61 rfl ?_
        refine g_imul C dX7_shape_63 rfl ?_
        refine g_iload_n C rfl (q := 2) rfl dX7_shape_64 rfl ?_
        refine g_iadd C dX7_shape_65 rfl ?_
        obtain ⟨g8, hf⟩ := gd hf
        refine g_lald C (wL_at 5 rfl) (inB_in g8) dX7_shape_66 rfl ?_
        obtain rfl := Option.some.inj hf
        exact g_lret C hKQ dX7_shape_67
      · replace hf := iff' c7 hf
        refine g_lconst (v := 0) C (by decide) dX7_shape_52 rfl ?_
        refine g_goto (pc' := 67) C dX7_shape_53 (by decide) ?_
        obtain rfl := Option.some.inj hf
        exact g_lret C hKQ dX7_shape_67
    refine g_if_eq (tgt := 41) C dX7_shape_34 (by decide) rfl (fun c10 => ?_) (fun c10 => ?_)
    · refine g_iconst (v := 2) C (by decide) dX7_shape_41 rfl ?_
      exact g_topI (by rw [if_pos c10]) j9
    · refine g_iconst (v := 0) C (by decide) dX7_shape_37 rfl ?_
      refine g_goto (pc' := 42) C dX7_shape_38 (by decide) ?_
      exact g_topI (by rw [if_neg c10]) j9
  · replace hf := ift c3 hf
    refine g_lconst (v := 0) C (by decide) dX7_shape_13 rfl ?_
    obtain rfl := Option.some.inj hf
    exact g_lret C hKQ dX7_shape_14
def f_X7_target (tgt : Nat → Int32) (c : Int32) (kind : Int32) : Option (Int32 × (Nat → Int32)) := ((f_X7_in c (0 : Int32) (63 : Int32)).bind fun q1 => (if q1 = 0 then ((f_X7_says (0 : Int32)).bind fun q3 => (if q3.1 = 0 then some (q3.2, tgt) else (if inB c 64 = true then some (q3.2, va_up tgt c.toNatClampNeg kind) else none))) else ((f_X7_in kind (0 : Int32) (2 : Int32)).bind fun q6 => ((f_X7_says (if q6 = 0 then (0 : Int32) else (1 : Int32))).bind fun q7 => (if q7.1 = 0 then some (q7.2, tgt) else (if inB c 64 = true then some (q7.2, va_up tgt c.toNatClampNeg kind) else none))))))
set_option maxHeartbeats 2000000 in
set_option maxRecDepth 20000 in
theorem c_X7_target {l : Launch} {E : Ex} {n : Nat} {σ : AH} {a : Nat}  {th : Int32} {set : Nat → Int64} {mir : Nat → Int32} {tgt : Nat → Int32} {shs : Nat → Int32} {shp : Nat → Int64} {pls : Nat → Int32} {pl : Nat → Int64} {tri : Int32} {asm : Nat → Int64} {tak : Nat → Int64} {pld : Nat → Int32} {cel : Nat → Int32} {pie : Nat → Int32} {nxt : Nat → Int32} {cho : Nat → Int64} {cbs : Nat → Int32} {cub : Nat → Int32} {sts : Int32} {stt : Nat → Int32} {frm : Nat → Int32} {by' : Nat → Int32} {wrk : Nat → Int32} {oth : Nat → Int32} {mvs : Int32} {mov : Nat → Int32} {c : Int32} {kind : Int32} (res : (Int32 × (Nat → Int32))) (hf : f_X7_target tgt c kind = some res) : Con l E yX7_target (.code yX7_target cX7_target 3 none :: TT) ({ frames := 1, cells := 0, slots := 0, locals := 22 } : Room) 0 0 [.ref a, .int c, .int kind] (wMd σ a th set mir tgt shs shp pls pl tri asm tak pld cel pie nxt cho cbs cub sts stt frm by' wrk oth mvs mov) n none (wMd σ a res.1 set mir res.2 shs shp pls pl tri asm tak pld cel pie nxt cho cbs cub sts stt frm by' wrk oth mvs mov) n := by
  refine con_intro (by decide +kernel) (Nat.le_of_ble_eq_true rfl) ?_
  intro K C hKR hKL hKE hKN hKQ
  subst hKL
  subst hKE
  have C : Cx K RX7 "target" cX7_target none := C
  show G K 0 0 0 [(0, .ref a), (1, .int c), (2, .int kind)] [] (wMd σ a th set mir tgt shs shp pls pl tri asm tak pld cel pie nxt cho cbs cub sts stt frm by' wrk oth mvs mov) n
  unfold f_X7_target at hf
  refine g_aload_n C rfl (q := 0) rfl dX7_target_0 rfl ?_
  refine g_iload_n C rfl (q := 1) rfl dX7_target_1 rfl ?_
  refine g_iconst (v := 0) C (by decide) dX7_target_2 rfl ?_
  refine g_bipush (v := 63) C (by decide) dX7_target_3 rfl ?_
  obtain ⟨q1, hq1, hf⟩ := bd hf
  refine g_callS0 (st' := [.ref a]) (as := [.int c, .int (0 : Int32), .int (63 : Int32)]) (st2 := [.int q1, .ref a]) (k := 3) C ⟨wm_RX7_88, ws_X7_in, wi_RX7, wk_X7_in, by decide +kernel⟩ (c_X7_in (l := kL K) (E := kE K)  _ hq1) (by rw [hKR]; exact ⟨rfl, rfl, ⟨by decide, by decide⟩, Nat.le_refl _, Nat.le_refl _⟩) rfl rfl (by simp [Value.category]) rfl dX7_target_5 rfl ?_
  refine g_if_eq (tgt := 24) C dX7_target_8 (by decide) rfl (fun c2 => ?_) (fun c2 => ?_)
  · replace hf := ift c2 hf
    refine g_iconst (v := 0) C (by decide) dX7_target_24 rfl ?_
    obtain ⟨q3, hq3, hf⟩ := bd hf
    refine g_callV0 (st' := []) (as := [.int (0 : Int32)]) (st2 := [.int q3.1]) (k := 1) C ⟨wm_RX7_96, wn_X7_says, wv_X7_says, wi_RX7, wk_X7_says, by decide +kernel⟩ rfl (wL_at0 rfl) (c_X7_says (l := kL K) (E := kE K)  _ hq3) (by rw [hKR]; exact ⟨rfl, rfl, ⟨by decide, by decide⟩, Nat.le_refl _, Nat.le_refl _⟩) rfl rfl (by simp) rfl dX7_target_25 rfl ?_
    refine g_if_eq (tgt := 38) C dX7_target_28 (by decide) rfl (fun c4 => ?_) (fun c4 => ?_)
    · replace hf := ift c4 hf
      obtain rfl := Option.some.inj hf
      exact g_vret C hKQ dX7_target_38
    · replace hf := iff' c4 hf
      refine g_aload_n C rfl (q := 0) rfl dX7_target_31 rfl ?_
      refine g_get C fc_X7 3 (by decide) wf_RX7_17 (wL_at0 rfl) rfl dX7_target_32 rfl ?_
      refine g_iload_n C rfl (q := 1) rfl dX7_target_35 rfl ?_
      refine g_iload_n C rfl (q := 2) rfl dX7_target_36 rfl ?_
      obtain ⟨g5, hf⟩ := gd hf
      refine g_iast (h' := (wMd σ a q3.2 set mir (va_up tgt c.toNatClampNeg kind) shs shp pls pl tri asm tak pld cel pie nxt cho cbs cub sts stt frm by' wrk oth mvs mov)) C (wL_at 3 rfl) (inB_in g5) (wL_up 3 (Nat.le_of_ble_eq_true rfl) rfl) dX7_target_37 rfl ?_
      obtain rfl := Option.some.inj hf
      exact g_vret C hKQ dX7_target_38
  · replace hf := iff' c2 hf
    refine g_iload_n C rfl (q := 2) rfl dX7_target_11 rfl ?_
    refine g_iconst (v := 0) C (by decide) dX7_target_12 rfl ?_
    refine g_iconst (v := 2) C (by decide) dX7_target_13 rfl ?_
    obtain ⟨q6, hq6, hf⟩ := bd hf
    refine g_callS0 (st' := [.ref a]) (as := [.int kind, .int (0 : Int32), .int (2 : Int32)]) (st2 := [.int q6, .ref a]) (k := 3) C ⟨wm_RX7_88, ws_X7_in, wi_RX7, wk_X7_in, by decide +kernel⟩ (c_X7_in (l := kL K) (E := kE K)  _ hq6) (by rw [hKR]; exact ⟨rfl, rfl, ⟨by decide, by decide⟩, Nat.le_refl _, Nat.le_refl _⟩) rfl rfl (by simp [Value.category]) rfl dX7_target_14 rfl ?_
    have j10 : G K 0 0 25 [(0, .ref a), (1, .int c), (2, .int kind)] [.int (if q6 = 0 then (0 : Int32) else (1 : Int32)), .ref a] (wMd σ a th set mir tgt shs shp pls pl tri asm tak pld cel pie nxt cho cbs cub sts stt frm by' wrk oth mvs mov) n := by
      obtain ⟨q7, hq7, hf⟩ := bd hf
      refine g_callV0 (st' := []) (as := [.int (if q6 = 0 then (0 : Int32) else (1 : Int32))]) (st2 := [.int q7.1]) (k := 1) C ⟨wm_RX7_96, wn_X7_says, wv_X7_says, wi_RX7, wk_X7_says, by decide +kernel⟩ rfl (wL_at0 rfl) (c_X7_says (l := kL K) (E := kE K)  _ hq7) (by rw [hKR]; exact ⟨rfl, rfl, ⟨by decide, by decide⟩, Nat.le_refl _, Nat.le_refl _⟩) rfl rfl (by simp) rfl dX7_target_25 rfl ?_
      refine g_if_eq (tgt := 38) C dX7_target_28 (by decide) rfl (fun c8 => ?_) (fun c8 => ?_)
      · replace hf := ift c8 hf
        obtain rfl := Option.some.inj hf
        exact g_vret C hKQ dX7_target_38
      · replace hf := iff' c8 hf
        refine g_aload_n C rfl (q := 0) rfl dX7_target_31 rfl ?_
        refine g_get C fc_X7 3 (by decide) wf_RX7_17 (wL_at0 rfl) rfl dX7_target_32 rfl ?_
        refine g_iload_n C rfl (q := 1) rfl dX7_target_35 rfl ?_
        refine g_iload_n C rfl (q := 2) rfl dX7_target_36 rfl ?_
        obtain ⟨g9, hf⟩ := gd hf
        refine g_iast (h' := (wMd σ a q7.2 set mir (va_up tgt c.toNatClampNeg kind) shs shp pls pl tri asm tak pld cel pie nxt cho cbs cub sts stt frm by' wrk oth mvs mov)) C (wL_at 3 rfl) (inB_in g9) (wL_up 3 (Nat.le_of_ble_eq_true rfl) rfl) dX7_target_37 rfl ?_
        obtain rfl := Option.some.inj hf
        exact g_vret C hKQ dX7_target_38
    refine g_if_eq (tgt := 24) C dX7_target_17 (by decide) rfl (fun c11 => ?_) (fun c11 => ?_)
    · refine g_iconst (v := 0) C (by decide) dX7_target_24 rfl ?_
      exact g_topI (by rw [if_pos c11]) j10
    · refine g_iconst (v := 1) C (by decide) dX7_target_20 rfl ?_
      refine g_goto (pc' := 25) C dX7_target_21 (by decide) ?_
      exact g_topI (by rw [if_neg c11]) j10
def f_X7_placesOf_77  (l4 : Int64) (tgt : Nat → Int32) : Nat → Int32 → Int32 → Option Int32
  | 0, _, _ => none
  | fu + 1, l6, l7 => (if (64 : Int32) ≤ l7 then some l6 else (if l6 = 0 then some l6 else ((f_X7_has l4 l7).bind fun q278 => (if q278 = 0 then f_X7_placesOf_77 l4 tgt fu (1 : Int32) (l7 + (1 : Int32)) else (if inB l7 64 = true then f_X7_placesOf_77 l4 tgt fu (if (tgt l7.toNatClampNeg) ≤ 0 then (0 : Int32) else (1 : Int32)) (l7 + (1 : Int32)) else none)))))
def f_X7_placesOf_26  (l1 : Int32) (l2 : Int32) (tgt : Nat → Int32) (shp : Nat → Int64) : Nat → Int32 → (Nat → Int32) → (Nat → Int64) → Option ((Nat → Int32) × (Nat → Int64))
  | 0, _, _, _ => none
  | fu + 1, l3, pls, pl => (if (64 : Int32) ≤ l3 then some (pls, pl) else (if inB ((l1 * (48 : Int32)) + l2) 288 = true then ((f_X7_moved fu (shp ((l1 * (48 : Int32)) + l2).toNatClampNeg) (l3 - l3 / (4 : Int32) * (4 : Int32)) ((l3 / (4 : Int32)) - (l3 / (4 : Int32)) / (4 : Int32) * (4 : Int32)) (l3 / (16 : Int32))).bind fun q261 => ((f_X7_placesOf_77 q261 tgt fu (if q261 = (0 : Int64) then (0 : Int32) else (1 : Int32)) (0 : Int32)).bind fun q283 => (if q283 = 0 then f_X7_placesOf_26 l1 l2 tgt shp fu (l3 + (1 : Int32)) pls pl else (if inB l1 6 = true then ((f_X7_insert fu 8400 pl (l1 * (1400 : Int32)) (pls l1.toNatClampNeg) q261).bind fun q286 => (if inB l1 6 = true then f_X7_placesOf_26 l1 l2 tgt shp fu (l3 + (1 : Int32)) (va_up pls l1.toNatClampNeg q286.1) q286.2 else none)) else none)))) else none))
def f_X7_placesOf_14  (l1 : Int32) (tgt : Nat → Int32) (shs : Nat → Int32) (shp : Nat → Int64) : Nat → Int32 → (Nat → Int32) → (Nat → Int64) → Option ((Nat → Int32) × (Nat → Int64))
  | 0, _, _, _ => none
  | fu + 1, l2, pls, pl => (if inB l1 6 = true then (if (shs l1.toNatClampNeg) ≤ l2 then some (pls, pl) else ((f_X7_placesOf_26 l1 l2 tgt shp fu (0 : Int32) pls pl).bind fun q290 => f_X7_placesOf_14 l1 tgt shs shp fu (l2 + (1 : Int32)) q290.1 q290.2)) else none)
def f_X7_placesOf (fu : Nat) (set : Nat → Int64) (mir : Nat → Int32) (tgt : Nat → Int32) (shs : Nat → Int32) (shp : Nat → Int64) (pls : Nat → Int32) (pl : Nat → Int64) (p : Int32) : Option ((Nat → Int32) × (Nat → Int64) × (Nat → Int32) × (Nat → Int64)) := ((f_X7_shapesOf fu set mir shs shp p).bind fun q1 => (if inB p 6 = true then ((f_X7_placesOf_14 p tgt q1.1 q1.2 fu (0 : Int32) (va_up pls p.toNatClampNeg (0 : Int32)) pl).bind fun q291 => some (q1.1, q1.2, q291.1, q291.2)) else none))
set_option maxHeartbeats 2000000 in
set_option maxRecDepth 20000 in
theorem g_X7_placesOf_77 {K : KX} {n : Nat} {σ : AH} {a : Nat}  {l1 : Int32} {l2 : Int32} {l3 : Int32} {l4 : Int64} {th : Int32} {set : Nat → Int64} {mir : Nat → Int32} {tgt : Nat → Int32} {shs : Nat → Int32} {shp : Nat → Int64} {pls : Nat → Int32} {pl : Nat → Int64} {tri : Int32} {asm : Nat → Int64} {tak : Nat → Int64} {pld : Nat → Int32} {cel : Nat → Int32} {pie : Nat → Int32} {nxt : Nat → Int32} {cho : Nat → Int64} {cbs : Nat → Int32} {cub : Nat → Int32} {sts : Int32} {stt : Nat → Int32} {frm : Nat → Int32} {by' : Nat → Int32} {wrk : Nat → Int32} {oth : Nat → Int32} {mvs : Int32} {mov : Nat → Int32} (C : Cx K RX7 "placesOf" cX7_placesOf none) (hKR : kR K = ({ frames := 3, cells := 0, slots := 0, locals := 82 } : Room)) (hKN : kN K = 8) : ∀ (fu : Nat) (l6 : Int32) (l7 : Int32) (res : Int32), f_X7_placesOf_77 l4 tgt fu l6 l7 = some res → G K 0 0 122 [(0, .ref a), (1, .int l1), (2, .int l2), (3, .int l3), (4, .long l4), (6, .int res)] [] (wMd σ a th set mir tgt shs shp pls pl tri asm tak pld cel pie nxt cho cbs cub sts stt frm by' wrk oth mvs mov) n → G K 0 0 77 [(0, .ref a), (1, .int l1), (2, .int l2), (3, .int l3), (4, .long l4), (6, .int l6), (7, .int l7)] [] (wMd σ a th set mir tgt shs shp pls pl tri asm tak pld cel pie nxt cho cbs cub sts stt frm by' wrk oth mvs mov) n := by
  intro fu
  induction fu with
  | zero =>
    intro l6 l7 res hf
    exact absurd hf (by simp [f_X7_placesOf_77])
  | succ fu ih =>
    intro l6 l7 res hf hx
    rw [f_X7_placesOf_77] at hf
    refine g_iload C (q := 6) rfl dX7_placesOf_77 rfl ?_
    refine g_bipush (v := 64) C (by decide) dX7_placesOf_79 rfl ?_
    refine g_icmp_ge (tgt := 122) C dX7_placesOf_81 (by decide) rfl (fun c276 => ?_) (fun c276 => ?_)
    · replace hf := ift c276 hf
      obtain rfl := Option.some.inj hf
      refine g_sub (lv' := [(0, .ref a), (1, .int l1), (2, .int l2), (3, .int l3), (4, .long l4), (6, .int l6)]) [0, 1, 2, 3, 4, 5] rfl ?_
      exact hx
    · replace hf := iff' c276 hf
      refine g_iload C (q := 5) rfl dX7_placesOf_84 rfl ?_
      refine g_if_eq (tgt := 122) C dX7_placesOf_86 (by decide) rfl (fun c277 => ?_) (fun c277 => ?_)
      · replace hf := ift c277 hf
        obtain rfl := Option.some.inj hf
        refine g_sub (lv' := [(0, .ref a), (1, .int l1), (2, .int l2), (3, .int l3), (4, .long l4), (6, .int l6)]) [0, 1, 2, 3, 4, 5] rfl ?_
        exact hx
      · replace hf := iff' c277 hf
        refine g_lload C (q := 4) rfl dX7_placesOf_89 rfl ?_
        refine g_iload C (q := 6) rfl dX7_placesOf_91 rfl ?_
        obtain ⟨q278, hq278, hf⟩ := bd hf
        refine g_callS0 (st' := []) (as := [.long l4, .int l7]) (st2 := [.int q278]) (k := 2) C ⟨wm_RX7_82, ws_X7_has, wi_RX7, wk_X7_has, by decide +kernel⟩ (c_X7_has (l := kL K) (E := kE K)  _ hq278) (by rw [hKR]; exact ⟨rfl, rfl, ⟨by decide, by decide⟩, Nat.le_refl _, Nat.le_refl _⟩) rfl rfl (by simp) rfl dX7_placesOf_93 rfl ?_
        refine g_if_eq (tgt := 109) C dX7_placesOf_96 (by decide) rfl (fun c279 => ?_) (fun c279 => ?_)
        · replace hf := ift c279 hf
          refine g_iconst (v := 1) C (by decide) dX7_placesOf_109 rfl ?_
          refine g_goto (pc' := 114) C dX7_placesOf_110 (by decide) ?_
          refine g_istore (i := 6) (lv' := [(6, .int (1 : Int32)), (0, .ref a), (1, .int l1), (2, .int l2), (3, .int l3), (4, .long l4), (7, .int l7)]) C dX7_placesOf_114 rfl (by rw [hKN]; decide) rfl ?_
          refine g_iinc (v := l7 + (1 : Int32)) (lv' := [(7, .int (l7 + (1 : Int32))), (6, .int (1 : Int32)), (0, .ref a), (1, .int l1), (2, .int l2), (3, .int l3), (4, .long l4)]) (q := 6) C dX7_placesOf_116 rfl rfl rfl (by rw [hKN]; decide) rfl ?_
          refine g_goto (pc' := 77) C dX7_placesOf_119 (by decide) ?_
          refine g_sub (lv' := [(0, .ref a), (1, .int l1), (2, .int l2), (3, .int l3), (4, .long l4), (6, .int (1 : Int32)), (7, .int (l7 + (1 : Int32)))]) [2, 3, 4, 5, 6, 1, 0] rfl ?_
          exact ih _ _ _ hf hx
        · replace hf := iff' c279 hf
          refine g_aload_n C rfl (q := 0) rfl dX7_placesOf_99 rfl ?_
          refine g_get C fc_X7 3 (by decide) wf_RX7_17 (wL_at0 rfl) rfl dX7_placesOf_100 rfl ?_
          refine g_iload C (q := 6) rfl dX7_placesOf_103 rfl ?_
          obtain ⟨g280, hf⟩ := gd hf
          refine g_iald C (wL_at 3 rfl) (inB_in g280) dX7_placesOf_105 rfl ?_
          have j281 : G K 0 0 114 [(0, .ref a), (1, .int l1), (2, .int l2), (3, .int l3), (4, .long l4), (6, .int l6), (7, .int l7)] [.int (if (tgt l7.toNatClampNeg) ≤ 0 then (0 : Int32) else (1 : Int32))] (wMd σ a th set mir tgt shs shp pls pl tri asm tak pld cel pie nxt cho cbs cub sts stt frm by' wrk oth mvs mov) n := by
            refine g_istore (i := 6) (lv' := [(6, .int (if (tgt l7.toNatClampNeg) ≤ 0 then (0 : Int32) else (1 : Int32))), (0, .ref a), (1, .int l1), (2, .int l2), (3, .int l3), (4, .long l4), (7, .int l7)]) C dX7_placesOf_114 rfl (by rw [hKN]; decide) rfl ?_
            refine g_iinc (v := l7 + (1 : Int32)) (lv' := [(7, .int (l7 + (1 : Int32))), (6, .int (if (tgt l7.toNatClampNeg) ≤ 0 then (0 : Int32) else (1 : Int32))), (0, .ref a), (1, .int l1), (2, .int l2), (3, .int l3), (4, .long l4)]) (q := 6) C dX7_placesOf_116 rfl rfl rfl (by rw [hKN]; decide) rfl ?_
            refine g_goto (pc' := 77) C dX7_placesOf_119 (by decide) ?_
            refine g_sub (lv' := [(0, .ref a), (1, .int l1), (2, .int l2), (3, .int l3), (4, .long l4), (6, .int (if (tgt l7.toNatClampNeg) ≤ 0 then (0 : Int32) else (1 : Int32))), (7, .int (l7 + (1 : Int32)))]) [2, 3, 4, 5, 6, 1, 0] rfl ?_
            exact ih _ _ _ hf hx
          refine g_if_le (tgt := 113) C dX7_placesOf_106 (by decide) rfl (fun c282 => ?_) (fun c282 => ?_)
          · refine g_iconst (v := 0) C (by decide) dX7_placesOf_113 rfl ?_
            exact g_topI (by rw [if_pos c282]) j281
          · refine g_iconst (v := 1) C (by decide) dX7_placesOf_109 rfl ?_
            refine g_goto (pc' := 114) C dX7_placesOf_110 (by decide) ?_
            exact g_topI (by rw [if_neg c282]) j281
set_option maxHeartbeats 2000000 in
set_option maxRecDepth 20000 in
theorem g_X7_placesOf_26 {K : KX} {n : Nat} {σ : AH} {a : Nat}  {l1 : Int32} {l2 : Int32} {th : Int32} {set : Nat → Int64} {mir : Nat → Int32} {tgt : Nat → Int32} {shs : Nat → Int32} {shp : Nat → Int64} {tri : Int32} {asm : Nat → Int64} {tak : Nat → Int64} {pld : Nat → Int32} {cel : Nat → Int32} {pie : Nat → Int32} {nxt : Nat → Int32} {cho : Nat → Int64} {cbs : Nat → Int32} {cub : Nat → Int32} {sts : Int32} {stt : Nat → Int32} {frm : Nat → Int32} {by' : Nat → Int32} {wrk : Nat → Int32} {oth : Nat → Int32} {mvs : Int32} {mov : Nat → Int32} (C : Cx K RX7 "placesOf" cX7_placesOf none) (hKR : kR K = ({ frames := 3, cells := 0, slots := 0, locals := 82 } : Room)) (hKN : kN K = 8) : ∀ (fu : Nat) (l3 : Int32) (pls : Nat → Int32) (pl : Nat → Int64) (res : ((Nat → Int32) × (Nat → Int64))), f_X7_placesOf_26 l1 l2 tgt shp fu l3 pls pl = some res → G K 0 0 159 [(0, .ref a), (1, .int l1), (2, .int l2)] [] (wMd σ a th set mir tgt shs shp res.1 res.2 tri asm tak pld cel pie nxt cho cbs cub sts stt frm by' wrk oth mvs mov) n → G K 0 0 26 [(0, .ref a), (1, .int l1), (2, .int l2), (3, .int l3)] [] (wMd σ a th set mir tgt shs shp pls pl tri asm tak pld cel pie nxt cho cbs cub sts stt frm by' wrk oth mvs mov) n := by
  intro fu
  induction fu with
  | zero =>
    intro l3 pls pl res hf
    exact absurd hf (by simp [f_X7_placesOf_26])
  | succ fu ih =>
    intro l3 pls pl res hf hx
    rw [f_X7_placesOf_26] at hf
    refine g_iload_n C rfl (q := 3) rfl dX7_placesOf_26 rfl ?_
    refine g_bipush (v := 64) C (by decide) dX7_placesOf_27 rfl ?_
    refine g_icmp_ge (tgt := 159) C dX7_placesOf_29 (by decide) rfl (fun c259 => ?_) (fun c259 => ?_)
    · replace hf := ift c259 hf
      obtain rfl := Option.some.inj hf
      refine g_sub (lv' := [(0, .ref a), (1, .int l1), (2, .int l2)]) [0, 1, 2] rfl ?_
      exact hx
    · replace hf := iff' c259 hf
      refine g_aload_n C rfl (q := 0) rfl dX7_placesOf_32 rfl ?_
      refine g_get C fc_X7 5 (by decide) wf_RX7_24 (wL_at0 rfl) rfl dX7_placesOf_33 rfl ?_
      refine g_iload_n C rfl (q := 1) rfl dX7_placesOf_36 rfl ?_
      refine g_bipush (v := 48) C (by decide) dX7_placesOf_37 rfl ?_
      refine g_imul C dX7_placesOf_39 rfl ?_
      refine g_iload_n C rfl (q := 2) rfl dX7_placesOf_40 rfl ?_
      refine g_iadd C dX7_placesOf_41 rfl ?_
      obtain ⟨g260, hf⟩ := gd hf
      refine g_lald C (wL_at 5 rfl) (inB_in g260) dX7_placesOf_42 rfl ?_
      refine g_iload_n C rfl (q := 3) rfl dX7_placesOf_43 rfl ?_
      refine g_iconst (v := 4) C (by decide) dX7_placesOf_44 rfl ?_
      refine g_irem C (by decide) dX7_placesOf_45 rfl ?_
      refine g_iload_n C rfl (q := 3) rfl dX7_placesOf_46 rfl ?_
      refine g_iconst (v := 4) C (by decide) dX7_placesOf_47 rfl ?_
      refine g_idiv C (by decide) dX7_placesOf_48 rfl ?_
      refine g_iconst (v := 4) C (by decide) dX7_placesOf_49 rfl ?_
      refine g_irem C (by decide) dX7_placesOf_50 rfl ?_
      refine g_iload_n C rfl (q := 3) rfl dX7_placesOf_51 rfl ?_
      refine g_bipush (v := 16) C (by decide) dX7_placesOf_52 rfl ?_
      refine g_idiv C (by decide) dX7_placesOf_54 rfl ?_
      obtain ⟨q261, hq261, hf⟩ := bd hf
      refine g_callS0 (st' := []) (as := [.long (shp ((l1 * (48 : Int32)) + l2).toNatClampNeg), .int (l3 - l3 / (4 : Int32) * (4 : Int32)), .int ((l3 / (4 : Int32)) - (l3 / (4 : Int32)) / (4 : Int32) * (4 : Int32)), .int (l3 / (16 : Int32))]) (st2 := [.long q261]) (k := 4) C ⟨wm_RX7_128, ws_X7_moved, wi_RX7, wk_X7_moved, by decide +kernel⟩ (c_X7_moved (l := kL K) (E := kE K)  _ hq261) (by rw [hKR]; exact ⟨rfl, rfl, ⟨by decide, by decide⟩, Nat.le_refl _, Nat.le_refl _⟩) rfl rfl (by simp) rfl dX7_placesOf_55 rfl ?_
      refine g_lstore (i := 4) (lv' := [(4, .long q261), (0, .ref a), (1, .int l1), (2, .int l2), (3, .int l3)]) C dX7_placesOf_58 rfl (by rw [hKN]; decide) rfl ?_
      refine g_lload C (q := 0) rfl dX7_placesOf_60 rfl ?_
      refine g_lconst (v := 0) C (by decide) dX7_placesOf_62 rfl ?_
      have j288 : G K 0 0 72 [(4, .long q261), (0, .ref a), (1, .int l1), (2, .int l2), (3, .int l3)] [.int (if q261 = (0 : Int64) then (0 : Int32) else (1 : Int32))] (wMd σ a th set mir tgt shs shp pls pl tri asm tak pld cel pie nxt cho cbs cub sts stt frm by' wrk oth mvs mov) n := by
        refine g_istore (i := 6) (lv' := [(6, .int (if q261 = (0 : Int64) then (0 : Int32) else (1 : Int32))), (4, .long q261), (0, .ref a), (1, .int l1), (2, .int l2), (3, .int l3)]) C dX7_placesOf_72 rfl (by rw [hKN]; decide) rfl ?_
        refine g_iconst (v := 0) C (by decide) dX7_placesOf_74 rfl ?_
        refine g_istore (i := 7) (lv' := [(7, .int (0 : Int32)), (6, .int (if q261 = (0 : Int64) then (0 : Int32) else (1 : Int32))), (4, .long q261), (0, .ref a), (1, .int l1), (2, .int l2), (3, .int l3)]) C dX7_placesOf_75 rfl (by rw [hKN]; decide) rfl ?_
        refine g_sub (lv' := [(0, .ref a), (1, .int l1), (2, .int l2), (3, .int l3), (4, .long q261), (6, .int (if q261 = (0 : Int64) then (0 : Int32) else (1 : Int32))), (7, .int (0 : Int32))]) [3, 4, 5, 6, 2, 1, 0] rfl ?_
        obtain ⟨q283, hq283, hf⟩ := bd hf
        refine g_X7_placesOf_77 (l1 := l1) (l2 := l2) (l3 := l3) (l4 := q261) (th := th) (set := set) (mir := mir) (tgt := tgt) (shs := shs) (shp := shp) (pls := pls) (pl := pl) (tri := tri) (asm := asm) (tak := tak) (pld := pld) (cel := cel) (pie := pie) (nxt := nxt) (cho := cho) (cbs := cbs) (cub := cub) (sts := sts) (stt := stt) (frm := frm) (by' := by') (wrk := wrk) (oth := oth) (mvs := mvs) (mov := mov) C hKR hKN _ _ _ _ hq283 ?_
        refine g_iload C (q := 5) rfl dX7_placesOf_122 rfl ?_
        refine g_if_eq (tgt := 153) C dX7_placesOf_124 (by decide) rfl (fun c284 => ?_) (fun c284 => ?_)
        · replace hf := ift c284 hf
          refine g_iinc (v := l3 + (1 : Int32)) (lv' := [(3, .int (l3 + (1 : Int32))), (0, .ref a), (1, .int l1), (2, .int l2), (4, .long q261), (6, .int q283)]) (q := 3) C dX7_placesOf_153 rfl rfl rfl (by rw [hKN]; decide) rfl ?_
          refine g_goto (pc' := 26) C dX7_placesOf_156 (by decide) ?_
          refine g_sub (lv' := [(0, .ref a), (1, .int l1), (2, .int l2), (3, .int (l3 + (1 : Int32)))]) [1, 2, 3, 0] rfl ?_
          exact ih _ _ _ _ hf hx
        · replace hf := iff' c284 hf
          refine g_aload_n C rfl (q := 0) rfl dX7_placesOf_127 rfl ?_
          refine g_get C fc_X7 6 (by decide) wf_RX7_27 (wL_at0 rfl) rfl dX7_placesOf_128 rfl ?_
          refine g_iload_n C rfl (q := 1) rfl dX7_placesOf_131 rfl ?_
          refine g_aload_n C rfl (q := 0) rfl dX7_placesOf_132 rfl ?_
          refine g_get C fc_X7 7 (by decide) wf_RX7_30 (wL_at0 rfl) rfl dX7_placesOf_133 rfl ?_
          refine g_iload_n C rfl (q := 1) rfl dX7_placesOf_136 rfl ?_
          refine g_sipush (v := 1400) C (by decide) dX7_placesOf_137 rfl ?_
          refine g_imul C dX7_placesOf_140 rfl ?_
          refine g_aload_n C rfl (q := 0) rfl dX7_placesOf_141 rfl ?_
          refine g_get C fc_X7 6 (by decide) wf_RX7_27 (wL_at0 rfl) rfl dX7_placesOf_142 rfl ?_
          refine g_iload_n C rfl (q := 1) rfl dX7_placesOf_145 rfl ?_
          obtain ⟨g285, hf⟩ := gd hf
          refine g_iald C (wL_at 6 rfl) (inB_in g285) dX7_placesOf_146 rfl ?_
          refine g_lload C (q := 4) rfl dX7_placesOf_147 rfl ?_
          obtain ⟨q286, hq286, hf⟩ := bd hf
          refine g_heap (wA_self (z := 8400) (wL_at 7 rfl)) ?_
          refine g_callS0 (st' := [.int l1, .ref (a + 6)]) (as := [.ref (a + 7), .int (l1 * (1400 : Int32)), .int (pls l1.toNatClampNeg), .long q261]) (st2 := [.int q286.1, .int l1, .ref (a + 6)]) (k := 4) C ⟨wm_RX7_120, ws_X7_insert, wi_RX7, wk_X7_insert, by decide +kernel⟩ (c_X7_insert (l := kL K) (E := kE K) (σ := (wMd σ a th set mir tgt shs shp pls pl tri asm tak pld cel pie nxt cho cbs cub sts stt frm by' wrk oth mvs mov)) (a := a + 7) (z := 8400) _ hq286) (by rw [hKR]; exact ⟨rfl, rfl, ⟨by decide, by decide⟩, Nat.le_refl _, Nat.le_refl _⟩) rfl rfl (by simp [Value.category]) rfl dX7_placesOf_149 rfl ?_
          refine g_heap (h' := (wMd σ a th set mir tgt shs shp pls q286.2 tri asm tak pld cel pie nxt cho cbs cub sts stt frm by' wrk oth mvs mov)) (wA_up (wL_up 7 (Nat.le_of_ble_eq_true rfl) rfl)) ?_
          obtain ⟨g287, hf⟩ := gd hf
          refine g_iast (h' := (wMd σ a th set mir tgt shs shp (va_up pls l1.toNatClampNeg q286.1) q286.2 tri asm tak pld cel pie nxt cho cbs cub sts stt frm by' wrk oth mvs mov)) C (wL_at 6 rfl) (inB_in g287) (wL_up 6 (Nat.le_of_ble_eq_true rfl) rfl) dX7_placesOf_152 rfl ?_
          refine g_iinc (v := l3 + (1 : Int32)) (lv' := [(3, .int (l3 + (1 : Int32))), (0, .ref a), (1, .int l1), (2, .int l2), (4, .long q261), (6, .int q283)]) (q := 3) C dX7_placesOf_153 rfl rfl rfl (by rw [hKN]; decide) rfl ?_
          refine g_goto (pc' := 26) C dX7_placesOf_156 (by decide) ?_
          refine g_sub (lv' := [(0, .ref a), (1, .int l1), (2, .int l2), (3, .int (l3 + (1 : Int32)))]) [1, 2, 3, 0] rfl ?_
          exact ih _ _ _ _ hf hx
      refine g_lif_eq (tgt := 71) C dX7_placesOf_63 rfl dX7_placesOf_64 (by decide) rfl (fun c289 => ?_) (fun c289 => ?_)
      · refine g_iconst (v := 0) C (by decide) dX7_placesOf_71 rfl ?_
        exact g_topI (by rw [if_pos c289]) j288
      · refine g_iconst (v := 1) C (by decide) dX7_placesOf_67 rfl ?_
        refine g_goto (pc' := 72) C dX7_placesOf_68 (by decide) ?_
        exact g_topI (by rw [if_neg c289]) j288
set_option maxHeartbeats 2000000 in
set_option maxRecDepth 20000 in
theorem g_X7_placesOf_14 {K : KX} {n : Nat} {σ : AH} {a : Nat}  {l1 : Int32} {th : Int32} {set : Nat → Int64} {mir : Nat → Int32} {tgt : Nat → Int32} {shs : Nat → Int32} {shp : Nat → Int64} {tri : Int32} {asm : Nat → Int64} {tak : Nat → Int64} {pld : Nat → Int32} {cel : Nat → Int32} {pie : Nat → Int32} {nxt : Nat → Int32} {cho : Nat → Int64} {cbs : Nat → Int32} {cub : Nat → Int32} {sts : Int32} {stt : Nat → Int32} {frm : Nat → Int32} {by' : Nat → Int32} {wrk : Nat → Int32} {oth : Nat → Int32} {mvs : Int32} {mov : Nat → Int32} (C : Cx K RX7 "placesOf" cX7_placesOf none) (hKR : kR K = ({ frames := 3, cells := 0, slots := 0, locals := 82 } : Room)) (hKN : kN K = 8) : ∀ (fu : Nat) (l2 : Int32) (pls : Nat → Int32) (pl : Nat → Int64) (res : ((Nat → Int32) × (Nat → Int64))), f_X7_placesOf_14 l1 tgt shs shp fu l2 pls pl = some res → G K 0 0 165 [] [] (wMd σ a th set mir tgt shs shp res.1 res.2 tri asm tak pld cel pie nxt cho cbs cub sts stt frm by' wrk oth mvs mov) n → G K 0 0 14 [(0, .ref a), (1, .int l1), (2, .int l2)] [] (wMd σ a th set mir tgt shs shp pls pl tri asm tak pld cel pie nxt cho cbs cub sts stt frm by' wrk oth mvs mov) n := by
  intro fu
  induction fu with
  | zero =>
    intro l2 pls pl res hf
    exact absurd hf (by simp [f_X7_placesOf_14])
  | succ fu ih =>
    intro l2 pls pl res hf hx
    rw [f_X7_placesOf_14] at hf
    refine g_iload_n C rfl (q := 2) rfl dX7_placesOf_14 rfl ?_
    refine g_aload_n C rfl (q := 0) rfl dX7_placesOf_15 rfl ?_
    refine g_get C fc_X7 4 (by decide) wf_RX7_21 (wL_at0 rfl) rfl dX7_placesOf_16 rfl ?_
    refine g_iload_n C rfl (q := 1) rfl dX7_placesOf_19 rfl ?_
    obtain ⟨g195, hf⟩ := gd hf
    refine g_iald C (wL_at 4 rfl) (inB_in g195) dX7_placesOf_20 rfl ?_
    refine g_icmp_ge (tgt := 165) C dX7_placesOf_21 (by decide) rfl (fun c196 => ?_) (fun c196 => ?_)
    · replace hf := ift c196 hf
      obtain rfl := Option.some.inj hf
      refine g_sub (lv' := []) [] rfl ?_
      exact hx
    · replace hf := iff' c196 hf
      refine g_iconst (v := 0) C (by decide) dX7_placesOf_24 rfl ?_
      refine g_istore_n (i := 3) (lv' := [(3, .int (0 : Int32)), (0, .ref a), (1, .int l1), (2, .int l2)]) C dX7_placesOf_25 rfl rfl (by rw [hKN]; decide) rfl ?_
      refine g_sub (lv' := [(0, .ref a), (1, .int l1), (2, .int l2), (3, .int (0 : Int32))]) [1, 2, 3, 0] rfl ?_
      obtain ⟨q290, hq290, hf⟩ := bd hf
      refine g_X7_placesOf_26 (l1 := l1) (l2 := l2) (th := th) (set := set) (mir := mir) (tgt := tgt) (shs := shs) (shp := shp) (tri := tri) (asm := asm) (tak := tak) (pld := pld) (cel := cel) (pie := pie) (nxt := nxt) (cho := cho) (cbs := cbs) (cub := cub) (sts := sts) (stt := stt) (frm := frm) (by' := by') (wrk := wrk) (oth := oth) (mvs := mvs) (mov := mov) C hKR hKN _ _ _ _ _ hq290 ?_
      refine g_iinc (v := l2 + (1 : Int32)) (lv' := [(2, .int (l2 + (1 : Int32))), (0, .ref a), (1, .int l1)]) (q := 2) C dX7_placesOf_159 rfl rfl rfl (by rw [hKN]; decide) rfl ?_
      refine g_goto (pc' := 14) C dX7_placesOf_162 (by decide) ?_
      refine g_sub (lv' := [(0, .ref a), (1, .int l1), (2, .int (l2 + (1 : Int32)))]) [1, 2, 0] rfl ?_
      exact ih _ _ _ _ hf hx
set_option maxHeartbeats 2000000 in
set_option maxRecDepth 20000 in
theorem c_X7_placesOf {l : Launch} {E : Ex} {n : Nat} {σ : AH} {a : Nat}  {th : Int32} {set : Nat → Int64} {mir : Nat → Int32} {tgt : Nat → Int32} {shs : Nat → Int32} {shp : Nat → Int64} {pls : Nat → Int32} {pl : Nat → Int64} {tri : Int32} {asm : Nat → Int64} {tak : Nat → Int64} {pld : Nat → Int32} {cel : Nat → Int32} {pie : Nat → Int32} {nxt : Nat → Int32} {cho : Nat → Int64} {cbs : Nat → Int32} {cub : Nat → Int32} {sts : Int32} {stt : Nat → Int32} {frm : Nat → Int32} {by' : Nat → Int32} {wrk : Nat → Int32} {oth : Nat → Int32} {mvs : Int32} {mov : Nat → Int32} {p : Int32} {fu : Nat} (res : ((Nat → Int32) × (Nat → Int64) × (Nat → Int32) × (Nat → Int64))) (hf : f_X7_placesOf fu set mir tgt shs shp pls pl p = some res) : Con l E yX7_placesOf (.code yX7_placesOf cX7_placesOf 8 none :: TT) ({ frames := 3, cells := 0, slots := 0, locals := 82 } : Room) 0 0 [.ref a, .int p] (wMd σ a th set mir tgt shs shp pls pl tri asm tak pld cel pie nxt cho cbs cub sts stt frm by' wrk oth mvs mov) n none (wMd σ a th set mir tgt res.1 res.2.1 res.2.2.1 res.2.2.2 tri asm tak pld cel pie nxt cho cbs cub sts stt frm by' wrk oth mvs mov) n := by
  refine con_intro (by decide +kernel) (Nat.le_of_ble_eq_true rfl) ?_
  intro K C hKR hKL hKE hKN hKQ
  subst hKL
  subst hKE
  have C : Cx K RX7 "placesOf" cX7_placesOf none := C
  show G K 0 0 0 [(0, .ref a), (1, .int p)] [] (wMd σ a th set mir tgt shs shp pls pl tri asm tak pld cel pie nxt cho cbs cub sts stt frm by' wrk oth mvs mov) n
  unfold f_X7_placesOf at hf
  refine g_aload_n C rfl (q := 0) rfl dX7_placesOf_0 rfl ?_
  refine g_iload_n C rfl (q := 1) rfl dX7_placesOf_1 rfl ?_
  obtain ⟨q1, hq1, hf⟩ := bd hf
  refine g_callV0 (st' := []) (as := [.int p]) (st2 := []) (k := 1) C ⟨wm_RX7_124, wn_X7_shapesOf, wv_X7_shapesOf, wi_RX7, wk_X7_shapesOf, by decide +kernel⟩ rfl (wL_at0 rfl) (c_X7_shapesOf (l := kL K) (E := kE K)  _ hq1) (by rw [hKR]; exact ⟨rfl, rfl, ⟨by decide, by decide⟩, Nat.le_refl _, Nat.le_refl _⟩) rfl rfl (by simp) rfl dX7_placesOf_2 rfl ?_
  refine g_aload_n C rfl (q := 0) rfl dX7_placesOf_5 rfl ?_
  refine g_get C fc_X7 6 (by decide) wf_RX7_27 (wL_at0 rfl) rfl dX7_placesOf_6 rfl ?_
  refine g_iload_n C rfl (q := 1) rfl dX7_placesOf_9 rfl ?_
  refine g_iconst (v := 0) C (by decide) dX7_placesOf_10 rfl ?_
  obtain ⟨g2, hf⟩ := gd hf
  refine g_iast (h' := (wMd σ a th set mir tgt q1.1 q1.2 (va_up pls p.toNatClampNeg (0 : Int32)) pl tri asm tak pld cel pie nxt cho cbs cub sts stt frm by' wrk oth mvs mov)) C (wL_at 6 rfl) (inB_in g2) (wL_up 6 (Nat.le_of_ble_eq_true rfl) rfl) dX7_placesOf_11 rfl ?_
  refine g_iconst (v := 0) C (by decide) dX7_placesOf_12 rfl ?_
  refine g_istore_n (i := 2) (lv' := [(2, .int (0 : Int32)), (0, .ref a), (1, .int p)]) C dX7_placesOf_13 rfl rfl (by rw [hKN]; decide) rfl ?_
  refine g_sub (lv' := [(0, .ref a), (1, .int p), (2, .int (0 : Int32))]) [1, 2, 0] rfl ?_
  obtain ⟨q291, hq291, hf⟩ := bd hf
  refine g_X7_placesOf_14 (l1 := p) (th := th) (set := set) (mir := mir) (tgt := tgt) (shs := q1.1) (shp := q1.2) (tri := tri) (asm := asm) (tak := tak) (pld := pld) (cel := cel) (pie := pie) (nxt := nxt) (cho := cho) (cbs := cbs) (cub := cub) (sts := sts) (stt := stt) (frm := frm) (by' := by') (wrk := wrk) (oth := oth) (mvs := mvs) (mov := mov) C hKR hKN _ _ _ _ _ hq291 ?_
  obtain rfl := Option.some.inj hf
  exact g_vret C hKQ dX7_placesOf_165
def f_X7_places (fu : Nat) (set : Nat → Int64) (mir : Nat → Int32) (tgt : Nat → Int32) (shs : Nat → Int32) (shp : Nat → Int64) (pls : Nat → Int32) (pl : Nat → Int64) (p : Int32) : Option (Int32 × Int32 × (Nat → Int32) × (Nat → Int64) × (Nat → Int32) × (Nat → Int64)) := ((f_X7_in p (0 : Int32) (5 : Int32)).bind fun q1 => ((f_X7_says q1).bind fun q2 => (if q2.1 = 0 then some ((0 : Int32), q2.2, shs, shp, pls, pl) else ((f_X7_placesOf fu set mir tgt shs shp pls pl p).bind fun q4 => (if inB p 6 = true then some (q4.2.2.1 p.toNatClampNeg, q2.2, q4.1, q4.2.1, q4.2.2.1, q4.2.2.2) else none)))))
set_option maxHeartbeats 2000000 in
set_option maxRecDepth 20000 in
theorem c_X7_places {l : Launch} {E : Ex} {n : Nat} {σ : AH} {a : Nat}  {th : Int32} {set : Nat → Int64} {mir : Nat → Int32} {tgt : Nat → Int32} {shs : Nat → Int32} {shp : Nat → Int64} {pls : Nat → Int32} {pl : Nat → Int64} {tri : Int32} {asm : Nat → Int64} {tak : Nat → Int64} {pld : Nat → Int32} {cel : Nat → Int32} {pie : Nat → Int32} {nxt : Nat → Int32} {cho : Nat → Int64} {cbs : Nat → Int32} {cub : Nat → Int32} {sts : Int32} {stt : Nat → Int32} {frm : Nat → Int32} {by' : Nat → Int32} {wrk : Nat → Int32} {oth : Nat → Int32} {mvs : Int32} {mov : Nat → Int32} {p : Int32} {fu : Nat} (res : (Int32 × Int32 × (Nat → Int32) × (Nat → Int64) × (Nat → Int32) × (Nat → Int64))) (hf : f_X7_places fu set mir tgt shs shp pls pl p = some res) : Con l E yX7_places (.code yX7_places cX7_places 2 (some .int) :: TT) ({ frames := 4, cells := 0, slots := 0, locals := 109 } : Room) 0 0 [.ref a, .int p] (wMd σ a th set mir tgt shs shp pls pl tri asm tak pld cel pie nxt cho cbs cub sts stt frm by' wrk oth mvs mov) n (some (.int res.1)) (wMd σ a res.2.1 set mir tgt res.2.2.1 res.2.2.2.1 res.2.2.2.2.1 res.2.2.2.2.2 tri asm tak pld cel pie nxt cho cbs cub sts stt frm by' wrk oth mvs mov) n := by
  refine con_intro (by decide +kernel) (Nat.le_of_ble_eq_true rfl) ?_
  intro K C hKR hKL hKE hKN hKQ
  subst hKL
  subst hKE
  have C : Cx K RX7 "places" cX7_places (some .int) := C
  show G K 0 0 0 [(0, .ref a), (1, .int p)] [] (wMd σ a th set mir tgt shs shp pls pl tri asm tak pld cel pie nxt cho cbs cub sts stt frm by' wrk oth mvs mov) n
  unfold f_X7_places at hf
  refine g_aload_n C rfl (q := 0) rfl dX7_places_0 rfl ?_
  refine g_iload_n C rfl (q := 1) rfl dX7_places_1 rfl ?_
  refine g_iconst (v := 0) C (by decide) dX7_places_2 rfl ?_
  refine g_iconst (v := 5) C (by decide) dX7_places_3 rfl ?_
  obtain ⟨q1, hq1, hf⟩ := bd hf
  refine g_callS0 (st' := [.ref a]) (as := [.int p, .int (0 : Int32), .int (5 : Int32)]) (st2 := [.int q1, .ref a]) (k := 3) C ⟨wm_RX7_88, ws_X7_in, wi_RX7, wk_X7_in, by decide +kernel⟩ (c_X7_in (l := kL K) (E := kE K)  _ hq1) (by rw [hKR]; exact ⟨rfl, rfl, ⟨by decide, by decide⟩, Nat.le_refl _, Nat.le_refl _⟩) rfl rfl (by simp [Value.category]) rfl dX7_places_4 rfl ?_
  obtain ⟨q2, hq2, hf⟩ := bd hf
  refine g_callV0 (st' := []) (as := [.int q1]) (st2 := [.int q2.1]) (k := 1) C ⟨wm_RX7_96, wn_X7_says, wv_X7_says, wi_RX7, wk_X7_says, by decide +kernel⟩ rfl (wL_at0 rfl) (c_X7_says (l := kL K) (E := kE K)  _ hq2) (by rw [hKR]; exact ⟨rfl, rfl, ⟨by decide, by decide⟩, Nat.le_refl _, Nat.le_refl _⟩) rfl rfl (by simp) rfl dX7_places_7 rfl ?_
  refine g_if_ne (tgt := 15) C dX7_places_10 (by decide) rfl (fun c3 => ?_) (fun c3 => ?_)
  · replace hf := iff' c3 hf
    refine g_aload_n C rfl (q := 0) rfl dX7_places_15 rfl ?_
    refine g_iload_n C rfl (q := 1) rfl dX7_places_16 rfl ?_
    obtain ⟨q4, hq4, hf⟩ := bd hf
    refine g_callV0 (st' := []) (as := [.int p]) (st2 := []) (k := 1) C ⟨wm_RX7_132, wn_X7_placesOf, wv_X7_placesOf, wi_RX7, wk_X7_placesOf, by decide +kernel⟩ rfl (wL_at0 rfl) (c_X7_placesOf (l := kL K) (E := kE K)  _ hq4) (by rw [hKR]; exact ⟨rfl, rfl, ⟨by decide, by decide⟩, Nat.le_refl _, Nat.le_refl _⟩) rfl rfl (by simp) rfl dX7_places_17 rfl ?_
    refine g_aload_n C rfl (q := 0) rfl dX7_places_20 rfl ?_
    refine g_get C fc_X7 6 (by decide) wf_RX7_27 (wL_at0 rfl) rfl dX7_places_21 rfl ?_
    refine g_iload_n C rfl (q := 1) rfl dX7_places_24 rfl ?_
    obtain ⟨g5, hf⟩ := gd hf
    refine g_iald C (wL_at 6 rfl) (inB_in g5) dX7_places_25 rfl ?_
    obtain rfl := Option.some.inj hf
    exact g_iret C hKQ dX7_places_26
  · replace hf := ift c3 hf
    refine g_iconst (v := 0) C (by decide) dX7_places_13 rfl ?_
    obtain rfl := Option.some.inj hf
    exact g_iret C hKQ dX7_places_14
def f_X7_take (asm : Nat → Int64) (p : Int32) : Option (Int32 × (Nat → Int64)) := ((f_X7_in p (0 : Int32) (5 : Int32)).bind fun q1 => (if q1 = 0 then some ((1 : Int32), asm) else (if inB p 6 = true then (if (if (asm p.toNatClampNeg) = (0 : Int64) then (2 : Int32) else (0 : Int32)) = 0 then (if inB p 6 = true then some ((if (asm p.toNatClampNeg) = (0 : Int64) then (2 : Int32) else (0 : Int32)), va_up asm p.toNatClampNeg (0 : Int64)) else none) else some ((if (asm p.toNatClampNeg) = (0 : Int64) then (2 : Int32) else (0 : Int32)), asm)) else none)))
set_option maxHeartbeats 2000000 in
set_option maxRecDepth 20000 in
theorem c_X7_take {l : Launch} {E : Ex} {n : Nat} {σ : AH} {a : Nat}  {th : Int32} {set : Nat → Int64} {mir : Nat → Int32} {tgt : Nat → Int32} {shs : Nat → Int32} {shp : Nat → Int64} {pls : Nat → Int32} {pl : Nat → Int64} {tri : Int32} {asm : Nat → Int64} {tak : Nat → Int64} {pld : Nat → Int32} {cel : Nat → Int32} {pie : Nat → Int32} {nxt : Nat → Int32} {cho : Nat → Int64} {cbs : Nat → Int32} {cub : Nat → Int32} {sts : Int32} {stt : Nat → Int32} {frm : Nat → Int32} {by' : Nat → Int32} {wrk : Nat → Int32} {oth : Nat → Int32} {mvs : Int32} {mov : Nat → Int32} {p : Int32} (res : (Int32 × (Nat → Int64))) (hf : f_X7_take asm p = some res) : Con l E yX7_take (.code yX7_take cX7_take 2 none :: TT) ({ frames := 1, cells := 0, slots := 0, locals := 22 } : Room) 0 0 [.ref a, .int p] (wMd σ a th set mir tgt shs shp pls pl tri asm tak pld cel pie nxt cho cbs cub sts stt frm by' wrk oth mvs mov) n none (wMd σ a res.1 set mir tgt shs shp pls pl tri res.2 tak pld cel pie nxt cho cbs cub sts stt frm by' wrk oth mvs mov) n := by
  refine con_intro (by decide +kernel) (Nat.le_of_ble_eq_true rfl) ?_
  intro K C hKR hKL hKE hKN hKQ
  subst hKL
  subst hKE
  have C : Cx K RX7 "take" cX7_take none := C
  show G K 0 0 0 [(0, .ref a), (1, .int p)] [] (wMd σ a th set mir tgt shs shp pls pl tri asm tak pld cel pie nxt cho cbs cub sts stt frm by' wrk oth mvs mov) n
  unfold f_X7_take at hf
  refine g_aload_n C rfl (q := 0) rfl dX7_take_0 rfl ?_
  refine g_iload_n C rfl (q := 1) rfl dX7_take_1 rfl ?_
  refine g_iconst (v := 0) C (by decide) dX7_take_2 rfl ?_
  refine g_iconst (v := 5) C (by decide) dX7_take_3 rfl ?_
  obtain ⟨q1, hq1, hf⟩ := bd hf
  refine g_callS0 (st' := [.ref a]) (as := [.int p, .int (0 : Int32), .int (5 : Int32)]) (st2 := [.int q1, .ref a]) (k := 3) C ⟨wm_RX7_88, ws_X7_in, wi_RX7, wk_X7_in, by decide +kernel⟩ (c_X7_in (l := kL K) (E := kE K)  _ hq1) (by rw [hKR]; exact ⟨rfl, rfl, ⟨by decide, by decide⟩, Nat.le_refl _, Nat.le_refl _⟩) rfl rfl (by simp [Value.category]) rfl dX7_take_4 rfl ?_
  refine g_if_ne (tgt := 14) C dX7_take_7 (by decide) rfl (fun c2 => ?_) (fun c2 => ?_)
  · replace hf := iff' c2 hf
    refine g_aload_n C rfl (q := 0) rfl dX7_take_14 rfl ?_
    refine g_get C fc_X7 9 (by decide) wf_RX7_33 (wL_at0 rfl) rfl dX7_take_15 rfl ?_
    refine g_iload_n C rfl (q := 1) rfl dX7_take_18 rfl ?_
    obtain ⟨g3, hf⟩ := gd hf
    refine g_lald C (wL_at 8 rfl) (inB_in g3) dX7_take_19 rfl ?_
    refine g_lconst (v := 0) C (by decide) dX7_take_20 rfl ?_
    have j6 : G K 0 0 30 [(0, .ref a), (1, .int p)] [.int (if (asm p.toNatClampNeg) = (0 : Int64) then (2 : Int32) else (0 : Int32)), .ref a] (wMd σ a th set mir tgt shs shp pls pl tri asm tak pld cel pie nxt cho cbs cub sts stt frm by' wrk oth mvs mov) n := by
      refine g_put (h' := (wMd σ a (if (asm p.toNatClampNeg) = (0 : Int64) then (2 : Int32) else (0 : Int32)) set mir tgt shs shp pls pl tri asm tak pld cel pie nxt cho cbs cub sts stt frm by' wrk oth mvs mov)) C fc_X7 0 (by decide) wf_RX7_78 rfl rfl rfl (Nat.le_of_ble_eq_true rfl) (wL_at0 rfl) (wL_up0 (Nat.le_of_ble_eq_true rfl) rfl) dX7_take_30 rfl ?_
      refine g_aload_n C rfl (q := 0) rfl dX7_take_33 rfl ?_
      refine g_get C fc_X7 0 (by decide) wf_RX7_78 (wL_at0 rfl) rfl dX7_take_34 rfl ?_
      refine g_if_ne (tgt := 47) C dX7_take_37 (by decide) rfl (fun c4 => ?_) (fun c4 => ?_)
      · replace hf := iff' c4 hf
        obtain rfl := Option.some.inj hf
        exact g_vret C hKQ dX7_take_47
      · replace hf := ift c4 hf
        refine g_aload_n C rfl (q := 0) rfl dX7_take_40 rfl ?_
        refine g_get C fc_X7 9 (by decide) wf_RX7_33 (wL_at0 rfl) rfl dX7_take_41 rfl ?_
        refine g_iload_n C rfl (q := 1) rfl dX7_take_44 rfl ?_
        refine g_lconst (v := 0) C (by decide) dX7_take_45 rfl ?_
        obtain ⟨g5, hf⟩ := gd hf
        refine g_last (h' := (wMd σ a (if (asm p.toNatClampNeg) = (0 : Int64) then (2 : Int32) else (0 : Int32)) set mir tgt shs shp pls pl tri (va_up asm p.toNatClampNeg (0 : Int64)) tak pld cel pie nxt cho cbs cub sts stt frm by' wrk oth mvs mov)) C (wL_at 8 rfl) (inB_in g5) (wL_up 8 (Nat.le_of_ble_eq_true rfl) rfl) dX7_take_46 rfl ?_
        obtain rfl := Option.some.inj hf
        exact g_vret C hKQ dX7_take_47
    refine g_lif_ne (tgt := 29) C dX7_take_21 rfl dX7_take_22 (by decide) rfl (fun c7 => ?_) (fun c7 => ?_)
    · refine g_iconst (v := 0) C (by decide) dX7_take_29 rfl ?_
      exact g_topI (by rw [if_neg c7]) j6
    · refine g_iconst (v := 2) C (by decide) dX7_take_25 rfl ?_
      refine g_goto (pc' := 30) C dX7_take_26 (by decide) ?_
      exact g_topI (by rw [if_pos c7]) j6
  · replace hf := ift c2 hf
    refine g_iconst (v := 1) C (by decide) dX7_take_10 rfl ?_
    refine g_goto (pc' := 30) C dX7_take_11 (by decide) ?_
    refine g_put (h' := (wMd σ a (1 : Int32) set mir tgt shs shp pls pl tri asm tak pld cel pie nxt cho cbs cub sts stt frm by' wrk oth mvs mov)) C fc_X7 0 (by decide) wf_RX7_78 rfl rfl rfl (Nat.le_of_ble_eq_true rfl) (wL_at0 rfl) (wL_up0 (Nat.le_of_ble_eq_true rfl) rfl) dX7_take_30 rfl ?_
    refine g_aload_n C rfl (q := 0) rfl dX7_take_33 rfl ?_
    refine g_get C fc_X7 0 (by decide) wf_RX7_78 (wL_at0 rfl) rfl dX7_take_34 rfl ?_
    refine g_if_ne (tgt := 47) C dX7_take_37 (by decide) rfl (fun c8 => ?_) (fun c8 => absurd c8 (by decide))
    obtain rfl := Option.some.inj hf
    exact g_vret C hKQ dX7_take_47
def f_X7_cells (asm : Nat → Int64) (p : Int32) : Option (Int64 × Int32) := ((f_X7_in p (0 : Int32) (5 : Int32)).bind fun q1 => ((f_X7_says q1).bind fun q2 => (if q2.1 = 0 then some ((0 : Int64), q2.2) else (if inB p 6 = true then some (asm p.toNatClampNeg, q2.2) else none))))
set_option maxHeartbeats 2000000 in
set_option maxRecDepth 20000 in
theorem c_X7_cells {l : Launch} {E : Ex} {n : Nat} {σ : AH} {a : Nat}  {th : Int32} {set : Nat → Int64} {mir : Nat → Int32} {tgt : Nat → Int32} {shs : Nat → Int32} {shp : Nat → Int64} {pls : Nat → Int32} {pl : Nat → Int64} {tri : Int32} {asm : Nat → Int64} {tak : Nat → Int64} {pld : Nat → Int32} {cel : Nat → Int32} {pie : Nat → Int32} {nxt : Nat → Int32} {cho : Nat → Int64} {cbs : Nat → Int32} {cub : Nat → Int32} {sts : Int32} {stt : Nat → Int32} {frm : Nat → Int32} {by' : Nat → Int32} {wrk : Nat → Int32} {oth : Nat → Int32} {mvs : Int32} {mov : Nat → Int32} {p : Int32} (res : (Int64 × Int32)) (hf : f_X7_cells asm p = some res) : Con l E yX7_cells (.code yX7_cells cX7_cells 2 (some .long) :: TT) ({ frames := 1, cells := 0, slots := 0, locals := 22 } : Room) 0 0 [.ref a, .int p] (wMd σ a th set mir tgt shs shp pls pl tri asm tak pld cel pie nxt cho cbs cub sts stt frm by' wrk oth mvs mov) n (some (.long res.1)) (wMd σ a res.2 set mir tgt shs shp pls pl tri asm tak pld cel pie nxt cho cbs cub sts stt frm by' wrk oth mvs mov) n := by
  refine con_intro (by decide +kernel) (Nat.le_of_ble_eq_true rfl) ?_
  intro K C hKR hKL hKE hKN hKQ
  subst hKL
  subst hKE
  have C : Cx K RX7 "cells" cX7_cells (some .long) := C
  show G K 0 0 0 [(0, .ref a), (1, .int p)] [] (wMd σ a th set mir tgt shs shp pls pl tri asm tak pld cel pie nxt cho cbs cub sts stt frm by' wrk oth mvs mov) n
  unfold f_X7_cells at hf
  refine g_aload_n C rfl (q := 0) rfl dX7_cells_0 rfl ?_
  refine g_iload_n C rfl (q := 1) rfl dX7_cells_1 rfl ?_
  refine g_iconst (v := 0) C (by decide) dX7_cells_2 rfl ?_
  refine g_iconst (v := 5) C (by decide) dX7_cells_3 rfl ?_
  obtain ⟨q1, hq1, hf⟩ := bd hf
  refine g_callS0 (st' := [.ref a]) (as := [.int p, .int (0 : Int32), .int (5 : Int32)]) (st2 := [.int q1, .ref a]) (k := 3) C ⟨wm_RX7_88, ws_X7_in, wi_RX7, wk_X7_in, by decide +kernel⟩ (c_X7_in (l := kL K) (E := kE K)  _ hq1) (by rw [hKR]; exact ⟨rfl, rfl, ⟨by decide, by decide⟩, Nat.le_refl _, Nat.le_refl _⟩) rfl rfl (by simp [Value.category]) rfl dX7_cells_4 rfl ?_
  obtain ⟨q2, hq2, hf⟩ := bd hf
  refine g_callV0 (st' := []) (as := [.int q1]) (st2 := [.int q2.1]) (k := 1) C ⟨wm_RX7_96, wn_X7_says, wv_X7_says, wi_RX7, wk_X7_says, by decide +kernel⟩ rfl (wL_at0 rfl) (c_X7_says (l := kL K) (E := kE K)  _ hq2) (by rw [hKR]; exact ⟨rfl, rfl, ⟨by decide, by decide⟩, Nat.le_refl _, Nat.le_refl _⟩) rfl rfl (by simp) rfl dX7_cells_7 rfl ?_
  refine g_if_eq (tgt := 22) C dX7_cells_10 (by decide) rfl (fun c3 => ?_) (fun c3 => ?_)
  · replace hf := ift c3 hf
    refine g_lconst (v := 0) C (by decide) dX7_cells_22 rfl ?_
    obtain rfl := Option.some.inj hf
    exact g_lret C hKQ dX7_cells_23
  · replace hf := iff' c3 hf
    refine g_aload_n C rfl (q := 0) rfl dX7_cells_13 rfl ?_
    refine g_get C fc_X7 9 (by decide) wf_RX7_33 (wL_at0 rfl) rfl dX7_cells_14 rfl ?_
    refine g_iload_n C rfl (q := 1) rfl dX7_cells_17 rfl ?_
    obtain ⟨g4, hf⟩ := gd hf
    refine g_lald C (wL_at 8 rfl) (inB_in g4) dX7_cells_18 rfl ?_
    refine g_goto (pc' := 23) C dX7_cells_19 (by decide) ?_
    obtain rfl := Option.some.inj hf
    exact g_lret C hKQ dX7_cells_23
def f_X7_put_39  (l1 : Int32) (l2 : Int64) (l5 : Int32) (shp : Nat → Int64) : Nat → Int32 → Int32 → Option Int32
  | 0, _, _ => none
  | fu + 1, l4, l6 => (if (64 : Int32) ≤ l6 then some l4 else (if l4 = 0 then (if l2 = (0 : Int64) then f_X7_put_39 l1 l2 l5 shp fu (0 : Int32) (l6 + (1 : Int32)) else (if inB ((l1 * (48 : Int32)) + l5) 288 = true then ((f_X7_moved fu (shp ((l1 * (48 : Int32)) + l5).toNatClampNeg) (l6 - l6 / (4 : Int32) * (4 : Int32)) ((l6 / (4 : Int32)) - (l6 / (4 : Int32)) / (4 : Int32) * (4 : Int32)) (l6 / (16 : Int32))).bind fun q73 => f_X7_put_39 l1 l2 l5 shp fu (if q73 = l2 then (1 : Int32) else (0 : Int32)) (l6 + (1 : Int32))) else none)) else f_X7_put_39 l1 l2 l5 shp fu (1 : Int32) (l6 + (1 : Int32))))
def f_X7_put_25  (l1 : Int32) (l2 : Int64) (shs : Nat → Int32) (shp : Nat → Int64) : Nat → Int32 → Int32 → Option Int32
  | 0, _, _ => none
  | fu + 1, l4, l5 => (if inB l1 6 = true then (if (shs l1.toNatClampNeg) ≤ l5 then some l4 else ((f_X7_put_39 l1 l2 l5 shp fu l4 (0 : Int32)).bind fun q76 => f_X7_put_25 l1 l2 shs shp fu q76 (l5 + (1 : Int32)))) else none)
def f_X7_put_117  (l1 : Int32) (l2 : Int64) (asm : Nat → Int64) : Nat → Int32 → Int32 → Option Int32
  | 0, _, _ => none
  | fu + 1, l5, l6 => (if (6 : Int32) ≤ l6 then some l5 else (if l5 = 0 then f_X7_put_117 l1 l2 asm fu (0 : Int32) (l6 + (1 : Int32)) else (if l6 = l1 then f_X7_put_117 l1 l2 asm fu (1 : Int32) (l6 + (1 : Int32)) else (if inB l6 6 = true then f_X7_put_117 l1 l2 asm fu (if ((asm l6.toNatClampNeg) &&& l2) = (0 : Int64) then (1 : Int32) else (0 : Int32)) (l6 + (1 : Int32)) else none))))
def f_X7_put (fu : Nat) (set : Nat → Int64) (mir : Nat → Int32) (shs : Nat → Int32) (shp : Nat → Int64) (asm : Nat → Int64) (p : Int32) (s : Int64) : Option (Int32 × (Nat → Int32) × (Nat → Int64) × (Nat → Int64)) := ((f_X7_in p (0 : Int32) (5 : Int32)).bind fun q1 => ((f_X7_says q1).bind fun q2 => (if q2.1 = 0 then some (q2.2, shs, shp, asm) else ((f_X7_shapesOf fu set mir shs shp p).bind fun q4 => ((f_X7_put_25 p s q4.1 q4.2 fu (0 : Int32) (0 : Int32)).bind fun q77 => ((f_X7_put_117 p s asm fu (1 : Int32) (0 : Int32)).bind fun q96 => (if (if q77 = 0 then (1 : Int32) else (if q96 = 0 then (2 : Int32) else (0 : Int32))) = 0 then (if inB p 6 = true then some ((if q77 = 0 then (1 : Int32) else (if q96 = 0 then (2 : Int32) else (0 : Int32))), q4.1, q4.2, va_up asm p.toNatClampNeg s) else none) else some ((if q77 = 0 then (1 : Int32) else (if q96 = 0 then (2 : Int32) else (0 : Int32))), q4.1, q4.2, asm))))))))
set_option maxHeartbeats 2000000 in
set_option maxRecDepth 20000 in
theorem g_X7_put_39 {K : KX} {n : Nat} {σ : AH} {a : Nat}  {l1 : Int32} {l2 : Int64} {l5 : Int32} {th : Int32} {set : Nat → Int64} {mir : Nat → Int32} {tgt : Nat → Int32} {shs : Nat → Int32} {shp : Nat → Int64} {pls : Nat → Int32} {pl : Nat → Int64} {tri : Int32} {asm : Nat → Int64} {tak : Nat → Int64} {pld : Nat → Int32} {cel : Nat → Int32} {pie : Nat → Int32} {nxt : Nat → Int32} {cho : Nat → Int64} {cbs : Nat → Int32} {cub : Nat → Int32} {sts : Int32} {stt : Nat → Int32} {frm : Nat → Int32} {by' : Nat → Int32} {wrk : Nat → Int32} {oth : Nat → Int32} {mvs : Int32} {mov : Nat → Int32} (C : Cx K RX7 "put" cX7_put none) (hKR : kR K = ({ frames := 3, cells := 0, slots := 0, locals := 82 } : Room)) (hKN : kN K = 7) : ∀ (fu : Nat) (l4 : Int32) (l6 : Int32) (res : Int32), f_X7_put_39 l1 l2 l5 shp fu l4 l6 = some res → G K 0 0 105 [(0, .ref a), (1, .int l1), (2, .long l2), (4, .int res), (5, .int l5)] [] (wMd σ a th set mir tgt shs shp pls pl tri asm tak pld cel pie nxt cho cbs cub sts stt frm by' wrk oth mvs mov) n → G K 0 0 39 [(0, .ref a), (1, .int l1), (2, .long l2), (4, .int l4), (5, .int l5), (6, .int l6)] [] (wMd σ a th set mir tgt shs shp pls pl tri asm tak pld cel pie nxt cho cbs cub sts stt frm by' wrk oth mvs mov) n := by
  intro fu
  induction fu with
  | zero =>
    intro l4 l6 res hf
    exact absurd hf (by simp [f_X7_put_39])
  | succ fu ih =>
    intro l4 l6 res hf hx
    rw [f_X7_put_39] at hf
    refine g_iload C (q := 5) rfl dX7_put_39 rfl ?_
    refine g_bipush (v := 64) C (by decide) dX7_put_41 rfl ?_
    refine g_icmp_ge (tgt := 105) C dX7_put_43 (by decide) rfl (fun c69 => ?_) (fun c69 => ?_)
    · replace hf := ift c69 hf
      obtain rfl := Option.some.inj hf
      refine g_sub (lv' := [(0, .ref a), (1, .int l1), (2, .long l2), (4, .int l4), (5, .int l5)]) [0, 1, 2, 3, 4] rfl ?_
      exact hx
    · replace hf := iff' c69 hf
      refine g_iload C (q := 3) rfl dX7_put_46 rfl ?_
      refine g_if_ne (tgt := 92) C dX7_put_48 (by decide) rfl (fun c70 => ?_) (fun c70 => ?_)
      · replace hf := iff' c70 hf
        refine g_iconst (v := 1) C (by decide) dX7_put_92 rfl ?_
        refine g_goto (pc' := 97) C dX7_put_93 (by decide) ?_
        refine g_istore (i := 4) (lv' := [(4, .int (1 : Int32)), (0, .ref a), (1, .int l1), (2, .long l2), (5, .int l5), (6, .int l6)]) C dX7_put_97 rfl (by rw [hKN]; decide) rfl ?_
        refine g_iinc (v := l6 + (1 : Int32)) (lv' := [(6, .int (l6 + (1 : Int32))), (4, .int (1 : Int32)), (0, .ref a), (1, .int l1), (2, .long l2), (5, .int l5)]) (q := 5) C dX7_put_99 rfl rfl rfl (by rw [hKN]; decide) rfl ?_
        refine g_goto (pc' := 39) C dX7_put_102 (by decide) ?_
        refine g_sub (lv' := [(0, .ref a), (1, .int l1), (2, .long l2), (4, .int (1 : Int32)), (5, .int l5), (6, .int (l6 + (1 : Int32)))]) [2, 3, 4, 1, 5, 0] rfl ?_
        exact ih _ _ _ hf hx
      · replace hf := ift c70 hf
        refine g_lload_n C rfl (q := 2) rfl dX7_put_51 rfl ?_
        refine g_lconst (v := 0) C (by decide) dX7_put_52 rfl ?_
        refine g_lif_eq (tgt := 96) C dX7_put_53 rfl dX7_put_54 (by decide) rfl (fun c71 => ?_) (fun c71 => ?_)
        · replace hf := ift c71 hf
          refine g_iconst (v := 0) C (by decide) dX7_put_96 rfl ?_
          refine g_istore (i := 4) (lv' := [(4, .int (0 : Int32)), (0, .ref a), (1, .int l1), (2, .long l2), (5, .int l5), (6, .int l6)]) C dX7_put_97 rfl (by rw [hKN]; decide) rfl ?_
          refine g_iinc (v := l6 + (1 : Int32)) (lv' := [(6, .int (l6 + (1 : Int32))), (4, .int (0 : Int32)), (0, .ref a), (1, .int l1), (2, .long l2), (5, .int l5)]) (q := 5) C dX7_put_99 rfl rfl rfl (by rw [hKN]; decide) rfl ?_
          refine g_goto (pc' := 39) C dX7_put_102 (by decide) ?_
          refine g_sub (lv' := [(0, .ref a), (1, .int l1), (2, .long l2), (4, .int (0 : Int32)), (5, .int l5), (6, .int (l6 + (1 : Int32)))]) [2, 3, 4, 1, 5, 0] rfl ?_
          exact ih _ _ _ hf hx
        · replace hf := iff' c71 hf
          refine g_aload_n C rfl (q := 0) rfl dX7_put_57 rfl ?_
          refine g_get C fc_X7 5 (by decide) wf_RX7_24 (wL_at0 rfl) rfl dX7_put_58 rfl ?_
          refine g_iload_n C rfl (q := 1) rfl dX7_put_61 rfl ?_
          refine g_bipush (v := 48) C (by decide) dX7_put_62 rfl ?_
          refine g_imul C dX7_put_64 rfl ?_
          refine g_iload C (q := 4) rfl dX7_put_65 rfl ?_
          refine g_iadd C dX7_put_67 rfl ?_
          obtain ⟨g72, hf⟩ := gd hf
          refine g_lald C (wL_at 5 rfl) (inB_in g72) dX7_put_68 rfl ?_
          refine g_iload C (q := 5) rfl dX7_put_69 rfl ?_
          refine g_iconst (v := 4) C (by decide) dX7_put_71 rfl ?_
          refine g_irem C (by decide) dX7_put_72 rfl ?_
          refine g_iload C (q := 5) rfl dX7_put_73 rfl ?_
          refine g_iconst (v := 4) C (by decide) dX7_put_75 rfl ?_
          refine g_idiv C (by decide) dX7_put_76 rfl ?_
          refine g_iconst (v := 4) C (by decide) dX7_put_77 rfl ?_
          refine g_irem C (by decide) dX7_put_78 rfl ?_
          refine g_iload C (q := 5) rfl dX7_put_79 rfl ?_
          refine g_bipush (v := 16) C (by decide) dX7_put_81 rfl ?_
          refine g_idiv C (by decide) dX7_put_83 rfl ?_
          obtain ⟨q73, hq73, hf⟩ := bd hf
          refine g_callS0 (st' := []) (as := [.long (shp ((l1 * (48 : Int32)) + l5).toNatClampNeg), .int (l6 - l6 / (4 : Int32) * (4 : Int32)), .int ((l6 / (4 : Int32)) - (l6 / (4 : Int32)) / (4 : Int32) * (4 : Int32)), .int (l6 / (16 : Int32))]) (st2 := [.long q73]) (k := 4) C ⟨wm_RX7_128, ws_X7_moved, wi_RX7, wk_X7_moved, by decide +kernel⟩ (c_X7_moved (l := kL K) (E := kE K)  _ hq73) (by rw [hKR]; exact ⟨rfl, rfl, ⟨by decide, by decide⟩, Nat.le_refl _, Nat.le_refl _⟩) rfl rfl (by simp) rfl dX7_put_84 rfl ?_
          refine g_lload_n C rfl (q := 2) rfl dX7_put_87 rfl ?_
          have j74 : G K 0 0 97 [(0, .ref a), (1, .int l1), (2, .long l2), (4, .int l4), (5, .int l5), (6, .int l6)] [.int (if q73 = l2 then (1 : Int32) else (0 : Int32))] (wMd σ a th set mir tgt shs shp pls pl tri asm tak pld cel pie nxt cho cbs cub sts stt frm by' wrk oth mvs mov) n := by
            refine g_istore (i := 4) (lv' := [(4, .int (if q73 = l2 then (1 : Int32) else (0 : Int32))), (0, .ref a), (1, .int l1), (2, .long l2), (5, .int l5), (6, .int l6)]) C dX7_put_97 rfl (by rw [hKN]; decide) rfl ?_
            refine g_iinc (v := l6 + (1 : Int32)) (lv' := [(6, .int (l6 + (1 : Int32))), (4, .int (if q73 = l2 then (1 : Int32) else (0 : Int32))), (0, .ref a), (1, .int l1), (2, .long l2), (5, .int l5)]) (q := 5) C dX7_put_99 rfl rfl rfl (by rw [hKN]; decide) rfl ?_
            refine g_goto (pc' := 39) C dX7_put_102 (by decide) ?_
            refine g_sub (lv' := [(0, .ref a), (1, .int l1), (2, .long l2), (4, .int (if q73 = l2 then (1 : Int32) else (0 : Int32))), (5, .int l5), (6, .int (l6 + (1 : Int32)))]) [2, 3, 4, 1, 5, 0] rfl ?_
            exact ih _ _ _ hf hx
          refine g_lif_ne (tgt := 96) C dX7_put_88 rfl dX7_put_89 (by decide) rfl (fun c75 => ?_) (fun c75 => ?_)
          · refine g_iconst (v := 0) C (by decide) dX7_put_96 rfl ?_
            exact g_topI (by rw [if_neg c75]) j74
          · refine g_iconst (v := 1) C (by decide) dX7_put_92 rfl ?_
            refine g_goto (pc' := 97) C dX7_put_93 (by decide) ?_
            exact g_topI (by rw [if_pos c75]) j74
set_option maxHeartbeats 2000000 in
set_option maxRecDepth 20000 in
theorem g_X7_put_25 {K : KX} {n : Nat} {σ : AH} {a : Nat}  {l1 : Int32} {l2 : Int64} {th : Int32} {set : Nat → Int64} {mir : Nat → Int32} {tgt : Nat → Int32} {shs : Nat → Int32} {shp : Nat → Int64} {pls : Nat → Int32} {pl : Nat → Int64} {tri : Int32} {asm : Nat → Int64} {tak : Nat → Int64} {pld : Nat → Int32} {cel : Nat → Int32} {pie : Nat → Int32} {nxt : Nat → Int32} {cho : Nat → Int64} {cbs : Nat → Int32} {cub : Nat → Int32} {sts : Int32} {stt : Nat → Int32} {frm : Nat → Int32} {by' : Nat → Int32} {wrk : Nat → Int32} {oth : Nat → Int32} {mvs : Int32} {mov : Nat → Int32} (C : Cx K RX7 "put" cX7_put none) (hKR : kR K = ({ frames := 3, cells := 0, slots := 0, locals := 82 } : Room)) (hKN : kN K = 7) : ∀ (fu : Nat) (l4 : Int32) (l5 : Int32) (res : Int32), f_X7_put_25 l1 l2 shs shp fu l4 l5 = some res → G K 0 0 111 [(0, .ref a), (1, .int l1), (2, .long l2), (4, .int res)] [] (wMd σ a th set mir tgt shs shp pls pl tri asm tak pld cel pie nxt cho cbs cub sts stt frm by' wrk oth mvs mov) n → G K 0 0 25 [(0, .ref a), (1, .int l1), (2, .long l2), (4, .int l4), (5, .int l5)] [] (wMd σ a th set mir tgt shs shp pls pl tri asm tak pld cel pie nxt cho cbs cub sts stt frm by' wrk oth mvs mov) n := by
  intro fu
  induction fu with
  | zero =>
    intro l4 l5 res hf
    exact absurd hf (by simp [f_X7_put_25])
  | succ fu ih =>
    intro l4 l5 res hf hx
    rw [f_X7_put_25] at hf
    refine g_iload C (q := 4) rfl dX7_put_25 rfl ?_
    refine g_aload_n C rfl (q := 0) rfl dX7_put_27 rfl ?_
    refine g_get C fc_X7 4 (by decide) wf_RX7_21 (wL_at0 rfl) rfl dX7_put_28 rfl ?_
    refine g_iload_n C rfl (q := 1) rfl dX7_put_31 rfl ?_
    obtain ⟨g53, hf⟩ := gd hf
    refine g_iald C (wL_at 4 rfl) (inB_in g53) dX7_put_32 rfl ?_
    refine g_icmp_ge (tgt := 111) C dX7_put_33 (by decide) rfl (fun c54 => ?_) (fun c54 => ?_)
    · replace hf := ift c54 hf
      obtain rfl := Option.some.inj hf
      refine g_sub (lv' := [(0, .ref a), (1, .int l1), (2, .long l2), (4, .int l4)]) [0, 1, 2, 3] rfl ?_
      exact hx
    · replace hf := iff' c54 hf
      refine g_iconst (v := 0) C (by decide) dX7_put_36 rfl ?_
      refine g_istore (i := 6) (lv' := [(6, .int (0 : Int32)), (0, .ref a), (1, .int l1), (2, .long l2), (4, .int l4), (5, .int l5)]) C dX7_put_37 rfl (by rw [hKN]; decide) rfl ?_
      refine g_sub (lv' := [(0, .ref a), (1, .int l1), (2, .long l2), (4, .int l4), (5, .int l5), (6, .int (0 : Int32))]) [1, 2, 3, 4, 5, 0] rfl ?_
      obtain ⟨q76, hq76, hf⟩ := bd hf
      refine g_X7_put_39 (l1 := l1) (l2 := l2) (l5 := l5) (th := th) (set := set) (mir := mir) (tgt := tgt) (shs := shs) (shp := shp) (pls := pls) (pl := pl) (tri := tri) (asm := asm) (tak := tak) (pld := pld) (cel := cel) (pie := pie) (nxt := nxt) (cho := cho) (cbs := cbs) (cub := cub) (sts := sts) (stt := stt) (frm := frm) (by' := by') (wrk := wrk) (oth := oth) (mvs := mvs) (mov := mov) C hKR hKN _ _ _ _ hq76 ?_
      refine g_iinc (v := l5 + (1 : Int32)) (lv' := [(5, .int (l5 + (1 : Int32))), (0, .ref a), (1, .int l1), (2, .long l2), (4, .int q76)]) (q := 4) C dX7_put_105 rfl rfl rfl (by rw [hKN]; decide) rfl ?_
      refine g_goto (pc' := 25) C dX7_put_108 (by decide) ?_
      refine g_sub (lv' := [(0, .ref a), (1, .int l1), (2, .long l2), (4, .int q76), (5, .int (l5 + (1 : Int32)))]) [1, 2, 3, 4, 0] rfl ?_
      exact ih _ _ _ hf hx
set_option maxHeartbeats 2000000 in
set_option maxRecDepth 20000 in
theorem g_X7_put_117 {K : KX} {n : Nat} {σ : AH} {a : Nat}  {l1 : Int32} {l2 : Int64} {l4 : Int32} {th : Int32} {set : Nat → Int64} {mir : Nat → Int32} {tgt : Nat → Int32} {shs : Nat → Int32} {shp : Nat → Int64} {pls : Nat → Int32} {pl : Nat → Int64} {tri : Int32} {asm : Nat → Int64} {tak : Nat → Int64} {pld : Nat → Int32} {cel : Nat → Int32} {pie : Nat → Int32} {nxt : Nat → Int32} {cho : Nat → Int64} {cbs : Nat → Int32} {cub : Nat → Int32} {sts : Int32} {stt : Nat → Int32} {frm : Nat → Int32} {by' : Nat → Int32} {wrk : Nat → Int32} {oth : Nat → Int32} {mvs : Int32} {mov : Nat → Int32} (C : Cx K RX7 "put" cX7_put none) (hKR : kR K = ({ frames := 3, cells := 0, slots := 0, locals := 82 } : Room)) (hKN : kN K = 7) : ∀ (fu : Nat) (l5 : Int32) (l6 : Int32) (res : Int32), f_X7_put_117 l1 l2 asm fu l5 l6 = some res → G K 0 0 162 [(0, .ref a), (1, .int l1), (2, .long l2), (4, .int l4), (5, .int res)] [] (wMd σ a th set mir tgt shs shp pls pl tri asm tak pld cel pie nxt cho cbs cub sts stt frm by' wrk oth mvs mov) n → G K 0 0 117 [(0, .ref a), (1, .int l1), (2, .long l2), (4, .int l4), (5, .int l5), (6, .int l6)] [] (wMd σ a th set mir tgt shs shp pls pl tri asm tak pld cel pie nxt cho cbs cub sts stt frm by' wrk oth mvs mov) n := by
  intro fu
  induction fu with
  | zero =>
    intro l5 l6 res hf
    exact absurd hf (by simp [f_X7_put_117])
  | succ fu ih =>
    intro l5 l6 res hf hx
    rw [f_X7_put_117] at hf
    refine g_iload C (q := 5) rfl dX7_put_117 rfl ?_
    refine g_bipush (v := 6) C (by decide) dX7_put_119 rfl ?_
    refine g_icmp_ge (tgt := 162) C dX7_put_121 (by decide) rfl (fun c90 => ?_) (fun c90 => ?_)
    · replace hf := ift c90 hf
      obtain rfl := Option.some.inj hf
      refine g_sub (lv' := [(0, .ref a), (1, .int l1), (2, .long l2), (4, .int l4), (5, .int l5)]) [0, 1, 2, 3, 4] rfl ?_
      exact hx
    · replace hf := iff' c90 hf
      refine g_iload C (q := 4) rfl dX7_put_124 rfl ?_
      refine g_if_eq (tgt := 153) C dX7_put_126 (by decide) rfl (fun c91 => ?_) (fun c91 => ?_)
      · replace hf := ift c91 hf
        refine g_iconst (v := 0) C (by decide) dX7_put_153 rfl ?_
        refine g_istore (i := 5) (lv' := [(5, .int (0 : Int32)), (0, .ref a), (1, .int l1), (2, .long l2), (4, .int l4), (6, .int l6)]) C dX7_put_154 rfl (by rw [hKN]; decide) rfl ?_
        refine g_iinc (v := l6 + (1 : Int32)) (lv' := [(6, .int (l6 + (1 : Int32))), (5, .int (0 : Int32)), (0, .ref a), (1, .int l1), (2, .long l2), (4, .int l4)]) (q := 5) C dX7_put_156 rfl rfl rfl (by rw [hKN]; decide) rfl ?_
        refine g_goto (pc' := 117) C dX7_put_159 (by decide) ?_
        refine g_sub (lv' := [(0, .ref a), (1, .int l1), (2, .long l2), (4, .int l4), (5, .int (0 : Int32)), (6, .int (l6 + (1 : Int32)))]) [2, 3, 4, 5, 1, 0] rfl ?_
        exact ih _ _ _ hf hx
      · replace hf := iff' c91 hf
        refine g_iload C (q := 5) rfl dX7_put_129 rfl ?_
        refine g_iload_n C rfl (q := 1) rfl dX7_put_131 rfl ?_
        refine g_icmp_eq (tgt := 149) C dX7_put_132 (by decide) rfl (fun c92 => ?_) (fun c92 => ?_)
        · replace hf := ift c92 hf
          refine g_iconst (v := 1) C (by decide) dX7_put_149 rfl ?_
          refine g_goto (pc' := 154) C dX7_put_150 (by decide) ?_
          refine g_istore (i := 5) (lv' := [(5, .int (1 : Int32)), (0, .ref a), (1, .int l1), (2, .long l2), (4, .int l4), (6, .int l6)]) C dX7_put_154 rfl (by rw [hKN]; decide) rfl ?_
          refine g_iinc (v := l6 + (1 : Int32)) (lv' := [(6, .int (l6 + (1 : Int32))), (5, .int (1 : Int32)), (0, .ref a), (1, .int l1), (2, .long l2), (4, .int l4)]) (q := 5) C dX7_put_156 rfl rfl rfl (by rw [hKN]; decide) rfl ?_
          refine g_goto (pc' := 117) C dX7_put_159 (by decide) ?_
          refine g_sub (lv' := [(0, .ref a), (1, .int l1), (2, .long l2), (4, .int l4), (5, .int (1 : Int32)), (6, .int (l6 + (1 : Int32)))]) [2, 3, 4, 5, 1, 0] rfl ?_
          exact ih _ _ _ hf hx
        · replace hf := iff' c92 hf
          refine g_aload_n C rfl (q := 0) rfl dX7_put_135 rfl ?_
          refine g_get C fc_X7 9 (by decide) wf_RX7_33 (wL_at0 rfl) rfl dX7_put_136 rfl ?_
          refine g_iload C (q := 5) rfl dX7_put_139 rfl ?_
          obtain ⟨g93, hf⟩ := gd hf
          refine g_lald C (wL_at 8 rfl) (inB_in g93) dX7_put_141 rfl ?_
          refine g_lload_n C rfl (q := 2) rfl dX7_put_142 rfl ?_
          refine g_land C dX7_put_143 rfl ?_
          refine g_lconst (v := 0) C (by decide) dX7_put_144 rfl ?_
          have j94 : G K 0 0 154 [(0, .ref a), (1, .int l1), (2, .long l2), (4, .int l4), (5, .int l5), (6, .int l6)] [.int (if ((asm l6.toNatClampNeg) &&& l2) = (0 : Int64) then (1 : Int32) else (0 : Int32))] (wMd σ a th set mir tgt shs shp pls pl tri asm tak pld cel pie nxt cho cbs cub sts stt frm by' wrk oth mvs mov) n := by
            refine g_istore (i := 5) (lv' := [(5, .int (if ((asm l6.toNatClampNeg) &&& l2) = (0 : Int64) then (1 : Int32) else (0 : Int32))), (0, .ref a), (1, .int l1), (2, .long l2), (4, .int l4), (6, .int l6)]) C dX7_put_154 rfl (by rw [hKN]; decide) rfl ?_
            refine g_iinc (v := l6 + (1 : Int32)) (lv' := [(6, .int (l6 + (1 : Int32))), (5, .int (if ((asm l6.toNatClampNeg) &&& l2) = (0 : Int64) then (1 : Int32) else (0 : Int32))), (0, .ref a), (1, .int l1), (2, .long l2), (4, .int l4)]) (q := 5) C dX7_put_156 rfl rfl rfl (by rw [hKN]; decide) rfl ?_
            refine g_goto (pc' := 117) C dX7_put_159 (by decide) ?_
            refine g_sub (lv' := [(0, .ref a), (1, .int l1), (2, .long l2), (4, .int l4), (5, .int (if ((asm l6.toNatClampNeg) &&& l2) = (0 : Int64) then (1 : Int32) else (0 : Int32))), (6, .int (l6 + (1 : Int32)))]) [2, 3, 4, 5, 1, 0] rfl ?_
            exact ih _ _ _ hf hx
          refine g_lif_ne (tgt := 153) C dX7_put_145 rfl dX7_put_146 (by decide) rfl (fun c95 => ?_) (fun c95 => ?_)
          · refine g_iconst (v := 0) C (by decide) dX7_put_153 rfl ?_
            exact g_topI (by rw [if_neg c95]) j94
          · refine g_iconst (v := 1) C (by decide) dX7_put_149 rfl ?_
            refine g_goto (pc' := 154) C dX7_put_150 (by decide) ?_
            exact g_topI (by rw [if_pos c95]) j94
set_option maxHeartbeats 2000000 in
set_option maxRecDepth 20000 in
theorem c_X7_put {l : Launch} {E : Ex} {n : Nat} {σ : AH} {a : Nat}  {th : Int32} {set : Nat → Int64} {mir : Nat → Int32} {tgt : Nat → Int32} {shs : Nat → Int32} {shp : Nat → Int64} {pls : Nat → Int32} {pl : Nat → Int64} {tri : Int32} {asm : Nat → Int64} {tak : Nat → Int64} {pld : Nat → Int32} {cel : Nat → Int32} {pie : Nat → Int32} {nxt : Nat → Int32} {cho : Nat → Int64} {cbs : Nat → Int32} {cub : Nat → Int32} {sts : Int32} {stt : Nat → Int32} {frm : Nat → Int32} {by' : Nat → Int32} {wrk : Nat → Int32} {oth : Nat → Int32} {mvs : Int32} {mov : Nat → Int32} {p : Int32} {s : Int64} {fu : Nat} (res : (Int32 × (Nat → Int32) × (Nat → Int64) × (Nat → Int64))) (hf : f_X7_put fu set mir shs shp asm p s = some res) : Con l E yX7_put (.code yX7_put cX7_put 7 none :: TT) ({ frames := 3, cells := 0, slots := 0, locals := 82 } : Room) 0 0 [.ref a, .int p, .long s] (wMd σ a th set mir tgt shs shp pls pl tri asm tak pld cel pie nxt cho cbs cub sts stt frm by' wrk oth mvs mov) n none (wMd σ a res.1 set mir tgt res.2.1 res.2.2.1 pls pl tri res.2.2.2 tak pld cel pie nxt cho cbs cub sts stt frm by' wrk oth mvs mov) n := by
  refine con_intro (by decide +kernel) (Nat.le_of_ble_eq_true rfl) ?_
  intro K C hKR hKL hKE hKN hKQ
  subst hKL
  subst hKE
  have C : Cx K RX7 "put" cX7_put none := C
  show G K 0 0 0 [(0, .ref a), (1, .int p), (2, .long s)] [] (wMd σ a th set mir tgt shs shp pls pl tri asm tak pld cel pie nxt cho cbs cub sts stt frm by' wrk oth mvs mov) n
  unfold f_X7_put at hf
  refine g_aload_n C rfl (q := 0) rfl dX7_put_0 rfl ?_
  refine g_iload_n C rfl (q := 1) rfl dX7_put_1 rfl ?_
  refine g_iconst (v := 0) C (by decide) dX7_put_2 rfl ?_
  refine g_iconst (v := 5) C (by decide) dX7_put_3 rfl ?_
  obtain ⟨q1, hq1, hf⟩ := bd hf
  refine g_callS0 (st' := [.ref a]) (as := [.int p, .int (0 : Int32), .int (5 : Int32)]) (st2 := [.int q1, .ref a]) (k := 3) C ⟨wm_RX7_88, ws_X7_in, wi_RX7, wk_X7_in, by decide +kernel⟩ (c_X7_in (l := kL K) (E := kE K)  _ hq1) (by rw [hKR]; exact ⟨rfl, rfl, ⟨by decide, by decide⟩, Nat.le_refl _, Nat.le_refl _⟩) rfl rfl (by simp [Value.category]) rfl dX7_put_4 rfl ?_
  obtain ⟨q2, hq2, hf⟩ := bd hf
  refine g_callV0 (st' := []) (as := [.int q1]) (st2 := [.int q2.1]) (k := 1) C ⟨wm_RX7_96, wn_X7_says, wv_X7_says, wi_RX7, wk_X7_says, by decide +kernel⟩ rfl (wL_at0 rfl) (c_X7_says (l := kL K) (E := kE K)  _ hq2) (by rw [hKR]; exact ⟨rfl, rfl, ⟨by decide, by decide⟩, Nat.le_refl _, Nat.le_refl _⟩) rfl rfl (by simp) rfl dX7_put_7 rfl ?_
  refine g_if_ne (tgt := 14) C dX7_put_10 (by decide) rfl (fun c3 => ?_) (fun c3 => ?_)
  · replace hf := iff' c3 hf
    refine g_aload_n C rfl (q := 0) rfl dX7_put_14 rfl ?_
    refine g_iload_n C rfl (q := 1) rfl dX7_put_15 rfl ?_
    obtain ⟨q4, hq4, hf⟩ := bd hf
    refine g_callV0 (st' := []) (as := [.int p]) (st2 := []) (k := 1) C ⟨wm_RX7_124, wn_X7_shapesOf, wv_X7_shapesOf, wi_RX7, wk_X7_shapesOf, by decide +kernel⟩ rfl (wL_at0 rfl) (c_X7_shapesOf (l := kL K) (E := kE K)  _ hq4) (by rw [hKR]; exact ⟨rfl, rfl, ⟨by decide, by decide⟩, Nat.le_refl _, Nat.le_refl _⟩) rfl rfl (by simp) rfl dX7_put_16 rfl ?_
    refine g_iconst (v := 0) C (by decide) dX7_put_19 rfl ?_
    refine g_istore (i := 4) (lv' := [(4, .int (0 : Int32)), (0, .ref a), (1, .int p), (2, .long s)]) C dX7_put_20 rfl (by rw [hKN]; decide) rfl ?_
    refine g_iconst (v := 0) C (by decide) dX7_put_22 rfl ?_
    refine g_istore (i := 5) (lv' := [(5, .int (0 : Int32)), (4, .int (0 : Int32)), (0, .ref a), (1, .int p), (2, .long s)]) C dX7_put_23 rfl (by rw [hKN]; decide) rfl ?_
    refine g_sub (lv' := [(0, .ref a), (1, .int p), (2, .long s), (4, .int (0 : Int32)), (5, .int (0 : Int32))]) [2, 3, 4, 1, 0] rfl ?_
    obtain ⟨q77, hq77, hf⟩ := bd hf
    refine g_X7_put_25 (l1 := p) (l2 := s) (th := q2.2) (set := set) (mir := mir) (tgt := tgt) (shs := q4.1) (shp := q4.2) (pls := pls) (pl := pl) (tri := tri) (asm := asm) (tak := tak) (pld := pld) (cel := cel) (pie := pie) (nxt := nxt) (cho := cho) (cbs := cbs) (cub := cub) (sts := sts) (stt := stt) (frm := frm) (by' := by') (wrk := wrk) (oth := oth) (mvs := mvs) (mov := mov) C hKR hKN _ _ _ _ hq77 ?_
    refine g_iconst (v := 1) C (by decide) dX7_put_111 rfl ?_
    refine g_istore (i := 5) (lv' := [(5, .int (1 : Int32)), (0, .ref a), (1, .int p), (2, .long s), (4, .int q77)]) C dX7_put_112 rfl (by rw [hKN]; decide) rfl ?_
    refine g_iconst (v := 0) C (by decide) dX7_put_114 rfl ?_
    refine g_istore (i := 6) (lv' := [(6, .int (0 : Int32)), (5, .int (1 : Int32)), (0, .ref a), (1, .int p), (2, .long s), (4, .int q77)]) C dX7_put_115 rfl (by rw [hKN]; decide) rfl ?_
    refine g_sub (lv' := [(0, .ref a), (1, .int p), (2, .long s), (4, .int q77), (5, .int (1 : Int32)), (6, .int (0 : Int32))]) [2, 3, 4, 5, 1, 0] rfl ?_
    obtain ⟨q96, hq96, hf⟩ := bd hf
    refine g_X7_put_117 (l1 := p) (l2 := s) (l4 := q77) (th := q2.2) (set := set) (mir := mir) (tgt := tgt) (shs := q4.1) (shp := q4.2) (pls := pls) (pl := pl) (tri := tri) (asm := asm) (tak := tak) (pld := pld) (cel := cel) (pie := pie) (nxt := nxt) (cho := cho) (cbs := cbs) (cub := cub) (sts := sts) (stt := stt) (frm := frm) (by' := by') (wrk := wrk) (oth := oth) (mvs := mvs) (mov := mov) C hKR hKN _ _ _ _ hq96 ?_
    refine g_aload_n C rfl (q := 0) rfl dX7_put_162 rfl ?_
    refine g_iload C (q := 3) rfl dX7_put_163 rfl ?_
    have j99 : G K 0 0 182 [(0, .ref a), (1, .int p), (2, .long s), (4, .int q77), (5, .int q96)] [.int (if q77 = 0 then (1 : Int32) else (if q96 = 0 then (2 : Int32) else (0 : Int32))), .ref a] (wMd σ a q2.2 set mir tgt q4.1 q4.2 pls pl tri asm tak pld cel pie nxt cho cbs cub sts stt frm by' wrk oth mvs mov) n := by
      refine g_put (h' := (wMd σ a (if q77 = 0 then (1 : Int32) else (if q96 = 0 then (2 : Int32) else (0 : Int32))) set mir tgt q4.1 q4.2 pls pl tri asm tak pld cel pie nxt cho cbs cub sts stt frm by' wrk oth mvs mov)) C fc_X7 0 (by decide) wf_RX7_78 rfl rfl rfl (Nat.le_of_ble_eq_true rfl) (wL_at0 rfl) (wL_up0 (Nat.le_of_ble_eq_true rfl) rfl) dX7_put_182 rfl ?_
      refine g_aload_n C rfl (q := 0) rfl dX7_put_185 rfl ?_
      refine g_get C fc_X7 0 (by decide) wf_RX7_78 (wL_at0 rfl) rfl dX7_put_186 rfl ?_
      refine g_if_ne (tgt := 199) C dX7_put_189 (by decide) rfl (fun c97 => ?_) (fun c97 => ?_)
      · replace hf := iff' c97 hf
        obtain rfl := Option.some.inj hf
        exact g_vret C hKQ dX7_put_199
      · replace hf := ift c97 hf
        refine g_aload_n C rfl (q := 0) rfl dX7_put_192 rfl ?_
        refine g_get C fc_X7 9 (by decide) wf_RX7_33 (wL_at0 rfl) rfl dX7_put_193 rfl ?_
        refine g_iload_n C rfl (q := 1) rfl dX7_put_196 rfl ?_
        refine g_lload_n C rfl (q := 2) rfl dX7_put_197 rfl ?_
        obtain ⟨g98, hf⟩ := gd hf
        refine g_last (h' := (wMd σ a (if q77 = 0 then (1 : Int32) else (if q96 = 0 then (2 : Int32) else (0 : Int32))) set mir tgt q4.1 q4.2 pls pl tri (va_up asm p.toNatClampNeg s) tak pld cel pie nxt cho cbs cub sts stt frm by' wrk oth mvs mov)) C (wL_at 8 rfl) (inB_in g98) (wL_up 8 (Nat.le_of_ble_eq_true rfl) rfl) dX7_put_198 rfl ?_
        obtain rfl := Option.some.inj hf
        exact g_vret C hKQ dX7_put_199
    refine g_if_ne (tgt := 172) C dX7_put_165 (by decide) rfl (fun c100 => ?_) (fun c100 => ?_)
    · refine g_iload C (q := 4) rfl dX7_put_172 rfl ?_
      refine g_if_eq (tgt := 181) C dX7_put_174 (by decide) rfl (fun c101 => ?_) (fun c101 => ?_)
      · refine g_iconst (v := 2) C (by decide) dX7_put_181 rfl ?_
        exact g_topI (by rw [if_neg c100, if_pos c101]) j99
      · refine g_iconst (v := 0) C (by decide) dX7_put_177 rfl ?_
        refine g_goto (pc' := 182) C dX7_put_178 (by decide) ?_
        exact g_topI (by rw [if_neg c100, if_neg c101]) j99
    · refine g_iconst (v := 1) C (by decide) dX7_put_168 rfl ?_
      refine g_goto (pc' := 182) C dX7_put_169 (by decide) ?_
      exact g_topI (by rw [if_pos c100]) j99
  · replace hf := ift c3 hf
    obtain rfl := Option.some.inj hf
    exact g_vret C hKQ dX7_put_13
