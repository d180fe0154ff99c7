def f_X7_at (cub : Nat → Int32) (wrk : Nat → Int32) (p : Int32) (c : Int32) (axis : Int32) : Option Int32 := (if inB ((((p * (10 : Int32)) + c) * (3 : Int32)) + axis) 180 = true then (if inB (((3 : Int32) * p) + axis) 18 = true then some ((cub ((((p * (10 : Int32)) + c) * (3 : Int32)) + axis).toNatClampNeg) + (wrk (((3 : Int32) * p) + axis).toNatClampNeg)) else none) else none)
set_option maxHeartbeats 2000000 in
set_option maxRecDepth 20000 in
theorem c_X7_at {l : Launch} {E : Ex} {n : Nat} {σ : AH} {a : Nat}  {th : Int32} {set : Nat → Int64} {mir : Nat → Int32} {tgt : Nat → Int32} {shs : Nat → Int32} {shp : Nat → Int64} {pls : Nat → Int32} {pl : Nat → Int64} {tri : Int32} {asm : Nat → Int64} {tak : Nat → Int64} {pld : Nat → Int32} {cel : Nat → Int32} {pie : Nat → Int32} {nxt : Nat → Int32} {cho : Nat → Int64} {cbs : Nat → Int32} {cub : Nat → Int32} {sts : Int32} {stt : Nat → Int32} {frm : Nat → Int32} {by' : Nat → Int32} {wrk : Nat → Int32} {oth : Nat → Int32} {mvs : Int32} {mov : Nat → Int32} {p : Int32} {c : Int32} {axis : Int32} (res : Int32) (hf : f_X7_at cub wrk p c axis = some res) : Con l E yX7_at (.code yX7_at cX7_at 4 (some .int) :: TT) ({ frames := 0, cells := 0, slots := 0, locals := 0 } : Room) 0 0 [.ref a, .int p, .int c, .int axis] (wMd σ a th set mir tgt shs shp pls pl tri asm tak pld cel pie nxt cho cbs cub sts stt frm by' wrk oth mvs mov) n (some (.int res)) (wMd σ a th set mir tgt shs shp pls pl tri asm tak pld cel pie nxt cho cbs cub sts stt frm by' wrk oth mvs mov) n := by
  refine con_intro (by decide +kernel) (Nat.le_of_ble_eq_true rfl) ?_
  intro K C hKR hKL hKE hKN hKQ
  subst hKL
  subst hKE
  have C : Cx K RX7 "at" cX7_at (some .int) := C
  show G K 0 0 0 [(0, .ref a), (1, .int p), (2, .int c), (3, .int axis)] [] (wMd σ a th set mir tgt shs shp pls pl tri asm tak pld cel pie nxt cho cbs cub sts stt frm by' wrk oth mvs mov) n
  unfold f_X7_at at hf
  refine g_aload_n C rfl (q := 0) rfl dX7_at_0 rfl ?_
  refine g_get C fc_X7 17 (by decide) wf_RX7_57 (wL_at0 rfl) rfl dX7_at_1 rfl ?_
  refine g_iload_n C rfl (q := 1) rfl dX7_at_4 rfl ?_
  refine g_bipush (v := 10) C (by decide) dX7_at_5 rfl ?_
  refine g_imul C dX7_at_7 rfl ?_
  refine g_iload_n C rfl (q := 2) rfl dX7_at_8 rfl ?_
  refine g_iadd C dX7_at_9 rfl ?_
  refine g_iconst (v := 3) C (by decide) dX7_at_10 rfl ?_
  refine g_imul C dX7_at_11 rfl ?_
  refine g_iload_n C rfl (q := 3) rfl dX7_at_12 rfl ?_
  refine g_iadd C dX7_at_13 rfl ?_
  obtain ⟨g1, hf⟩ := gd hf
  refine g_iald C (wL_at 16 rfl) (inB_in g1) dX7_at_14 rfl ?_
  refine g_aload_n C rfl (q := 0) rfl dX7_at_15 rfl ?_
  refine g_get C fc_X7 22 (by decide) wf_RX7_69 (wL_at0 rfl) rfl dX7_at_16 rfl ?_
  refine g_iconst (v := 3) C (by decide) dX7_at_19 rfl ?_
  refine g_iload_n C rfl (q := 1) rfl dX7_at_20 rfl ?_
  refine g_imul C dX7_at_21 rfl ?_
  refine g_iload_n C rfl (q := 3) rfl dX7_at_22 rfl ?_
  refine g_iadd C dX7_at_23 rfl ?_
  obtain ⟨g2, hf⟩ := gd hf
  refine g_iald C (wL_at 20 rfl) (inB_in g2) dX7_at_24 rfl ?_
  refine g_iadd C dX7_at_25 rfl ?_
  obtain rfl := Option.some.inj hf
  exact g_iret C hKQ dX7_at_26
def f_X7_hits_59  (l3 : Int32) (l4 : Int32) (l5 : Int32) (cbs : Nat → Int32) (cub : Nat → Int32) (wrk : Nat → Int32) : Nat → Int32 → Option (Int32 ⊕ Unit)
  | 0, _ => none
  | fu + 1, l6 => (if inB l4 6 = true then (if (cbs l4.toNatClampNeg) ≤ l6 then some (.inr ()) else ((f_X7_at cub wrk l3 l5 (0 : Int32)).bind fun q1039 => ((f_X7_at cub wrk l4 l6 (0 : Int32)).bind fun q1040 => (if q1039 = q1040 then ((f_X7_at cub wrk l3 l5 (1 : Int32)).bind fun q1042 => ((f_X7_at cub wrk l4 l6 (1 : Int32)).bind fun q1043 => (if q1042 = q1043 then ((f_X7_at cub wrk l3 l5 (2 : Int32)).bind fun q1045 => ((f_X7_at cub wrk l4 l6 (2 : Int32)).bind fun q1046 => (if q1045 = q1046 then some (.inl (1 : Int32)) else f_X7_hits_59 l3 l4 l5 cbs cub wrk fu (l6 + (1 : Int32))))) else f_X7_hits_59 l3 l4 l5 cbs cub wrk fu (l6 + (1 : Int32))))) else f_X7_hits_59 l3 l4 l5 cbs cub wrk fu (l6 + (1 : Int32)))))) else none)
def f_X7_hits_45  (l3 : Int32) (l4 : Int32) (cbs : Nat → Int32) (cub : Nat → Int32) (wrk : Nat → Int32) : Nat → Int32 → Option (Int32 ⊕ Unit)
  | 0, _ => none
  | fu + 1, l5 => (if inB l3 6 = true then (if (cbs l3.toNatClampNeg) ≤ l5 then some (.inr ()) else (sumB (f_X7_hits_59 l3 l4 l5 cbs cub wrk fu (0 : Int32)) Sum.inl fun t1049 => f_X7_hits_45 l3 l4 cbs cub wrk fu (l5 + (1 : Int32)))) else none)
def f_X7_hits_11  (l1 : Int32) (l2 : Int32) (l3 : Int32) (cbs : Nat → Int32) (cub : Nat → Int32) (wrk : Nat → Int32) : Nat → Int32 → Option (Int32 ⊕ Unit)
  | 0, _ => none
  | fu + 1, l4 => (if (6 : Int32) ≤ l4 then some (.inr ()) else (if ((l2 >>> (l3 &&& 31)) &&& (1 : Int32)) = 0 then f_X7_hits_11 l1 l2 l3 cbs cub wrk fu (l4 + (1 : Int32)) else (if (((l1 &&& (l2 ^^^ (-1 : Int32))) >>> (l4 &&& 31)) &&& (1 : Int32)) = 0 then f_X7_hits_11 l1 l2 l3 cbs cub wrk fu (l4 + (1 : Int32)) else (sumB (f_X7_hits_45 l3 l4 cbs cub wrk fu (0 : Int32)) Sum.inl fun t1051 => f_X7_hits_11 l1 l2 l3 cbs cub wrk fu (l4 + (1 : Int32))))))
def f_X7_hits_2  (l1 : Int32) (l2 : Int32) (cbs : Nat → Int32) (cub : Nat → Int32) (wrk : Nat → Int32) : Nat → Int32 → Option (Int32 ⊕ Unit)
  | 0, _ => none
  | fu + 1, l3 => (if (6 : Int32) ≤ l3 then some (.inr ()) else (sumB (f_X7_hits_11 l1 l2 l3 cbs cub wrk fu (0 : Int32)) Sum.inl fun t1053 => f_X7_hits_2 l1 l2 cbs cub wrk fu (l3 + (1 : Int32))))
def f_X7_hits (fu : Nat) (cbs : Nat → Int32) (cub : Nat → Int32) (wrk : Nat → Int32) (part : Int32) (group : Int32) : Option Int32 := (sumB (f_X7_hits_2 part group cbs cub wrk fu (0 : Int32)) id fun t1055 => some (0 : Int32))
set_option maxHeartbeats 2000000 in
set_option maxRecDepth 20000 in
theorem g_X7_hits_59 {K : KX} {n : Nat} {σ : AH} {a : Nat}  {l1 : Int32} {l2 : Int32} {l3 : Int32} {l4 : Int32} {l5 : Int32} {th : Int32} {set : Nat → Int64} {mir : Nat → Int32} {tgt : Nat → Int32} {shs : Nat → Int32} {shp : Nat → Int64} {pls : Nat → Int32} {pl : Nat → Int64} {tri : Int32} {asm : Nat → Int64} {tak : Nat → Int64} {pld : Nat → Int32} {cel : Nat → Int32} {pie : Nat → Int32} {nxt : Nat → Int32} {cho : Nat → Int64} {cbs : Nat → Int32} {cub : Nat → Int32} {sts : Int32} {stt : Nat → Int32} {frm : Nat → Int32} {by' : Nat → Int32} {wrk : Nat → Int32} {oth : Nat → Int32} {mvs : Int32} {mov : Nat → Int32} (C : Cx K RX7 "hits" cX7_hits (some .boolean)) (hKR : kR K = ({ frames := 1, cells := 0, slots := 0, locals := 23 } : Room)) (hKN : kN K = 7) : ∀ (fu : Nat) (l6 : Int32) (res : (Int32 ⊕ Unit)), f_X7_hits_59 l3 l4 l5 cbs cub wrk fu l6 = some res → (∀ t, res = .inl t → KQ K 0 0 (some (.int t)) (wMd σ a th set mir tgt shs shp pls pl tri asm tak pld cel pie nxt cho cbs cub sts stt frm by' wrk oth mvs mov) n) → (∀ t, res = .inr t → G K 0 0 139 [(0, .ref a), (1, .int l1), (2, .int l2), (3, .int l3), (4, .int l4), (5, .int l5)] [] (wMd σ a th set mir tgt shs shp pls pl tri asm tak pld cel pie nxt cho cbs cub sts stt frm by' wrk oth mvs mov) n) → G K 0 0 59 [(0, .ref a), (1, .int l1), (2, .int l2), (3, .int l3), (4, .int l4), (5, .int l5), (6, .int l6)] [] (wMd σ a th set mir tgt shs shp pls pl tri asm tak pld cel pie nxt cho cbs cub sts stt frm by' wrk oth mvs mov) n := by
  intro fu
  induction fu with
  | zero =>
    intro l6 res hf
    exact absurd hf (by simp [f_X7_hits_59])
  | succ fu ih =>
    intro l6 res hf hret hx
    rw [f_X7_hits_59] at hf
    refine g_iload C (q := 6) rfl dX7_hits_59 rfl ?_
    refine g_aload_n C rfl (q := 0) rfl dX7_hits_61 rfl ?_
    refine g_get C fc_X7 16 (by decide) wf_RX7_54 (wL_at0 rfl) rfl dX7_hits_62 rfl ?_
    refine g_iload C (q := 4) rfl dX7_hits_65 rfl ?_
    obtain ⟨g1037, hf⟩ := gd hf
    refine g_iald C (wL_at 15 rfl) (inB_in g1037) dX7_hits_67 rfl ?_
    refine g_icmp_ge (tgt := 139) C dX7_hits_68 (by decide) rfl (fun c1038 => ?_) (fun c1038 => ?_)
    · replace hf := ift c1038 hf
      obtain rfl := Option.some.inj hf
      refine g_sub (lv' := [(0, .ref a), (1, .int l1), (2, .int l2), (3, .int l3), (4, .int l4), (5, .int l5)]) [0, 1, 2, 3, 4, 5] rfl ?_
      exact hx () rfl
    · replace hf := iff' c1038 hf
      refine g_aload_n C rfl (q := 0) rfl dX7_hits_71 rfl ?_
      refine g_iload_n C rfl (q := 3) rfl dX7_hits_72 rfl ?_
      refine g_iload C (q := 5) rfl dX7_hits_73 rfl ?_
      refine g_iconst (v := 0) C (by decide) dX7_hits_75 rfl ?_
      obtain ⟨q1039, hq1039, hf⟩ := bd hf
      refine g_callV0 (st' := []) (as := [.int l3, .int l5, .int (0 : Int32)]) (st2 := [.int q1039]) (k := 3) C ⟨wm_RX7_148, wn_X7_at, wv_X7_at, wi_RX7, wk_X7_at, by decide +kernel⟩ rfl (wL_at0 rfl) (c_X7_at (l := kL K) (E := kE K)  _ hq1039) (by rw [hKR]; exact ⟨rfl, rfl, ⟨by decide, by decide⟩, Nat.le_refl _, Nat.le_refl _⟩) rfl rfl (by simp) rfl dX7_hits_76 rfl ?_
      refine g_aload_n C rfl (q := 0) rfl dX7_hits_79 rfl ?_
      refine g_iload C (q := 4) rfl dX7_hits_80 rfl ?_
      refine g_iload C (q := 6) rfl dX7_hits_82 rfl ?_
      refine g_iconst (v := 0) C (by decide) dX7_hits_84 rfl ?_
      obtain ⟨q1040, hq1040, hf⟩ := bd hf
      refine g_callV0 (st' := [.int q1039]) (as := [.int l4, .int l6, .int (0 : Int32)]) (st2 := [.int q1040, .int q1039]) (k := 3) C ⟨wm_RX7_148, wn_X7_at, wv_X7_at, wi_RX7, wk_X7_at, by decide +kernel⟩ rfl (wL_at0 rfl) (c_X7_at (l := kL K) (E := kE K)  _ hq1040) (by rw [hKR]; exact ⟨rfl, rfl, ⟨by decide, by decide⟩, Nat.le_refl _, Nat.le_refl _⟩) rfl rfl (by simp [Value.category]) rfl dX7_hits_85 rfl ?_
      refine g_icmp_ne (tgt := 133) C dX7_hits_88 (by decide) rfl (fun c1041 => ?_) (fun c1041 => ?_)
      · replace hf := iff' c1041 hf
        refine g_iinc (v := l6 + (1 : Int32)) (lv' := [(6, .int (l6 + (1 : Int32))), (0, .ref a), (1, .int l1), (2, .int l2), (3, .int l3), (4, .int l4), (5, .int l5)]) (q := 6) C dX7_hits_133 rfl rfl rfl (by rw [hKN]; decide) rfl ?_
        refine g_goto (pc' := 59) C dX7_hits_136 (by decide) ?_
        refine g_sub (lv' := [(0, .ref a), (1, .int l1), (2, .int l2), (3, .int l3), (4, .int l4), (5, .int l5), (6, .int (l6 + (1 : Int32)))]) [1, 2, 3, 4, 5, 6, 0] rfl ?_
        exact ih _ _ hf hret hx
      · replace hf := ift c1041 hf
        refine g_aload_n C rfl (q := 0) rfl dX7_hits_91 rfl ?_
        refine g_iload_n C rfl (q := 3) rfl dX7_hits_92 rfl ?_
        refine g_iload C (q := 5) rfl dX7_hits_93 rfl ?_
        refine g_iconst (v := 1) C (by decide) dX7_hits_95 rfl ?_
        obtain ⟨q1042, hq1042, hf⟩ := bd hf
        refine g_callV0 (st' := []) (as := [.int l3, .int l5, .int (1 : Int32)]) (st2 := [.int q1042]) (k := 3) C ⟨wm_RX7_148, wn_X7_at, wv_X7_at, wi_RX7, wk_X7_at, by decide +kernel⟩ rfl (wL_at0 rfl) (c_X7_at (l := kL K) (E := kE K)  _ hq1042) (by rw [hKR]; exact ⟨rfl, rfl, ⟨by decide, by decide⟩, Nat.le_refl _, Nat.le_refl _⟩) rfl rfl (by simp) rfl dX7_hits_96 rfl ?_
        refine g_aload_n C rfl (q := 0) rfl dX7_hits_99 rfl ?_
        refine g_iload C (q := 4) rfl dX7_hits_100 rfl ?_
        refine g_iload C (q := 6) rfl dX7_hits_102 rfl ?_
        refine g_iconst (v := 1) C (by decide) dX7_hits_104 rfl ?_
        obtain ⟨q1043, hq1043, hf⟩ := bd hf
        refine g_callV0 (st' := [.int q1042]) (as := [.int l4, .int l6, .int (1 : Int32)]) (st2 := [.int q1043, .int q1042]) (k := 3) C ⟨wm_RX7_148, wn_X7_at, wv_X7_at, wi_RX7, wk_X7_at, by decide +kernel⟩ rfl (wL_at0 rfl) (c_X7_at (l := kL K) (E := kE K)  _ hq1043) (by rw [hKR]; exact ⟨rfl, rfl, ⟨by decide, by decide⟩, Nat.le_refl _, Nat.le_refl _⟩) rfl rfl (by simp [Value.category]) rfl dX7_hits_105 rfl ?_
        refine g_icmp_ne (tgt := 133) C dX7_hits_108 (by decide) rfl (fun c1044 => ?_) (fun c1044 => ?_)
        · replace hf := iff' c1044 hf
          refine g_iinc (v := l6 + (1 : Int32)) (lv' := [(6, .int (l6 + (1 : Int32))), (0, .ref a), (1, .int l1), (2, .int l2), (3, .int l3), (4, .int l4), (5, .int l5)]) (q := 6) C dX7_hits_133 rfl rfl rfl (by rw [hKN]; decide) rfl ?_
          refine g_goto (pc' := 59) C dX7_hits_136 (by decide) ?_
          refine g_sub (lv' := [(0, .ref a), (1, .int l1), (2, .int l2), (3, .int l3), (4, .int l4), (5, .int l5), (6, .int (l6 + (1 : Int32)))]) [1, 2, 3, 4, 5, 6, 0] rfl ?_
          exact ih _ _ hf hret hx
        · replace hf := ift c1044 hf
          refine g_aload_n C rfl (q := 0) rfl dX7_hits_111 rfl ?_
          refine g_iload_n C rfl (q := 3) rfl dX7_hits_112 rfl ?_
          refine g_iload C (q := 5) rfl dX7_hits_113 rfl ?_
          refine g_iconst (v := 2) C (by decide) dX7_hits_115 rfl ?_
          obtain ⟨q1045, hq1045, hf⟩ := bd hf
          refine g_callV0 (st' := []) (as := [.int l3, .int l5, .int (2 : Int32)]) (st2 := [.int q1045]) (k := 3) C ⟨wm_RX7_148, wn_X7_at, wv_X7_at, wi_RX7, wk_X7_at, by decide +kernel⟩ rfl (wL_at0 rfl) (c_X7_at (l := kL K) (E := kE K)  _ hq1045) (by rw [hKR]; exact ⟨rfl, rfl, ⟨by decide, by decide⟩, Nat.le_refl _, Nat.le_refl _⟩) rfl rfl (by simp) rfl dX7_hits_116 rfl ?_
          refine g_aload_n C rfl (q := 0) rfl dX7_hits_119 rfl ?_
          refine g_iload C (q := 4) rfl dX7_hits_120 rfl ?_
          refine g_iload C (q := 6) rfl dX7_hits_122 rfl ?_
          refine g_iconst (v := 2) C (by decide) dX7_hits_124 rfl ?_
          obtain ⟨q1046, hq1046, hf⟩ := bd hf
          refine g_callV0 (st' := [.int q1045]) (as := [.int l4, .int l6, .int (2 : Int32)]) (st2 := [.int q1046, .int q1045]) (k := 3) C ⟨wm_RX7_148, wn_X7_at, wv_X7_at, wi_RX7, wk_X7_at, by decide +kernel⟩ rfl (wL_at0 rfl) (c_X7_at (l := kL K) (E := kE K)  _ hq1046) (by rw [hKR]; exact ⟨rfl, rfl, ⟨by decide, by decide⟩, Nat.le_refl _, Nat.le_refl _⟩) rfl rfl (by simp [Value.category]) rfl dX7_hits_125 rfl ?_
          refine g_icmp_ne (tgt := 133) C dX7_hits_128 (by decide) rfl (fun c1047 => ?_) (fun c1047 => ?_)
          · replace hf := iff' c1047 hf
            refine g_iinc (v := l6 + (1 : Int32)) (lv' := [(6, .int (l6 + (1 : Int32))), (0, .ref a), (1, .int l1), (2, .int l2), (3, .int l3), (4, .int l4), (5, .int l5)]) (q := 6) C dX7_hits_133 rfl rfl rfl (by rw [hKN]; decide) rfl ?_
            refine g_goto (pc' := 59) C dX7_hits_136 (by decide) ?_
            refine g_sub (lv' := [(0, .ref a), (1, .int l1), (2, .int l2), (3, .int l3), (4, .int l4), (5, .int l5), (6, .int (l6 + (1 : Int32)))]) [1, 2, 3, 4, 5, 6, 0] rfl ?_
            exact ih _ _ hf hret hx
          · replace hf := ift c1047 hf
            refine g_iconst (v := 1) C (by decide) dX7_hits_131 rfl ?_
            obtain rfl := Option.some.inj hf
            exact g_zret C rfl (hret (1 : Int32) rfl) dX7_hits_132
set_option maxHeartbeats 2000000 in
set_option maxRecDepth 20000 in
theorem g_X7_hits_45 {K : KX} {n : Nat} {σ : AH} {a : Nat}  {l1 : Int32} {l2 : Int32} {l3 : Int32} {l4 : Int32} {th : Int32} {set : Nat → Int64} {mir : Nat → Int32} {tgt : Nat → Int32} {shs : Nat → Int32} {shp : Nat → Int64} {pls : Nat → Int32} {pl : Nat → Int64} {tri : Int32} {asm : Nat → Int64} {tak : Nat → Int64} {pld : Nat → Int32} {cel : Nat → Int32} {pie : Nat → Int32} {nxt : Nat → Int32} {cho : Nat → Int64} {cbs : Nat → Int32} {cub : Nat → Int32} {sts : Int32} {stt : Nat → Int32} {frm : Nat → Int32} {by' : Nat → Int32} {wrk : Nat → Int32} {oth : Nat → Int32} {mvs : Int32} {mov : Nat → Int32} (C : Cx K RX7 "hits" cX7_hits (some .boolean)) (hKR : kR K = ({ frames := 1, cells := 0, slots := 0, locals := 23 } : Room)) (hKN : kN K = 7) : ∀ (fu : Nat) (l5 : Int32) (res : (Int32 ⊕ Unit)), f_X7_hits_45 l3 l4 cbs cub wrk fu l5 = some res → (∀ t, res = .inl t → KQ K 0 0 (some (.int t)) (wMd σ a th set mir tgt shs shp pls pl tri asm tak pld cel pie nxt cho cbs cub sts stt frm by' wrk oth mvs mov) n) → (∀ t, res = .inr t → G K 0 0 145 [(0, .ref a), (1, .int l1), (2, .int l2), (3, .int l3), (4, .int l4)] [] (wMd σ a th set mir tgt shs shp pls pl tri asm tak pld cel pie nxt cho cbs cub sts stt frm by' wrk oth mvs mov) n) → G K 0 0 45 [(0, .ref a), (1, .int l1), (2, .int l2), (3, .int l3), (4, .int l4), (5, .int l5)] [] (wMd σ a th set mir tgt shs shp pls pl tri asm tak pld cel pie nxt cho cbs cub sts stt frm by' wrk oth mvs mov) n := by
  intro fu
  induction fu with
  | zero =>
    intro l5 res hf
    exact absurd hf (by simp [f_X7_hits_45])
  | succ fu ih =>
    intro l5 res hf hret hx
    rw [f_X7_hits_45] at hf
    refine g_iload C (q := 5) rfl dX7_hits_45 rfl ?_
    refine g_aload_n C rfl (q := 0) rfl dX7_hits_47 rfl ?_
    refine g_get C fc_X7 16 (by decide) wf_RX7_54 (wL_at0 rfl) rfl dX7_hits_48 rfl ?_
    refine g_iload_n C rfl (q := 3) rfl dX7_hits_51 rfl ?_
    obtain ⟨g1013, hf⟩ := gd hf
    refine g_iald C (wL_at 15 rfl) (inB_in g1013) dX7_hits_52 rfl ?_
    refine g_icmp_ge (tgt := 145) C dX7_hits_53 (by decide) rfl (fun c1014 => ?_) (fun c1014 => ?_)
    · replace hf := ift c1014 hf
      obtain rfl := Option.some.inj hf
      refine g_sub (lv' := [(0, .ref a), (1, .int l1), (2, .int l2), (3, .int l3), (4, .int l4)]) [0, 1, 2, 3, 4] rfl ?_
      exact hx () rfl
    · replace hf := iff' c1014 hf
      refine g_iconst (v := 0) C (by decide) dX7_hits_56 rfl ?_
      refine g_istore (i := 6) (lv' := [(6, .int (0 : Int32)), (0, .ref a), (1, .int l1), (2, .int l2), (3, .int l3), (4, .int l4), (5, .int l5)]) C dX7_hits_57 rfl (by rw [hKN]; decide) rfl ?_
      refine g_sub (lv' := [(0, .ref a), (1, .int l1), (2, .int l2), (3, .int l3), (4, .int l4), (5, .int l5), (6, .int (0 : Int32))]) [1, 2, 3, 4, 5, 6, 0] rfl ?_
      obtain ⟨q1048, hq1048, hf1, hf2⟩ := sb hf
      refine g_X7_hits_59 (l1 := l1) (l2 := l2) (l3 := l3) (l4 := l4) (l5 := l5) (th := th) (set := set) (mir := mir) (tgt := tgt) (shs := shs) (shp := shp) (pls := pls) (pl := pl) (tri := tri) (asm := asm) (tak := tak) (pld := pld) (cel := cel) (pie := pie) (nxt := nxt) (cho := cho) (cbs := cbs) (cub := cub) (sts := sts) (stt := stt) (frm := frm) (by' := by') (wrk := wrk) (oth := oth) (mvs := mvs) (mov := mov) C hKR hKN _ _ q1048 hq1048 (fun t1049 et1049 => ?_) (fun t1049 et1049 => ?_)
      · obtain rfl := hf1 _ et1049
        exact (hret t1049 rfl)
      · have hf := hf2 _ et1049
        refine g_iinc (v := l5 + (1 : Int32)) (lv' := [(5, .int (l5 + (1 : Int32))), (0, .ref a), (1, .int l1), (2, .int l2), (3, .int l3), (4, .int l4)]) (q := 5) C dX7_hits_139 rfl rfl rfl (by rw [hKN]; decide) rfl ?_
        refine g_goto (pc' := 45) C dX7_hits_142 (by decide) ?_
        refine g_sub (lv' := [(0, .ref a), (1, .int l1), (2, .int l2), (3, .int l3), (4, .int l4), (5, .int (l5 + (1 : Int32)))]) [1, 2, 3, 4, 5, 0] rfl ?_
        exact ih _ _ hf hret hx
set_option maxHeartbeats 2000000 in
set_option maxRecDepth 20000 in
theorem g_X7_hits_11 {K : KX} {n : Nat} {σ : AH} {a : Nat}  {l1 : Int32} {l2 : Int32} {l3 : Int32} {th : Int32} {set : Nat → Int64} {mir : Nat → Int32} {tgt : Nat → Int32} {shs : Nat → Int32} {shp : Nat → Int64} {pls : Nat → Int32} {pl : Nat → Int64} {tri : Int32} {asm : Nat → Int64} {tak : Nat → Int64} {pld : Nat → Int32} {cel : Nat → Int32} {pie : Nat → Int32} {nxt : Nat → Int32} {cho : Nat → Int64} {cbs : Nat → Int32} {cub : Nat → Int32} {sts : Int32} {stt : Nat → Int32} {frm : Nat → Int32} {by' : Nat → Int32} {wrk : Nat → Int32} {oth : Nat → Int32} {mvs : Int32} {mov : Nat → Int32} (C : Cx K RX7 "hits" cX7_hits (some .boolean)) (hKR : kR K = ({ frames := 1, cells := 0, slots := 0, locals := 23 } : Room)) (hKN : kN K = 7) : ∀ (fu : Nat) (l4 : Int32) (res : (Int32 ⊕ Unit)), f_X7_hits_11 l1 l2 l3 cbs cub wrk fu l4 = some res → (∀ t, res = .inl t → KQ K 0 0 (some (.int t)) (wMd σ a th set mir tgt shs shp pls pl tri asm tak pld cel pie nxt cho cbs cub sts stt frm by' wrk oth mvs mov) n) → (∀ t, res = .inr t → G K 0 0 151 [(0, .ref a), (1, .int l1), (2, .int l2), (3, .int l3)] [] (wMd σ a th set mir tgt shs shp pls pl tri asm tak pld cel pie nxt cho cbs cub sts stt frm by' wrk oth mvs mov) n) → G K 0 0 11 [(0, .ref a), (1, .int l1), (2, .int l2), (3, .int l3), (4, .int l4)] [] (wMd σ a th set mir tgt shs shp pls pl tri asm tak pld cel pie nxt cho cbs cub sts stt frm by' wrk oth mvs mov) n := by
  intro fu
  induction fu with
  | zero =>
    intro l4 res hf
    exact absurd hf (by simp [f_X7_hits_11])
  | succ fu ih =>
    intro l4 res hf hret hx
    rw [f_X7_hits_11] at hf
    refine g_iload C (q := 4) rfl dX7_hits_11 rfl ?_
    refine g_bipush (v := 6) C (by decide) dX7_hits_13 rfl ?_
    refine g_icmp_ge (tgt := 151) C dX7_hits_15 (by decide) rfl (fun c936 => ?_) (fun c936 => ?_)
    · replace hf := ift c936 hf
      obtain rfl := Option.some.inj hf
      refine g_sub (lv' := [(0, .ref a), (1, .int l1), (2, .int l2), (3, .int l3)]) [0, 1, 2, 3] rfl ?_
      exact hx () rfl
    · replace hf := iff' c936 hf
      refine g_iload_n C rfl (q := 2) rfl dX7_hits_18 rfl ?_
      refine g_iload_n C rfl (q := 3) rfl dX7_hits_19 rfl ?_
      refine g_ishr C dX7_hits_20 rfl ?_
      refine g_iconst (v := 1) C (by decide) dX7_hits_21 rfl ?_
      refine g_iand C dX7_hits_22 rfl ?_
      refine g_if_eq (tgt := 145) C dX7_hits_23 (by decide) rfl (fun c937 => ?_) (fun c937 => ?_)
      · replace hf := ift c937 hf
        refine g_iinc (v := l4 + (1 : Int32)) (lv' := [(4, .int (l4 + (1 : Int32))), (0, .ref a), (1, .int l1), (2, .int l2), (3, .int l3)]) (q := 4) C dX7_hits_145 rfl rfl rfl (by rw [hKN]; decide) rfl ?_
        refine g_goto (pc' := 11) C dX7_hits_148 (by decide) ?_
        refine g_sub (lv' := [(0, .ref a), (1, .int l1), (2, .int l2), (3, .int l3), (4, .int (l4 + (1 : Int32)))]) [1, 2, 3, 4, 0] rfl ?_
        exact ih _ _ hf hret hx
      · replace hf := iff' c937 hf
        refine g_iload_n C rfl (q := 1) rfl dX7_hits_26 rfl ?_
        refine g_iload_n C rfl (q := 2) rfl dX7_hits_27 rfl ?_
        refine g_iconst (v := (-1)) C (by decide) dX7_hits_28 rfl ?_
        refine g_ixor C dX7_hits_29 rfl ?_
        refine g_iand C dX7_hits_30 rfl ?_
        refine g_iload C (q := 4) rfl dX7_hits_31 rfl ?_
        refine g_ishr C dX7_hits_33 rfl ?_
        refine g_iconst (v := 1) C (by decide) dX7_hits_34 rfl ?_
        refine g_iand C dX7_hits_35 rfl ?_
        refine g_if_ne (tgt := 42) C dX7_hits_36 (by decide) rfl (fun c938 => ?_) (fun c938 => ?_)
        · replace hf := iff' c938 hf
          refine g_iconst (v := 0) C (by decide) dX7_hits_42 rfl ?_
          refine g_istore (i := 5) (lv' := [(5, .int (0 : Int32)), (0, .ref a), (1, .int l1), (2, .int l2), (3, .int l3), (4, .int l4)]) C dX7_hits_43 rfl (by rw [hKN]; decide) rfl ?_
          refine g_sub (lv' := [(0, .ref a), (1, .int l1), (2, .int l2), (3, .int l3), (4, .int l4), (5, .int (0 : Int32))]) [1, 2, 3, 4, 5, 0] rfl ?_
          obtain ⟨q1050, hq1050, hf1, hf2⟩ := sb hf
          refine g_X7_hits_45 (l1 := l1) (l2 := l2) (l3 := l3) (l4 := l4) (th := th) (set := set) (mir := mir) (tgt := tgt) (shs := shs) (shp := shp) (pls := pls) (pl := pl) (tri := tri) (asm := asm) (tak := tak) (pld := pld) (cel := cel) (pie := pie) (nxt := nxt) (cho := cho) (cbs := cbs) (cub := cub) (sts := sts) (stt := stt) (frm := frm) (by' := by') (wrk := wrk) (oth := oth) (mvs := mvs) (mov := mov) C hKR hKN _ _ q1050 hq1050 (fun t1051 et1051 => ?_) (fun t1051 et1051 => ?_)
          · obtain rfl := hf1 _ et1051
            exact (hret t1051 rfl)
          · have hf := hf2 _ et1051
            refine g_iinc (v := l4 + (1 : Int32)) (lv' := [(4, .int (l4 + (1 : Int32))), (0, .ref a), (1, .int l1), (2, .int l2), (3, .int l3)]) (q := 4) C dX7_hits_145 rfl rfl rfl (by rw [hKN]; decide) rfl ?_
            refine g_goto (pc' := 11) C dX7_hits_148 (by decide) ?_
            refine g_sub (lv' := [(0, .ref a), (1, .int l1), (2, .int l2), (3, .int l3), (4, .int (l4 + (1 : Int32)))]) [1, 2, 3, 4, 0] rfl ?_
            exact ih _ _ hf hret hx
        · replace hf := ift c938 hf
          refine g_goto (pc' := 145) C dX7_hits_39 (by decide) ?_
          refine g_iinc (v := l4 + (1 : Int32)) (lv' := [(4, .int (l4 + (1 : Int32))), (0, .ref a), (1, .int l1), (2, .int l2), (3, .int l3)]) (q := 4) C dX7_hits_145 rfl rfl rfl (by rw [hKN]; decide) rfl ?_
          refine g_goto (pc' := 11) C dX7_hits_148 (by decide) ?_
          refine g_sub (lv' := [(0, .ref a), (1, .int l1), (2, .int l2), (3, .int l3), (4, .int (l4 + (1 : Int32)))]) [1, 2, 3, 4, 0] rfl ?_
          exact ih _ _ hf hret hx
set_option maxHeartbeats 2000000 in
set_option maxRecDepth 20000 in
theorem g_X7_hits_2 {K : KX} {n : Nat} {σ : AH} {a : Nat}  {l1 : Int32} {l2 : Int32} {th : Int32} {set : Nat → Int64} {mir : Nat → Int32} {tgt : Nat → Int32} {shs : Nat → Int32} {shp : Nat → Int64} {pls : Nat → Int32} {pl : Nat → Int64} {tri : Int32} {asm : Nat → Int64} {tak : Nat → Int64} {pld : Nat → Int32} {cel : Nat → Int32} {pie : Nat → Int32} {nxt : Nat → Int32} {cho : Nat → Int64} {cbs : Nat → Int32} {cub : Nat → Int32} {sts : Int32} {stt : Nat → Int32} {frm : Nat → Int32} {by' : Nat → Int32} {wrk : Nat → Int32} {oth : Nat → Int32} {mvs : Int32} {mov : Nat → Int32} (C : Cx K RX7 "hits" cX7_hits (some .boolean)) (hKR : kR K = ({ frames := 1, cells := 0, slots := 0, locals := 23 } : Room)) (hKN : kN K = 7) : ∀ (fu : Nat) (l3 : Int32) (res : (Int32 ⊕ Unit)), f_X7_hits_2 l1 l2 cbs cub wrk fu l3 = some res → (∀ t, res = .inl t → KQ K 0 0 (some (.int t)) (wMd σ a th set mir tgt shs shp pls pl tri asm tak pld cel pie nxt cho cbs cub sts stt frm by' wrk oth mvs mov) n) → (∀ t, res = .inr t → G K 0 0 157 [] [] (wMd σ a th set mir tgt shs shp pls pl tri asm tak pld cel pie nxt cho cbs cub sts stt frm by' wrk oth mvs mov) n) → G K 0 0 2 [(0, .ref a), (1, .int l1), (2, .int l2), (3, .int l3)] [] (wMd σ a th set mir tgt shs shp pls pl tri asm tak pld cel pie nxt cho cbs cub sts stt frm by' wrk oth mvs mov) n := by
  intro fu
  induction fu with
  | zero =>
    intro l3 res hf
    exact absurd hf (by simp [f_X7_hits_2])
  | succ fu ih =>
    intro l3 res hf hret hx
    rw [f_X7_hits_2] at hf
    refine g_iload_n C rfl (q := 3) rfl dX7_hits_2 rfl ?_
    refine g_bipush (v := 6) C (by decide) dX7_hits_3 rfl ?_
    refine g_icmp_ge (tgt := 157) C dX7_hits_5 (by decide) rfl (fun c703 => ?_) (fun c703 => ?_)
    · replace hf := ift c703 hf
      obtain rfl := Option.some.inj hf
      refine g_sub (lv' := []) [] rfl ?_
      exact hx () rfl
    · replace hf := iff' c703 hf
      refine g_iconst (v := 0) C (by decide) dX7_hits_8 rfl ?_
      refine g_istore (i := 4) (lv' := [(4, .int (0 : Int32)), (0, .ref a), (1, .int l1), (2, .int l2), (3, .int l3)]) C dX7_hits_9 rfl (by rw [hKN]; decide) rfl ?_
      refine g_sub (lv' := [(0, .ref a), (1, .int l1), (2, .int l2), (3, .int l3), (4, .int (0 : Int32))]) [1, 2, 3, 4, 0] rfl ?_
      obtain ⟨q1052, hq1052, hf1, hf2⟩ := sb hf
      refine g_X7_hits_11 (l1 := l1) (l2 := l2) (l3 := l3) (th := th) (set := set) (mir := mir) (tgt := tgt) (shs := shs) (shp := shp) (pls := pls) (pl := pl) (tri := tri) (asm := asm) (tak := tak) (pld := pld) (cel := cel) (pie := pie) (nxt := nxt) (cho := cho) (cbs := cbs) (cub := cub) (sts := sts) (stt := stt) (frm := frm) (by' := by') (wrk := wrk) (oth := oth) (mvs := mvs) (mov := mov) C hKR hKN _ _ q1052 hq1052 (fun t1053 et1053 => ?_) (fun t1053 et1053 => ?_)
      · obtain rfl := hf1 _ et1053
        exact (hret t1053 rfl)
      · have hf := hf2 _ et1053
        refine g_iinc (v := l3 + (1 : Int32)) (lv' := [(3, .int (l3 + (1 : Int32))), (0, .ref a), (1, .int l1), (2, .int l2)]) (q := 3) C dX7_hits_151 rfl rfl rfl (by rw [hKN]; decide) rfl ?_
        refine g_goto (pc' := 2) C dX7_hits_154 (by decide) ?_
        refine g_sub (lv' := [(0, .ref a), (1, .int l1), (2, .int l2), (3, .int (l3 + (1 : Int32)))]) [1, 2, 3, 0] rfl ?_
        exact ih _ _ hf hret hx
set_option maxHeartbeats 2000000 in
set_option maxRecDepth 20000 in
theorem c_X7_hits {l : Launch} {E : Ex} {n : Nat} {σ : AH} {a : Nat}  {th : Int32} {set : Nat → Int64} {mir : Nat → Int32} {tgt : Nat → Int32} {shs : Nat → Int32} {shp : Nat → Int64} {pls : Nat → Int32} {pl : Nat → Int64} {tri : Int32} {asm : Nat → Int64} {tak : Nat → Int64} {pld : Nat → Int32} {cel : Nat → Int32} {pie : Nat → Int32} {nxt : Nat → Int32} {cho : Nat → Int64} {cbs : Nat → Int32} {cub : Nat → Int32} {sts : Int32} {stt : Nat → Int32} {frm : Nat → Int32} {by' : Nat → Int32} {wrk : Nat → Int32} {oth : Nat → Int32} {mvs : Int32} {mov : Nat → Int32} {part : Int32} {group : Int32} {fu : Nat} (res : Int32) (hf : f_X7_hits fu cbs cub wrk part group = some res) : Con l E yX7_hits (.code yX7_hits cX7_hits 7 (some .boolean) :: TT) ({ frames := 1, cells := 0, slots := 0, locals := 23 } : Room) 0 0 [.ref a, .int part, .int group] (wMd σ a th set mir tgt shs shp pls pl tri asm tak pld cel pie nxt cho cbs cub sts stt frm by' wrk oth mvs mov) n (some (.int res)) (wMd σ a th set mir tgt shs shp pls pl tri asm tak pld cel pie nxt cho cbs cub sts stt frm by' wrk oth mvs mov) n := by
  refine con_intro (by decide +kernel) (Nat.le_of_ble_eq_true rfl) ?_
  intro K C hKR hKL hKE hKN hKQ
  subst hKL
  subst hKE
  have C : Cx K RX7 "hits" cX7_hits (some .boolean) := C
  show G K 0 0 0 [(0, .ref a), (1, .int part), (2, .int group)] [] (wMd σ a th set mir tgt shs shp pls pl tri asm tak pld cel pie nxt cho cbs cub sts stt frm by' wrk oth mvs mov) n
  unfold f_X7_hits at hf
  refine g_iconst (v := 0) C (by decide) dX7_hits_0 rfl ?_
  refine g_istore_n (i := 3) (lv' := [(3, .int (0 : Int32)), (0, .ref a), (1, .int part), (2, .int group)]) C dX7_hits_1 rfl rfl (by rw [hKN]; decide) rfl ?_
  refine g_sub (lv' := [(0, .ref a), (1, .int part), (2, .int group), (3, .int (0 : Int32))]) [1, 2, 3, 0] rfl ?_
  obtain ⟨q1054, hq1054, hf1, hf2⟩ := sb hf
  refine g_X7_hits_2 (l1 := part) (l2 := group) (th := th) (set := set) (mir := mir) (tgt := tgt) (shs := shs) (shp := shp) (pls := pls) (pl := pl) (tri := tri) (asm := asm) (tak := tak) (pld := pld) (cel := cel) (pie := pie) (nxt := nxt) (cho := cho) (cbs := cbs) (cub := cub) (sts := sts) (stt := stt) (frm := frm) (by' := by') (wrk := wrk) (oth := oth) (mvs := mvs) (mov := mov) C hKR hKN _ _ q1054 hq1054 (fun t1055 et1055 => ?_) (fun t1055 et1055 => ?_)
  · obtain rfl := hf1 _ et1055
    exact hKQ
  · have hf := hf2 _ et1055
    refine g_iconst (v := 0) C (by decide) dX7_hits_157 rfl ?_
    obtain rfl := Option.some.inj hf
    exact g_zret C rfl hKQ dX7_hits_158
def f_X7_edge_26  (l1 : Int32) (l2 : Int32) (l3 : Int32) (l5 : Int32) (cbs : Nat → Int32) (cub : Nat → Int32) (wrk : Nat → Int32) : Nat → Int32 → Int32 → Option Int32
  | 0, _, _ => none
  | fu + 1, l4, l6 => (if inB l5 6 = true then (if (cbs l5.toNatClampNeg) ≤ l6 then some l4 else (if ((l1 >>> (l5 &&& 31)) &&& (1 : Int32)) = (1 : Int32) then ((f_X7_at cub wrk l5 l6 l2).bind fun q73 => f_X7_edge_26 l1 l2 l3 l5 cbs cub wrk fu (if l3 = 0 then (if l4 ≤ q73 then l4 else q73) else (if q73 ≤ l4 then l4 else q73)) (l6 + (1 : Int32))) else some l4)) else none)
def f_X7_edge_16  (l1 : Int32) (l2 : Int32) (l3 : Int32) (cbs : Nat → Int32) (cub : Nat → Int32) (wrk : Nat → Int32) : Nat → Int32 → Int32 → Option Int32
  | 0, _, _ => none
  | fu + 1, l4, l5 => (if (6 : Int32) ≤ l5 then some l4 else ((f_X7_edge_26 l1 l2 l3 l5 cbs cub wrk fu l4 (0 : Int32)).bind fun q78 => f_X7_edge_16 l1 l2 l3 cbs cub wrk fu q78 (l5 + (1 : Int32))))
def f_X7_edge (fu : Nat) (cbs : Nat → Int32) (cub : Nat → Int32) (wrk : Nat → Int32) (pieces : Int32) (axis : Int32) (greatest : Int32) : Option Int32 := ((f_X7_edge_16 pieces axis greatest cbs cub wrk fu (if greatest = 0 then (100000 : Int32) else (-100000 : Int32)) (0 : Int32)).bind fun q79 => some q79)
set_option maxHeartbeats 2000000 in
set_option maxRecDepth 20000 in
theorem g_X7_edge_26 {K : KX} {n : Nat} {σ : AH} {a : Nat}  {l1 : Int32} {l2 : Int32} {l3 : Int32} {l5 : Int32} {th : Int32} {set : Nat → Int64} {mir : Nat → Int32} {tgt : Nat → Int32} {shs : Nat → Int32} {shp : Nat → Int64} {pls : Nat → Int32} {pl : Nat → Int64} {tri : Int32} {asm : Nat → Int64} {tak : Nat → Int64} {pld : Nat → Int32} {cel : Nat → Int32} {pie : Nat → Int32} {nxt : Nat → Int32} {cho : Nat → Int64} {cbs : Nat → Int32} {cub : Nat → Int32} {sts : Int32} {stt : Nat → Int32} {frm : Nat → Int32} {by' : Nat → Int32} {wrk : Nat → Int32} {oth : Nat → Int32} {mvs : Int32} {mov : Nat → Int32} (C : Cx K RX7 "edge" cX7_edge (some .int)) (hKR : kR K = ({ frames := 1, cells := 0, slots := 0, locals := 23 } : Room)) (hKN : kN K = 8) : ∀ (fu : Nat) (l4 : Int32) (l6 : Int32) (res : Int32), f_X7_edge_26 l1 l2 l3 l5 cbs cub wrk fu l4 l6 = some res → G K 0 0 102 [(0, .ref a), (1, .int l1), (2, .int l2), (3, .int l3), (4, .int res), (5, .int l5)] [] (wMd σ a th set mir tgt shs shp pls pl tri asm tak pld cel pie nxt cho cbs cub sts stt frm by' wrk oth mvs mov) n → G K 0 0 26 [(0, .ref a), (1, .int l1), (2, .int l2), (3, .int l3), (4, .int l4), (5, .int l5), (6, .int l6)] [] (wMd σ a th set mir tgt shs shp pls pl tri asm tak pld cel pie nxt cho cbs cub sts stt frm by' wrk oth mvs mov) n := by
  intro fu
  induction fu with
  | zero =>
    intro l4 l6 res hf
    exact absurd hf (by simp [f_X7_edge_26])
  | succ fu ih =>
    intro l4 l6 res hf hx
    rw [f_X7_edge_26] at hf
    refine g_iload C (q := 6) rfl dX7_edge_26 rfl ?_
    refine g_aload_n C rfl (q := 0) rfl dX7_edge_28 rfl ?_
    refine g_get C fc_X7 16 (by decide) wf_RX7_54 (wL_at0 rfl) rfl dX7_edge_29 rfl ?_
    refine g_iload C (q := 5) rfl dX7_edge_32 rfl ?_
    obtain ⟨g70, hf⟩ := gd hf
    refine g_iald C (wL_at 15 rfl) (inB_in g70) dX7_edge_34 rfl ?_
    refine g_icmp_ge (tgt := 102) C dX7_edge_35 (by decide) rfl (fun c71 => ?_) (fun c71 => ?_)
    · replace hf := ift c71 hf
      obtain rfl := Option.some.inj hf
      refine g_sub (lv' := [(0, .ref a), (1, .int l1), (2, .int l2), (3, .int l3), (4, .int l4), (5, .int l5)]) [0, 1, 2, 3, 4, 5] rfl ?_
      exact hx
    · replace hf := iff' c71 hf
      refine g_iload_n C rfl (q := 1) rfl dX7_edge_38 rfl ?_
      refine g_iload C (q := 5) rfl dX7_edge_39 rfl ?_
      refine g_ishr C dX7_edge_41 rfl ?_
      refine g_iconst (v := 1) C (by decide) dX7_edge_42 rfl ?_
      refine g_iand C dX7_edge_43 rfl ?_
      refine g_iconst (v := 1) C (by decide) dX7_edge_44 rfl ?_
      refine g_icmp_ne (tgt := 102) C dX7_edge_45 (by decide) rfl (fun c72 => ?_) (fun c72 => ?_)
      · replace hf := iff' c72 hf
        obtain rfl := Option.some.inj hf
        refine g_sub (lv' := [(0, .ref a), (1, .int l1), (2, .int l2), (3, .int l3), (4, .int l4), (5, .int l5)]) [0, 1, 2, 3, 4, 5] rfl ?_
        exact hx
      · replace hf := ift c72 hf
        refine g_aload_n C rfl (q := 0) rfl dX7_edge_48 rfl ?_
        refine g_iload C (q := 5) rfl dX7_edge_49 rfl ?_
        refine g_iload C (q := 6) rfl dX7_edge_51 rfl ?_
        refine g_iload_n C rfl (q := 2) rfl dX7_edge_53 rfl ?_
        obtain ⟨q73, hq73, hf⟩ := bd hf
        refine g_callV0 (st' := []) (as := [.int l5, .int l6, .int l2]) (st2 := [.int q73]) (k := 3) C ⟨wm_RX7_148, wn_X7_at, wv_X7_at, wi_RX7, wk_X7_at, by decide +kernel⟩ rfl (wL_at0 rfl) (c_X7_at (l := kL K) (E := kE K)  _ hq73) (by rw [hKR]; exact ⟨rfl, rfl, ⟨by decide, by decide⟩, Nat.le_refl _, Nat.le_refl _⟩) rfl rfl (by simp) rfl dX7_edge_54 rfl ?_
        refine g_istore (i := 7) (lv' := [(7, .int q73), (0, .ref a), (1, .int l1), (2, .int l2), (3, .int l3), (4, .int l4), (5, .int l5), (6, .int l6)]) C dX7_edge_57 rfl (by rw [hKN]; decide) rfl ?_
        refine g_iload_n C rfl (q := 4) rfl dX7_edge_59 rfl ?_
        have j74 : G K 0 0 94 [(7, .int q73), (0, .ref a), (1, .int l1), (2, .int l2), (3, .int l3), (4, .int l4), (5, .int l5), (6, .int l6)] [.int (if l3 = 0 then (if l4 ≤ q73 then l4 else q73) else (if q73 ≤ l4 then l4 else q73))] (wMd σ a th set mir tgt shs shp pls pl tri asm tak pld cel pie nxt cho cbs cub sts stt frm by' wrk oth mvs mov) n := by
          refine g_istore (i := 4) (lv' := [(4, .int (if l3 = 0 then (if l4 ≤ q73 then l4 else q73) else (if q73 ≤ l4 then l4 else q73))), (7, .int q73), (0, .ref a), (1, .int l1), (2, .int l2), (3, .int l3), (5, .int l5), (6, .int l6)]) C dX7_edge_94 rfl (by rw [hKN]; decide) rfl ?_
          refine g_iinc (v := l6 + (1 : Int32)) (lv' := [(6, .int (l6 + (1 : Int32))), (4, .int (if l3 = 0 then (if l4 ≤ q73 then l4 else q73) else (if q73 ≤ l4 then l4 else q73))), (7, .int q73), (0, .ref a), (1, .int l1), (2, .int l2), (3, .int l3), (5, .int l5)]) (q := 7) C dX7_edge_96 rfl rfl rfl (by rw [hKN]; decide) rfl ?_
          refine g_goto (pc' := 26) C dX7_edge_99 (by decide) ?_
          refine g_sub (lv' := [(0, .ref a), (1, .int l1), (2, .int l2), (3, .int l3), (4, .int (if l3 = 0 then (if l4 ≤ q73 then l4 else q73) else (if q73 ≤ l4 then l4 else q73))), (5, .int l5), (6, .int (l6 + (1 : Int32)))]) [3, 4, 5, 6, 1, 7, 0] rfl ?_
          exact ih _ _ _ hf hx
        refine g_if_eq (tgt := 80) C dX7_edge_60 (by decide) rfl (fun c75 => ?_) (fun c75 => ?_)
        · refine g_iload C (q := 0) rfl dX7_edge_80 rfl ?_
          refine g_iload C (q := 5) rfl dX7_edge_82 rfl ?_
          refine g_icmp_ge (tgt := 92) C dX7_edge_84 (by decide) rfl (fun c76 => ?_) (fun c76 => ?_)
          · refine g_iload C (q := 5) rfl dX7_edge_92 rfl ?_
            exact g_topI (by rw [if_pos c75, if_pos c76]) j74
          · refine g_iload C (q := 0) rfl dX7_edge_87 rfl ?_
            refine g_goto (pc' := 94) C dX7_edge_89 (by decide) ?_
            exact g_topI (by rw [if_pos c75, if_neg c76]) j74
        · refine g_iload C (q := 0) rfl dX7_edge_63 rfl ?_
          refine g_iload C (q := 5) rfl dX7_edge_65 rfl ?_
          refine g_icmp_le (tgt := 75) C dX7_edge_67 (by decide) rfl (fun c77 => ?_) (fun c77 => ?_)
          · refine g_iload C (q := 5) rfl dX7_edge_75 rfl ?_
            refine g_goto (pc' := 94) C dX7_edge_77 (by decide) ?_
            exact g_topI (by rw [if_neg c75, if_pos c77]) j74
          · refine g_iload C (q := 0) rfl dX7_edge_70 rfl ?_
            refine g_goto (pc' := 94) C dX7_edge_72 (by decide) ?_
            exact g_topI (by rw [if_neg c75, if_neg c77]) j74
set_option maxHeartbeats 2000000 in
set_option maxRecDepth 20000 in
theorem g_X7_edge_16 {K : KX} {n : Nat} {σ : AH} {a : Nat}  {l1 : Int32} {l2 : Int32} {l3 : Int32} {th : Int32} {set : Nat → Int64} {mir : Nat → Int32} {tgt : Nat → Int32} {shs : Nat → Int32} {shp : Nat → Int64} {pls : Nat → Int32} {pl : Nat → Int64} {tri : Int32} {asm : Nat → Int64} {tak : Nat → Int64} {pld : Nat → Int32} {cel : Nat → Int32} {pie : Nat → Int32} {nxt : Nat → Int32} {cho : Nat → Int64} {cbs : Nat → Int32} {cub : Nat → Int32} {sts : Int32} {stt : Nat → Int32} {frm : Nat → Int32} {by' : Nat → Int32} {wrk : Nat → Int32} {oth : Nat → Int32} {mvs : Int32} {mov : Nat → Int32} (C : Cx K RX7 "edge" cX7_edge (some .int)) (hKR : kR K = ({ frames := 1, cells := 0, slots := 0, locals := 23 } : Room)) (hKN : kN K = 8) : ∀ (fu : Nat) (l4 : Int32) (l5 : Int32) (res : Int32), f_X7_edge_16 l1 l2 l3 cbs cub wrk fu l4 l5 = some res → G K 0 0 108 [(4, .int res)] [] (wMd σ a th set mir tgt shs shp pls pl tri asm tak pld cel pie nxt cho cbs cub sts stt frm by' wrk oth mvs mov) n → G K 0 0 16 [(0, .ref a), (1, .int l1), (2, .int l2), (3, .int l3), (4, .int l4), (5, .int l5)] [] (wMd σ a th set mir tgt shs shp pls pl tri asm tak pld cel pie nxt cho cbs cub sts stt frm by' wrk oth mvs mov) n := by
  intro fu
  induction fu with
  | zero =>
    intro l4 l5 res hf
    exact absurd hf (by simp [f_X7_edge_16])
  | succ fu ih =>
    intro l4 l5 res hf hx
    rw [f_X7_edge_16] at hf
    refine g_iload C (q := 5) rfl dX7_edge_16 rfl ?_
    refine g_bipush (v := 6) C (by decide) dX7_edge_18 rfl ?_
    refine g_icmp_ge (tgt := 108) C dX7_edge_20 (by decide) rfl (fun c53 => ?_) (fun c53 => ?_)
    · replace hf := ift c53 hf
      obtain rfl := Option.some.inj hf
      refine g_sub (lv' := [(4, .int l4)]) [4] rfl ?_
      exact hx
    · replace hf := iff' c53 hf
      refine g_iconst (v := 0) C (by decide) dX7_edge_23 rfl ?_
      refine g_istore (i := 6) (lv' := [(6, .int (0 : Int32)), (0, .ref a), (1, .int l1), (2, .int l2), (3, .int l3), (4, .int l4), (5, .int l5)]) C dX7_edge_24 rfl (by rw [hKN]; decide) rfl ?_
      refine g_sub (lv' := [(0, .ref a), (1, .int l1), (2, .int l2), (3, .int l3), (4, .int l4), (5, .int l5), (6, .int (0 : Int32))]) [1, 2, 3, 4, 5, 6, 0] rfl ?_
      obtain ⟨q78, hq78, hf⟩ := bd hf
      refine g_X7_edge_26 (l1 := l1) (l2 := l2) (l3 := l3) (l5 := l5) (th := th) (set := set) (mir := mir) (tgt := tgt) (shs := shs) (shp := shp) (pls := pls) (pl := pl) (tri := tri) (asm := asm) (tak := tak) (pld := pld) (cel := cel) (pie := pie) (nxt := nxt) (cho := cho) (cbs := cbs) (cub := cub) (sts := sts) (stt := stt) (frm := frm) (by' := by') (wrk := wrk) (oth := oth) (mvs := mvs) (mov := mov) C hKR hKN _ _ _ _ hq78 ?_
      refine g_iinc (v := l5 + (1 : Int32)) (lv' := [(5, .int (l5 + (1 : Int32))), (0, .ref a), (1, .int l1), (2, .int l2), (3, .int l3), (4, .int q78)]) (q := 5) C dX7_edge_102 rfl rfl rfl (by rw [hKN]; decide) rfl ?_
      refine g_goto (pc' := 16) C dX7_edge_105 (by decide) ?_
      refine g_sub (lv' := [(0, .ref a), (1, .int l1), (2, .int l2), (3, .int l3), (4, .int q78), (5, .int (l5 + (1 : Int32)))]) [1, 2, 3, 4, 5, 0] rfl ?_
      exact ih _ _ _ hf hx
set_option maxHeartbeats 2000000 in
set_option maxRecDepth 20000 in
theorem c_X7_edge {l : Launch} {E : Ex} {n : Nat} {σ : AH} {a : Nat}  {th : Int32} {set : Nat → Int64} {mir : Nat → Int32} {tgt : Nat → Int32} {shs : Nat → Int32} {shp : Nat → Int64} {pls : Nat → Int32} {pl : Nat → Int64} {tri : Int32} {asm : Nat → Int64} {tak : Nat → Int64} {pld : Nat → Int32} {cel : Nat → Int32} {pie : Nat → Int32} {nxt : Nat → Int32} {cho : Nat → Int64} {cbs : Nat → Int32} {cub : Nat → Int32} {sts : Int32} {stt : Nat → Int32} {frm : Nat → Int32} {by' : Nat → Int32} {wrk : Nat → Int32} {oth : Nat → Int32} {mvs : Int32} {mov : Nat → Int32} {pieces : Int32} {axis : Int32} {greatest : Int32} {fu : Nat} (res : Int32) (hf : f_X7_edge fu cbs cub wrk pieces axis greatest = some res) : Con l E yX7_edge (.code yX7_edge cX7_edge 8 (some .int) :: TT) ({ frames := 1, cells := 0, slots := 0, locals := 23 } : Room) 0 0 [.ref a, .int pieces, .int axis, .int greatest] (wMd σ a th set mir tgt shs shp pls pl tri asm tak pld cel pie nxt cho cbs cub sts stt frm by' wrk oth mvs mov) n (some (.int res)) (wMd σ a th set mir tgt shs shp pls pl tri asm tak pld cel pie nxt cho cbs cub sts stt frm by' wrk oth mvs mov) n := by
  refine con_intro (by decide +kernel) (Nat.le_of_ble_eq_true rfl) ?_
  intro K C hKR hKL hKE hKN hKQ
  subst hKL
  subst hKE
  have C : Cx K RX7 "edge" cX7_edge (some .int) := C
  show G K 0 0 0 [(0, .ref a), (1, .int pieces), (2, .int axis), (3, .int greatest)] [] (wMd σ a th set mir tgt shs shp pls pl tri asm tak pld cel pie nxt cho cbs cub sts stt frm by' wrk oth mvs mov) n
  unfold f_X7_edge at hf
  refine g_iload_n C rfl (q := 3) rfl dX7_edge_0 rfl ?_
  have j80 : G K 0 0 11 [(0, .ref a), (1, .int pieces), (2, .int axis), (3, .int greatest)] [.int (if greatest = 0 then (100000 : Int32) else (-100000 : Int32))] (wMd σ a th set mir tgt shs shp pls pl tri asm tak pld cel pie nxt cho cbs cub sts stt frm by' wrk oth mvs mov) n := by
    refine g_istore (i := 4) (lv' := [(4, .int (if greatest = 0 then (100000 : Int32) else (-100000 : Int32))), (0, .ref a), (1, .int pieces), (2, .int axis), (3, .int greatest)]) C dX7_edge_11 rfl (by rw [hKN]; decide) rfl ?_
    refine g_iconst (v := 0) C (by decide) dX7_edge_13 rfl ?_
    refine g_istore (i := 5) (lv' := [(5, .int (0 : Int32)), (4, .int (if greatest = 0 then (100000 : Int32) else (-100000 : Int32))), (0, .ref a), (1, .int pieces), (2, .int axis), (3, .int greatest)]) C dX7_edge_14 rfl (by rw [hKN]; decide) rfl ?_
    refine g_sub (lv' := [(0, .ref a), (1, .int pieces), (2, .int axis), (3, .int greatest), (4, .int (if greatest = 0 then (100000 : Int32) else (-100000 : Int32))), (5, .int (0 : Int32))]) [2, 3, 4, 5, 1, 0] rfl ?_
    obtain ⟨q79, hq79, hf⟩ := bd hf
    refine g_X7_edge_16 (l1 := pieces) (l2 := axis) (l3 := greatest) (th := th) (set := set) (mir := mir) (tgt := tgt) (shs := shs) (shp := shp) (pls := pls) (pl := pl) (tri := tri) (asm := asm) (tak := tak) (pld := pld) (cel := cel) (pie := pie) (nxt := nxt) (cho := cho) (cbs := cbs) (cub := cub) (sts := sts) (stt := stt) (frm := frm) (by' := by') (wrk := wrk) (oth := oth) (mvs := mvs) (mov := mov) C hKR hKN _ _ _ _ hq79 ?_
    refine g_iload C (q := 0) rfl dX7_edge_108 rfl ?_
    obtain rfl := Option.some.inj hf
    exact g_iret C hKQ dX7_edge_110
  refine g_if_eq (tgt := 9) C dX7_edge_1 (by decide) rfl (fun c81 => ?_) (fun c81 => ?_)
  · refine g_ldc C wc_RX7_153 dX7_edge_9 rfl ?_
    exact g_topI (by rw [if_pos c81]) j80
  · refine g_ldc C wc_RX7_152 dX7_edge_4 rfl ?_
    refine g_goto (pc' := 11) C dX7_edge_6 (by decide) ?_
    exact g_topI (by rw [if_neg c81]) j80
def f_X7_isFree_2  (l1 : Int32) (l2 : Int32) (cbs : Nat → Int32) (cub : Nat → Int32) (wrk : Nat → Int32) : Nat → Int32 → Option (Int32 ⊕ Unit)
  | 0, _ => none
  | fu + 1, l3 => (if (3 : Int32) ≤ l3 then some (.inr ()) else ((f_X7_edge fu cbs cub wrk l2 l3 (1 : Int32)).bind fun q16 => ((f_X7_edge fu cbs cub wrk (l1 &&& (l2 ^^^ (-1 : Int32))) l3 (0 : Int32)).bind fun q17 => (if q16 < q17 then some (.inl (1 : Int32)) else ((f_X7_edge fu cbs cub wrk (l1 &&& (l2 ^^^ (-1 : Int32))) l3 (1 : Int32)).bind fun q19 => ((f_X7_edge fu cbs cub wrk l2 l3 (0 : Int32)).bind fun q20 => (if q20 ≤ q19 then f_X7_isFree_2 l1 l2 cbs cub wrk fu (l3 + (1 : Int32)) else some (.inl (1 : Int32)))))))))
def f_X7_isFree (fu : Nat) (cbs : Nat → Int32) (cub : Nat → Int32) (wrk : Nat → Int32) (part : Int32) (group : Int32) : Option Int32 := (sumB (f_X7_isFree_2 part group cbs cub wrk fu (0 : Int32)) id fun t23 => some (0 : Int32))
set_option maxHeartbeats 2000000 in
set_option maxRecDepth 20000 in
theorem g_X7_isFree_2 {K : KX} {n : Nat} {σ : AH} {a : Nat}  {l1 : Int32} {l2 : Int32} {th : Int32} {set : Nat → Int64} {mir : Nat → Int32} {tgt : Nat → Int32} {shs : Nat → Int32} {shp : Nat → Int64} {pls : Nat → Int32} {pl : Nat → Int64} {tri : Int32} {asm : Nat → Int64} {tak : Nat → Int64} {pld : Nat → Int32} {cel : Nat → Int32} {pie : Nat → Int32} {nxt : Nat → Int32} {cho : Nat → Int64} {cbs : Nat → Int32} {cub : Nat → Int32} {sts : Int32} {stt : Nat → Int32} {frm : Nat → Int32} {by' : Nat → Int32} {wrk : Nat → Int32} {oth : Nat → Int32} {mvs : Int32} {mov : Nat → Int32} (C : Cx K RX7 "isFree" cX7_isFree (some .boolean)) (hKR : kR K = ({ frames := 2, cells := 0, slots := 0, locals := 50 } : Room)) (hKN : kN K = 4) : ∀ (fu : Nat) (l3 : Int32) (res : (Int32 ⊕ Unit)), f_X7_isFree_2 l1 l2 cbs cub wrk fu l3 = some res → (∀ t, res = .inl t → KQ K 0 0 (some (.int t)) (wMd σ a th set mir tgt shs shp pls pl tri asm tak pld cel pie nxt cho cbs cub sts stt frm by' wrk oth mvs mov) n) → (∀ t, res = .inr t → G K 0 0 57 [] [] (wMd σ a th set mir tgt shs shp pls pl tri asm tak pld cel pie nxt cho cbs cub sts stt frm by' wrk oth mvs mov) n) → G K 0 0 2 [(0, .ref a), (1, .int l1), (2, .int l2), (3, .int l3)] [] (wMd σ a th set mir tgt shs shp pls pl tri asm tak pld cel pie nxt cho cbs cub sts stt frm by' wrk oth mvs mov) n := by
  intro fu
  induction fu with
  | zero =>
    intro l3 res hf
    exact absurd hf (by simp [f_X7_isFree_2])
  | succ fu ih =>
    intro l3 res hf hret hx
    rw [f_X7_isFree_2] at hf
    refine g_iload_n C rfl (q := 3) rfl dX7_isFree_2 rfl ?_
    refine g_iconst (v := 3) C (by decide) dX7_isFree_3 rfl ?_
    refine g_icmp_ge (tgt := 57) C dX7_isFree_4 (by decide) rfl (fun c15 => ?_) (fun c15 => ?_)
    · replace hf := ift c15 hf
      obtain rfl := Option.some.inj hf
      refine g_sub (lv' := []) [] rfl ?_
      exact hx () rfl
    · replace hf := iff' c15 hf
      refine g_aload_n C rfl (q := 0) rfl dX7_isFree_7 rfl ?_
      refine g_iload_n C rfl (q := 2) rfl dX7_isFree_8 rfl ?_
      refine g_iload_n C rfl (q := 3) rfl dX7_isFree_9 rfl ?_
      refine g_iconst (v := 1) C (by decide) dX7_isFree_10 rfl ?_
      obtain ⟨q16, hq16, hf⟩ := bd hf
      refine g_callV0 (st' := []) (as := [.int l2, .int l3, .int (1 : Int32)]) (st2 := [.int q16]) (k := 3) C ⟨wm_RX7_154, wn_X7_edge, wv_X7_edge, wi_RX7, wk_X7_edge, by decide +kernel⟩ rfl (wL_at0 rfl) (c_X7_edge (l := kL K) (E := kE K)  _ hq16) (by rw [hKR]; exact ⟨rfl, rfl, ⟨by decide, by decide⟩, Nat.le_refl _, Nat.le_refl _⟩) rfl rfl (by simp) rfl dX7_isFree_11 rfl ?_
      refine g_aload_n C rfl (q := 0) rfl dX7_isFree_14 rfl ?_
      refine g_iload_n C rfl (q := 1) rfl dX7_isFree_15 rfl ?_
      refine g_iload_n C rfl (q := 2) rfl dX7_isFree_16 rfl ?_
      refine g_iconst (v := (-1)) C (by decide) dX7_isFree_17 rfl ?_
      refine g_ixor C dX7_isFree_18 rfl ?_
      refine g_iand C dX7_isFree_19 rfl ?_
      refine g_iload_n C rfl (q := 3) rfl dX7_isFree_20 rfl ?_
      refine g_iconst (v := 0) C (by decide) dX7_isFree_21 rfl ?_
      obtain ⟨q17, hq17, hf⟩ := bd hf
      refine g_callV0 (st' := [.int q16]) (as := [.int (l1 &&& (l2 ^^^ (-1 : Int32))), .int l3, .int (0 : Int32)]) (st2 := [.int q17, .int q16]) (k := 3) C ⟨wm_RX7_154, wn_X7_edge, wv_X7_edge, wi_RX7, wk_X7_edge, by decide +kernel⟩ rfl (wL_at0 rfl) (c_X7_edge (l := kL K) (E := kE K)  _ hq17) (by rw [hKR]; exact ⟨rfl, rfl, ⟨by decide, by decide⟩, Nat.le_refl _, Nat.le_refl _⟩) rfl rfl (by simp [Value.category]) rfl dX7_isFree_22 rfl ?_
      refine g_icmp_lt (tgt := 49) C dX7_isFree_25 (by decide) rfl (fun c18 => ?_) (fun c18 => ?_)
      · replace hf := ift c18 hf
        refine g_iconst (v := 1) C (by decide) dX7_isFree_49 rfl ?_
        obtain rfl := Option.some.inj hf
        exact g_zret C rfl (hret (1 : Int32) rfl) dX7_isFree_50
      · replace hf := iff' c18 hf
        refine g_aload_n C rfl (q := 0) rfl dX7_isFree_28 rfl ?_
        refine g_iload_n C rfl (q := 1) rfl dX7_isFree_29 rfl ?_
        refine g_iload_n C rfl (q := 2) rfl dX7_isFree_30 rfl ?_
        refine g_iconst (v := (-1)) C (by decide) dX7_isFree_31 rfl ?_
        refine g_ixor C dX7_isFree_32 rfl ?_
        refine g_iand C dX7_isFree_33 rfl ?_
        refine g_iload_n C rfl (q := 3) rfl dX7_isFree_34 rfl ?_
        refine g_iconst (v := 1) C (by decide) dX7_isFree_35 rfl ?_
        obtain ⟨q19, hq19, hf⟩ := bd hf
        refine g_callV0 (st' := []) (as := [.int (l1 &&& (l2 ^^^ (-1 : Int32))), .int l3, .int (1 : Int32)]) (st2 := [.int q19]) (k := 3) C ⟨wm_RX7_154, wn_X7_edge, wv_X7_edge, wi_RX7, wk_X7_edge, by decide +kernel⟩ rfl (wL_at0 rfl) (c_X7_edge (l := kL K) (E := kE K)  _ hq19) (by rw [hKR]; exact ⟨rfl, rfl, ⟨by decide, by decide⟩, Nat.le_refl _, Nat.le_refl _⟩) rfl rfl (by simp) rfl dX7_isFree_36 rfl ?_
        refine g_aload_n C rfl (q := 0) rfl dX7_isFree_39 rfl ?_
        refine g_iload_n C rfl (q := 2) rfl dX7_isFree_40 rfl ?_
        refine g_iload_n C rfl (q := 3) rfl dX7_isFree_41 rfl ?_
        refine g_iconst (v := 0) C (by decide) dX7_isFree_42 rfl ?_
        obtain ⟨q20, hq20, hf⟩ := bd hf
        refine g_callV0 (st' := [.int q19]) (as := [.int l2, .int l3, .int (0 : Int32)]) (st2 := [.int q20, .int q19]) (k := 3) C ⟨wm_RX7_154, wn_X7_edge, wv_X7_edge, wi_RX7, wk_X7_edge, by decide +kernel⟩ rfl (wL_at0 rfl) (c_X7_edge (l := kL K) (E := kE K)  _ hq20) (by rw [hKR]; exact ⟨rfl, rfl, ⟨by decide, by decide⟩, Nat.le_refl _, Nat.le_refl _⟩) rfl rfl (by simp [Value.category]) rfl dX7_isFree_43 rfl ?_
        refine g_icmp_ge (tgt := 51) C dX7_isFree_46 (by decide) rfl (fun c21 => ?_) (fun c21 => ?_)
        · replace hf := ift c21 hf
          refine g_iinc (v := l3 + (1 : Int32)) (lv' := [(3, .int (l3 + (1 : Int32))), (0, .ref a), (1, .int l1), (2, .int l2)]) (q := 3) C dX7_isFree_51 rfl rfl rfl (by rw [hKN]; decide) rfl ?_
          refine g_goto (pc' := 2) C dX7_isFree_54 (by decide) ?_
          refine g_sub (lv' := [(0, .ref a), (1, .int l1), (2, .int l2), (3, .int (l3 + (1 : Int32)))]) [1, 2, 3, 0] rfl ?_
          exact ih _ _ hf hret hx
        · replace hf := iff' c21 hf
          refine g_iconst (v := 1) C (by decide) dX7_isFree_49 rfl ?_
          obtain rfl := Option.some.inj hf
          exact g_zret C rfl (hret (1 : Int32) rfl) dX7_isFree_50
set_option maxHeartbeats 2000000 in
set_option maxRecDepth 20000 in
theorem c_X7_isFree {l : Launch} {E : Ex} {n : Nat} {σ : AH} {a : Nat}  {th : Int32} {set : Nat → Int64} {mir : Nat → Int32} {tgt : Nat → Int32} {shs : Nat → Int32} {shp : Nat → Int64} {pls : Nat → Int32} {pl : Nat → Int64} {tri : Int32} {asm : Nat → Int64} {tak : Nat → Int64} {pld : Nat → Int32} {cel : Nat → Int32} {pie : Nat → Int32} {nxt : Nat → Int32} {cho : Nat → Int64} {cbs : Nat → Int32} {cub : Nat → Int32} {sts : Int32} {stt : Nat → Int32} {frm : Nat → Int32} {by' : Nat → Int32} {wrk : Nat → Int32} {oth : Nat → Int32} {mvs : Int32} {mov : Nat → Int32} {part : Int32} {group : Int32} {fu : Nat} (res : Int32) (hf : f_X7_isFree fu cbs cub wrk part group = some res) : Con l E yX7_isFree (.code yX7_isFree cX7_isFree 4 (some .boolean) :: TT) ({ frames := 2, cells := 0, slots := 0, locals := 50 } : Room) 0 0 [.ref a, .int part, .int group] (wMd σ a th set mir tgt shs shp pls pl tri asm tak pld cel pie nxt cho cbs cub sts stt frm by' wrk oth mvs mov) n (some (.int res)) (wMd σ a th set mir tgt shs shp pls pl tri asm tak pld cel pie nxt cho cbs cub sts stt frm by' wrk oth mvs mov) n := by
  refine con_intro (by decide +kernel) (Nat.le_of_ble_eq_true rfl) ?_
  intro K C hKR hKL hKE hKN hKQ
  subst hKL
  subst hKE
  have C : Cx K RX7 "isFree" cX7_isFree (some .boolean) := C
  show G K 0 0 0 [(0, .ref a), (1, .int part), (2, .int group)] [] (wMd σ a th set mir tgt shs shp pls pl tri asm tak pld cel pie nxt cho cbs cub sts stt frm by' wrk oth mvs mov) n
  unfold f_X7_isFree at hf
  refine g_iconst (v := 0) C (by decide) dX7_isFree_0 rfl ?_
  refine g_istore_n (i := 3) (lv' := [(3, .int (0 : Int32)), (0, .ref a), (1, .int part), (2, .int group)]) C dX7_isFree_1 rfl rfl (by rw [hKN]; decide) rfl ?_
  refine g_sub (lv' := [(0, .ref a), (1, .int part), (2, .int group), (3, .int (0 : Int32))]) [1, 2, 3, 0] rfl ?_
  obtain ⟨q22, hq22, hf1, hf2⟩ := sb hf
  refine g_X7_isFree_2 (l1 := part) (l2 := group) (th := th) (set := set) (mir := mir) (tgt := tgt) (shs := shs) (shp := shp) (pls := pls) (pl := pl) (tri := tri) (asm := asm) (tak := tak) (pld := pld) (cel := cel) (pie := pie) (nxt := nxt) (cho := cho) (cbs := cbs) (cub := cub) (sts := sts) (stt := stt) (frm := frm) (by' := by') (wrk := wrk) (oth := oth) (mvs := mvs) (mov := mov) C hKR hKN _ _ q22 hq22 (fun t23 et23 => ?_) (fun t23 et23 => ?_)
  · obtain rfl := hf1 _ et23
    exact hKQ
  · have hf := hf2 _ et23
    refine g_iconst (v := 0) C (by decide) dX7_isFree_57 rfl ?_
    obtain rfl := Option.some.inj hf
    exact g_zret C rfl hKQ dX7_isFree_58
def f_X7_isKnown_2  (l1 : Int32) : Nat → Int32 → Option Int32
  | 0, _ => none
  | fu + 1, l2 => (if ((l1 >>> (l2 &&& 31)) &&& (1 : Int32)) = 0 then f_X7_isKnown_2 l1 fu (l2 + (1 : Int32)) else some l2)
def f_X7_isKnown_18  (l1 : Int32) (l2 : Int32) (wrk : Nat → Int32) : Nat → Int32 → (Nat → Int32) → Option (Nat → Int32)
  | 0, _, _ => none
  | fu + 1, l3, oth => (if (18 : Int32) ≤ l3 then some oth else (if ((l1 >>> ((l3 / (3 : Int32)) &&& 31)) &&& (1 : Int32)) = (1 : Int32) then (if inB l3 18 = true then (if inB (((3 : Int32) * l2) + (l3 - l3 / (3 : Int32) * (3 : Int32))) 18 = true then (if inB l3 18 = true then f_X7_isKnown_18 l1 l2 wrk fu (l3 + (1 : Int32)) (va_up oth l3.toNatClampNeg ((wrk l3.toNatClampNeg) - (wrk (((3 : Int32) * l2) + (l3 - l3 / (3 : Int32) * (3 : Int32))).toNatClampNeg))) else none) else none) else none) else (if inB l3 18 = true then f_X7_isKnown_18 l1 l2 wrk fu (l3 + (1 : Int32)) (va_up oth l3.toNatClampNeg (0 : Int32)) else none)))
def f_X7_isKnown_86  (l3 : Int32) (stt : Nat → Int32) (oth : Nat → Int32) : Nat → Int32 → Int32 → Option Int32
  | 0, _, _ => none
  | fu + 1, l4, l5 => (if (18 : Int32) ≤ l5 then some l4 else (if l4 = 0 then some l4 else (if inB ((l3 * (18 : Int32)) + l5) 5400 = true then (if inB l5 18 = true then f_X7_isKnown_86 l3 stt oth fu (if (stt ((l3 * (18 : Int32)) + l5).toNatClampNeg) = (oth l5.toNatClampNeg) then (1 : Int32) else (0 : Int32)) (l5 + (1 : Int32)) else none) else none)))
def f_X7_isKnown_72  (sts : Int32) (stt : Nat → Int32) (oth : Nat → Int32) : Nat → Int32 → Option ((Int32 × (Nat → Int32)) ⊕ Unit)
  | 0, _ => none
  | fu + 1, l3 => (if sts ≤ l3 then some (.inr ()) else ((f_X7_isKnown_86 l3 stt oth fu (1 : Int32) (0 : Int32)).bind fun q85 => (if q85 = 0 then f_X7_isKnown_72 sts stt oth fu (l3 + (1 : Int32)) else some (.inl ((1 : Int32), oth)))))
def f_X7_isKnown (fu : Nat) (sts : Int32) (stt : Nat → Int32) (wrk : Nat → Int32) (oth : Nat → Int32) (part : Int32) : Option (Int32 × (Nat → Int32)) := ((f_X7_isKnown_2 part fu (0 : Int32)).bind fun q4 => ((f_X7_isKnown_18 part q4 wrk fu (0 : Int32) oth).bind fun q23 => (sumB (f_X7_isKnown_72 sts stt q23 fu (0 : Int32)) id fun t88 => some ((0 : Int32), q23))))
set_option maxHeartbeats 2000000 in
set_option maxRecDepth 20000 in
theorem g_X7_isKnown_2 {K : KX} {n : Nat} {σ : AH} {a : Nat}  {l1 : Int32} {th : Int32} {set : Nat → Int64} {mir : Nat → Int32} {tgt : Nat → Int32} {shs : Nat → Int32} {shp : Nat → Int64} {pls : Nat → Int32} {pl : Nat → Int64} {tri : Int32} {asm : Nat → Int64} {tak : Nat → Int64} {pld : Nat → Int32} {cel : Nat → Int32} {pie : Nat → Int32} {nxt : Nat → Int32} {cho : Nat → Int64} {cbs : Nat → Int32} {cub : Nat → Int32} {sts : Int32} {stt : Nat → Int32} {frm : Nat → Int32} {by' : Nat → Int32} {wrk : Nat → Int32} {oth : Nat → Int32} {mvs : Int32} {mov : Nat → Int32} (C : Cx K RX7 "isKnown" cX7_isKnown (some .boolean)) (hKR : kR K = ({ frames := 0, cells := 0, slots := 0, locals := 0 } : Room)) (hKN : kN K = 6) : ∀ (fu : Nat) (l2 : Int32) (res : Int32), f_X7_isKnown_2 l1 fu l2 = some res → G K 0 0 16 [(0, .ref a), (1, .int l1), (2, .int res)] [] (wMd σ a th set mir tgt shs shp pls pl tri asm tak pld cel pie nxt cho cbs cub sts stt frm by' wrk oth mvs mov) n → G K 0 0 2 [(0, .ref a), (1, .int l1), (2, .int l2)] [] (wMd σ a th set mir tgt shs shp pls pl tri asm tak pld cel pie nxt cho cbs cub sts stt frm by' wrk oth mvs mov) n := by
  intro fu
  induction fu with
  | zero =>
    intro l2 res hf
    exact absurd hf (by simp [f_X7_isKnown_2])
  | succ fu ih =>
    intro l2 res hf hx
    rw [f_X7_isKnown_2] at hf
    refine g_iload_n C rfl (q := 1) rfl dX7_isKnown_2 rfl ?_
    refine g_iload_n C rfl (q := 2) rfl dX7_isKnown_3 rfl ?_
    refine g_ishr C dX7_isKnown_4 rfl ?_
    refine g_iconst (v := 1) C (by decide) dX7_isKnown_5 rfl ?_
    refine g_iand C dX7_isKnown_6 rfl ?_
    refine g_if_ne (tgt := 16) C dX7_isKnown_7 (by decide) rfl (fun c3 => ?_) (fun c3 => ?_)
    · replace hf := iff' c3 hf
      obtain rfl := Option.some.inj hf
      exact hx
    · replace hf := ift c3 hf
      refine g_iinc (v := l2 + (1 : Int32)) (lv' := [(2, .int (l2 + (1 : Int32))), (0, .ref a), (1, .int l1)]) (q := 2) C dX7_isKnown_10 rfl rfl rfl (by rw [hKN]; decide) rfl ?_
      refine g_goto (pc' := 2) C dX7_isKnown_13 (by decide) ?_
      refine g_sub (lv' := [(0, .ref a), (1, .int l1), (2, .int (l2 + (1 : Int32)))]) [1, 2, 0] rfl ?_
      exact ih _ _ hf hx
set_option maxHeartbeats 2000000 in
set_option maxRecDepth 20000 in
theorem g_X7_isKnown_18 {K : KX} {n : Nat} {σ : AH} {a : Nat}  {l1 : Int32} {l2 : Int32} {th : Int32} {set : Nat → Int64} {mir : Nat → Int32} {tgt : Nat → Int32} {shs : Nat → Int32} {shp : Nat → Int64} {pls : Nat → Int32} {pl : Nat → Int64} {tri : Int32} {asm : Nat → Int64} {tak : Nat → Int64} {pld : Nat → Int32} {cel : Nat → Int32} {pie : Nat → Int32} {nxt : Nat → Int32} {cho : Nat → Int64} {cbs : Nat → Int32} {cub : Nat → Int32} {sts : Int32} {stt : Nat → Int32} {frm : Nat → Int32} {by' : Nat → Int32} {wrk : Nat → Int32} {mvs : Int32} {mov : Nat → Int32} (C : Cx K RX7 "isKnown" cX7_isKnown (some .boolean)) (hKR : kR K = ({ frames := 0, cells := 0, slots := 0, locals := 0 } : Room)) (hKN : kN K = 6) : ∀ (fu : Nat) (l3 : Int32) (oth : Nat → Int32) (res : (Nat → Int32)), f_X7_isKnown_18 l1 l2 wrk fu l3 oth = some res → G K 0 0 70 [(0, .ref a)] [] (wMd σ a th set mir tgt shs shp pls pl tri asm tak pld cel pie nxt cho cbs cub sts stt frm by' wrk res mvs mov) n → G K 0 0 18 [(0, .ref a), (1, .int l1), (2, .int l2), (3, .int l3)] [] (wMd σ a th set mir tgt shs shp pls pl tri asm tak pld cel pie nxt cho cbs cub sts stt frm by' wrk oth mvs mov) n := by
  intro fu
  induction fu with
  | zero =>
    intro l3 oth res hf
    exact absurd hf (by simp [f_X7_isKnown_18])
  | succ fu ih =>
    intro l3 oth res hf hx
    rw [f_X7_isKnown_18] at hf
    refine g_iload_n C rfl (q := 3) rfl dX7_isKnown_18 rfl ?_
    refine g_bipush (v := 18) C (by decide) dX7_isKnown_19 rfl ?_
    refine g_icmp_ge (tgt := 70) C dX7_isKnown_21 (by decide) rfl (fun c17 => ?_) (fun c17 => ?_)
    · replace hf := ift c17 hf
      obtain rfl := Option.some.inj hf
      refine g_sub (lv' := [(0, .ref a)]) [0] rfl ?_
      exact hx
    · replace hf := iff' c17 hf
      refine g_aload_n C rfl (q := 0) rfl dX7_isKnown_24 rfl ?_
      refine g_get C fc_X7 23 (by decide) wf_RX7_72 (wL_at0 rfl) rfl dX7_isKnown_25 rfl ?_
      refine g_iload_n C rfl (q := 3) rfl dX7_isKnown_28 rfl ?_
      refine g_iload_n C rfl (q := 1) rfl dX7_isKnown_29 rfl ?_
      refine g_iload_n C rfl (q := 3) rfl dX7_isKnown_30 rfl ?_
      refine g_iconst (v := 3) C (by decide) dX7_isKnown_31 rfl ?_
      refine g_idiv C (by decide) dX7_isKnown_32 rfl ?_
      refine g_ishr C dX7_isKnown_33 rfl ?_
      refine g_iconst (v := 1) C (by decide) dX7_isKnown_34 rfl ?_
      refine g_iand C dX7_isKnown_35 rfl ?_
      refine g_iconst (v := 1) C (by decide) dX7_isKnown_36 rfl ?_
      refine g_icmp_ne (tgt := 62) C dX7_isKnown_37 (by decide) rfl (fun c18 => ?_) (fun c18 => ?_)
      · replace hf := iff' c18 hf
        refine g_iconst (v := 0) C (by decide) dX7_isKnown_62 rfl ?_
        obtain ⟨g19, hf⟩ := gd hf
        refine g_iast (h' := (wMd σ a th set mir tgt shs shp pls pl tri asm tak pld cel pie nxt cho cbs cub sts stt frm by' wrk (va_up oth l3.toNatClampNeg (0 : Int32)) mvs mov)) C (wL_at 21 rfl) (inB_in g19) (wL_up 21 (Nat.le_of_ble_eq_true rfl) rfl) dX7_isKnown_63 rfl ?_
        refine g_iinc (v := l3 + (1 : Int32)) (lv' := [(3, .int (l3 + (1 : Int32))), (0, .ref a), (1, .int l1), (2, .int l2)]) (q := 3) C dX7_isKnown_64 rfl rfl rfl (by rw [hKN]; decide) rfl ?_
        refine g_goto (pc' := 18) C dX7_isKnown_67 (by decide) ?_
        refine g_sub (lv' := [(0, .ref a), (1, .int l1), (2, .int l2), (3, .int (l3 + (1 : Int32)))]) [1, 2, 3, 0] rfl ?_
        exact ih _ _ _ hf hx
      · replace hf := ift c18 hf
        refine g_aload_n C rfl (q := 0) rfl dX7_isKnown_40 rfl ?_
        refine g_get C fc_X7 22 (by decide) wf_RX7_69 (wL_at0 rfl) rfl dX7_isKnown_41 rfl ?_
        refine g_iload_n C rfl (q := 3) rfl dX7_isKnown_44 rfl ?_
        obtain ⟨g20, hf⟩ := gd hf
        refine g_iald C (wL_at 20 rfl) (inB_in g20) dX7_isKnown_45 rfl ?_
        refine g_aload_n C rfl (q := 0) rfl dX7_isKnown_46 rfl ?_
        refine g_get C fc_X7 22 (by decide) wf_RX7_69 (wL_at0 rfl) rfl dX7_isKnown_47 rfl ?_
        refine g_iconst (v := 3) C (by decide) dX7_isKnown_50 rfl ?_
        refine g_iload_n C rfl (q := 2) rfl dX7_isKnown_51 rfl ?_
        refine g_imul C dX7_isKnown_52 rfl ?_
        refine g_iload_n C rfl (q := 3) rfl dX7_isKnown_53 rfl ?_
        refine g_iconst (v := 3) C (by decide) dX7_isKnown_54 rfl ?_
        refine g_irem C (by decide) dX7_isKnown_55 rfl ?_
        refine g_iadd C dX7_isKnown_56 rfl ?_
        obtain ⟨g21, hf⟩ := gd hf
        refine g_iald C (wL_at 20 rfl) (inB_in g21) dX7_isKnown_57 rfl ?_
        refine g_isub C dX7_isKnown_58 rfl ?_
        refine g_goto (pc' := 63) C dX7_isKnown_59 (by decide) ?_
        obtain ⟨g22, hf⟩ := gd hf
        refine g_iast (h' := (wMd σ a th set mir tgt shs shp pls pl tri asm tak pld cel pie nxt cho cbs cub sts stt frm by' wrk (va_up oth l3.toNatClampNeg ((wrk l3.toNatClampNeg) - (wrk (((3 : Int32) * l2) + (l3 - l3 / (3 : Int32) * (3 : Int32))).toNatClampNeg))) mvs mov)) C (wL_at 21 rfl) (inB_in g22) (wL_up 21 (Nat.le_of_ble_eq_true rfl) rfl) dX7_isKnown_63 rfl ?_
        refine g_iinc (v := l3 + (1 : Int32)) (lv' := [(3, .int (l3 + (1 : Int32))), (0, .ref a), (1, .int l1), (2, .int l2)]) (q := 3) C dX7_isKnown_64 rfl rfl rfl (by rw [hKN]; decide) rfl ?_
        refine g_goto (pc' := 18) C dX7_isKnown_67 (by decide) ?_
        refine g_sub (lv' := [(0, .ref a), (1, .int l1), (2, .int l2), (3, .int (l3 + (1 : Int32)))]) [1, 2, 3, 0] rfl ?_
        exact ih _ _ _ hf hx
set_option maxHeartbeats 2000000 in
set_option maxRecDepth 20000 in
theorem g_X7_isKnown_86 {K : KX} {n : Nat} {σ : AH} {a : Nat}  {l3 : Int32} {th : Int32} {set : Nat → Int64} {mir : Nat → Int32} {tgt : Nat → Int32} {shs : Nat → Int32} {shp : Nat → Int64} {pls : Nat → Int32} {pl : Nat → Int64} {tri : Int32} {asm : Nat → Int64} {tak : Nat → Int64} {pld : Nat → Int32} {cel : Nat → Int32} {pie : Nat → Int32} {nxt : Nat → Int32} {cho : Nat → Int64} {cbs : Nat → Int32} {cub : Nat → Int32} {sts : Int32} {stt : Nat → Int32} {frm : Nat → Int32} {by' : Nat → Int32} {wrk : Nat → Int32} {oth : Nat → Int32} {mvs : Int32} {mov : Nat → Int32} (C : Cx K RX7 "isKnown" cX7_isKnown (some .boolean)) (hKR : kR K = ({ frames := 0, cells := 0, slots := 0, locals := 0 } : Room)) (hKN : kN K = 6) : ∀ (fu : Nat) (l4 : Int32) (l5 : Int32) (res : Int32), f_X7_isKnown_86 l3 stt oth fu l4 l5 = some res → G K 0 0 133 [(0, .ref a), (3, .int l3), (4, .int res)] [] (wMd σ a th set mir tgt shs shp pls pl tri asm tak pld cel pie nxt cho cbs cub sts stt frm by' wrk oth mvs mov) n → G K 0 0 86 [(0, .ref a), (3, .int l3), (4, .int l4), (5, .int l5)] [] (wMd σ a th set mir tgt shs shp pls pl tri asm tak pld cel pie nxt cho cbs cub sts stt frm by' wrk oth mvs mov) n := by
  intro fu
  induction fu with
  | zero =>
    intro l4 l5 res hf
    exact absurd hf (by simp [f_X7_isKnown_86])
  | succ fu ih =>
    intro l4 l5 res hf hx
    rw [f_X7_isKnown_86] at hf
    refine g_iload C (q := 3) rfl dX7_isKnown_86 rfl ?_
    refine g_bipush (v := 18) C (by decide) dX7_isKnown_88 rfl ?_
    refine g_icmp_ge (tgt := 133) C dX7_isKnown_90 (by decide) rfl (fun c79 => ?_) (fun c79 => ?_)
    · replace hf := ift c79 hf
      obtain rfl := Option.some.inj hf
      refine g_sub (lv' := [(0, .ref a), (3, .int l3), (4, .int l4)]) [0, 1, 2] rfl ?_
      exact hx
    · replace hf := iff' c79 hf
      refine g_iload C (q := 2) rfl dX7_isKnown_93 rfl ?_
      refine g_if_eq (tgt := 133) C dX7_isKnown_95 (by decide) rfl (fun c80 => ?_) (fun c80 => ?_)
      · replace hf := ift c80 hf
        obtain rfl := Option.some.inj hf
        refine g_sub (lv' := [(0, .ref a), (3, .int l3), (4, .int l4)]) [0, 1, 2] rfl ?_
        exact hx
      · replace hf := iff' c80 hf
        refine g_aload_n C rfl (q := 0) rfl dX7_isKnown_98 rfl ?_
        refine g_get C fc_X7 19 (by decide) wf_RX7_60 (wL_at0 rfl) rfl dX7_isKnown_99 rfl ?_
        refine g_iload_n C rfl (q := 1) rfl dX7_isKnown_102 rfl ?_
        refine g_bipush (v := 18) C (by decide) dX7_isKnown_103 rfl ?_
        refine g_imul C dX7_isKnown_105 rfl ?_
        refine g_iload C (q := 3) rfl dX7_isKnown_106 rfl ?_
        refine g_iadd C dX7_isKnown_108 rfl ?_
        obtain ⟨g81, hf⟩ := gd hf
        refine g_iald C (wL_at 17 rfl) (inB_in g81) dX7_isKnown_109 rfl ?_
        refine g_aload_n C rfl (q := 0) rfl dX7_isKnown_110 rfl ?_
        refine g_get C fc_X7 23 (by decide) wf_RX7_72 (wL_at0 rfl) rfl dX7_isKnown_111 rfl ?_
        refine g_iload C (q := 3) rfl dX7_isKnown_114 rfl ?_
        obtain ⟨g82, hf⟩ := gd hf
        refine g_iald C (wL_at 21 rfl) (inB_in g82) dX7_isKnown_116 rfl ?_
        have j83 : G K 0 0 125 [(0, .ref a), (3, .int l3), (4, .int l4), (5, .int l5)] [.int (if (stt ((l3 * (18 : Int32)) + l5).toNatClampNeg) = (oth l5.toNatClampNeg) then (1 : Int32) else (0 : Int32))] (wMd σ a th set mir tgt shs shp pls pl tri asm tak pld cel pie nxt cho cbs cub sts stt frm by' wrk oth mvs mov) n := by
          refine g_istore (i := 4) (lv' := [(4, .int (if (stt ((l3 * (18 : Int32)) + l5).toNatClampNeg) = (oth l5.toNatClampNeg) then (1 : Int32) else (0 : Int32))), (0, .ref a), (3, .int l3), (5, .int l5)]) C dX7_isKnown_125 rfl (by rw [hKN]; decide) rfl ?_
          refine g_iinc (v := l5 + (1 : Int32)) (lv' := [(5, .int (l5 + (1 : Int32))), (4, .int (if (stt ((l3 * (18 : Int32)) + l5).toNatClampNeg) = (oth l5.toNatClampNeg) then (1 : Int32) else (0 : Int32))), (0, .ref a), (3, .int l3)]) (q := 3) C dX7_isKnown_127 rfl rfl rfl (by rw [hKN]; decide) rfl ?_
          refine g_goto (pc' := 86) C dX7_isKnown_130 (by decide) ?_
          refine g_sub (lv' := [(0, .ref a), (3, .int l3), (4, .int (if (stt ((l3 * (18 : Int32)) + l5).toNatClampNeg) = (oth l5.toNatClampNeg) then (1 : Int32) else (0 : Int32))), (5, .int (l5 + (1 : Int32)))]) [2, 3, 1, 0] rfl ?_
          exact ih _ _ _ hf hx
        refine g_icmp_ne (tgt := 124) C dX7_isKnown_117 (by decide) rfl (fun c84 => ?_) (fun c84 => ?_)
        · refine g_iconst (v := 0) C (by decide) dX7_isKnown_124 rfl ?_
          exact g_topI (by rw [if_neg c84]) j83
        · refine g_iconst (v := 1) C (by decide) dX7_isKnown_120 rfl ?_
          refine g_goto (pc' := 125) C dX7_isKnown_121 (by decide) ?_
          exact g_topI (by rw [if_pos c84]) j83
set_option maxHeartbeats 2000000 in
set_option maxRecDepth 20000 in
theorem g_X7_isKnown_72 {K : KX} {n : Nat} {σ : AH} {a : Nat}  {th : Int32} {set : Nat → Int64} {mir : Nat → Int32} {tgt : Nat → Int32} {shs : Nat → Int32} {shp : Nat → Int64} {pls : Nat → Int32} {pl : Nat → Int64} {tri : Int32} {asm : Nat → Int64} {tak : Nat → Int64} {pld : Nat → Int32} {cel : Nat → Int32} {pie : Nat → Int32} {nxt : Nat → Int32} {cho : Nat → Int64} {cbs : Nat → Int32} {cub : Nat → Int32} {sts : Int32} {stt : Nat → Int32} {frm : Nat → Int32} {by' : Nat → Int32} {wrk : Nat → Int32} {oth : Nat → Int32} {mvs : Int32} {mov : Nat → Int32} (C : Cx K RX7 "isKnown" cX7_isKnown (some .boolean)) (hKR : kR K = ({ frames := 0, cells := 0, slots := 0, locals := 0 } : Room)) (hKN : kN K = 6) : ∀ (fu : Nat) (l3 : Int32) (res : ((Int32 × (Nat → Int32)) ⊕ Unit)), f_X7_isKnown_72 sts stt oth fu l3 = some res → (∀ t, res = .inl t → KQ K 0 0 (some (.int t.1)) (wMd σ a th set mir tgt shs shp pls pl tri asm tak pld cel pie nxt cho cbs cub sts stt frm by' wrk t.2 mvs mov) n) → (∀ t, res = .inr t → G K 0 0 146 [] [] (wMd σ a th set mir tgt shs shp pls pl tri asm tak pld cel pie nxt cho cbs cub sts stt frm by' wrk oth mvs mov) n) → G K 0 0 72 [(0, .ref a), (3, .int l3)] [] (wMd σ a th set mir tgt shs shp pls pl tri asm tak pld cel pie nxt cho cbs cub sts stt frm by' wrk oth mvs mov) n := by
  intro fu
  induction fu with
  | zero =>
    intro l3 res hf
    exact absurd hf (by simp [f_X7_isKnown_72])
  | succ fu ih =>
    intro l3 res hf hret hx
    rw [f_X7_isKnown_72] at hf
    refine g_iload_n C rfl (q := 1) rfl dX7_isKnown_72 rfl ?_
    refine g_aload_n C rfl (q := 0) rfl dX7_isKnown_73 rfl ?_
    refine g_get C fc_X7 18 (by decide) wf_RX7_157 (wL_at0 rfl) rfl dX7_isKnown_74 rfl ?_
    refine g_icmp_ge (tgt := 146) C dX7_isKnown_77 (by decide) rfl (fun c66 => ?_) (fun c66 => ?_)
    · replace hf := ift c66 hf
      obtain rfl := Option.some.inj hf
      refine g_sub (lv' := []) [] rfl ?_
      exact hx () rfl
    · replace hf := iff' c66 hf
      refine g_iconst (v := 1) C (by decide) dX7_isKnown_80 rfl ?_
      refine g_istore (i := 4) (lv' := [(4, .int (1 : Int32)), (0, .ref a), (3, .int l3)]) C dX7_isKnown_81 rfl (by rw [hKN]; decide) rfl ?_
      refine g_iconst (v := 0) C (by decide) dX7_isKnown_83 rfl ?_
      refine g_istore (i := 5) (lv' := [(5, .int (0 : Int32)), (4, .int (1 : Int32)), (0, .ref a), (3, .int l3)]) C dX7_isKnown_84 rfl (by rw [hKN]; decide) rfl ?_
      refine g_sub (lv' := [(0, .ref a), (3, .int l3), (4, .int (1 : Int32)), (5, .int (0 : Int32))]) [2, 3, 1, 0] rfl ?_
      obtain ⟨q85, hq85, hf⟩ := bd hf
      refine g_X7_isKnown_86 (l3 := l3) (th := th) (set := set) (mir := mir) (tgt := tgt) (shs := shs) (shp := shp) (pls := pls) (pl := pl) (tri := tri) (asm := asm) (tak := tak) (pld := pld) (cel := cel) (pie := pie) (nxt := nxt) (cho := cho) (cbs := cbs) (cub := cub) (sts := sts) (stt := stt) (frm := frm) (by' := by') (wrk := wrk) (oth := oth) (mvs := mvs) (mov := mov) C hKR hKN _ _ _ _ hq85 ?_
      refine g_iload C (q := 2) rfl dX7_isKnown_133 rfl ?_
      refine g_if_eq (tgt := 140) C dX7_isKnown_135 (by decide) rfl (fun c86 => ?_) (fun c86 => ?_)
      · replace hf := ift c86 hf
        refine g_iinc (v := l3 + (1 : Int32)) (lv' := [(3, .int (l3 + (1 : Int32))), (0, .ref a), (4, .int q85)]) (q := 1) C dX7_isKnown_140 rfl rfl rfl (by rw [hKN]; decide) rfl ?_
        refine g_goto (pc' := 72) C dX7_isKnown_143 (by decide) ?_
        refine g_sub (lv' := [(0, .ref a), (3, .int (l3 + (1 : Int32)))]) [1, 0] rfl ?_
        exact ih _ _ hf hret hx
      · replace hf := iff' c86 hf
        refine g_iconst (v := 1) C (by decide) dX7_isKnown_138 rfl ?_
        obtain rfl := Option.some.inj hf
        exact g_zret C rfl (hret ((1 : Int32), oth) rfl) dX7_isKnown_139
set_option maxHeartbeats 2000000 in
set_option maxRecDepth 20000 in
theorem c_X7_isKnown {l : Launch} {E : Ex} {n : Nat} {σ : AH} {a : Nat}  {th : Int32} {set : Nat → Int64} {mir : Nat → Int32} {tgt : Nat → Int32} {shs : Nat → Int32} {shp : Nat → Int64} {pls : Nat → Int32} {pl : Nat → Int64} {tri : Int32} {asm : Nat → Int64} {tak : Nat → Int64} {pld : Nat → Int32} {cel : Nat → Int32} {pie : Nat → Int32} {nxt : Nat → Int32} {cho : Nat → Int64} {cbs : Nat → Int32} {cub : Nat → Int32} {sts : Int32} {stt : Nat → Int32} {frm : Nat → Int32} {by' : Nat → Int32} {wrk : Nat → Int32} {oth : Nat → Int32} {mvs : Int32} {mov : Nat → Int32} {part : Int32} {fu : Nat} (res : (Int32 × (Nat → Int32))) (hf : f_X7_isKnown fu sts stt wrk oth part = some res) : Con l E yX7_isKnown (.code yX7_isKnown cX7_isKnown 6 (some .boolean) :: TT) ({ frames := 0, cells := 0, slots := 0, locals := 0 } : Room) 0 0 [.ref a, .int part] (wMd σ a th set mir tgt shs shp pls pl tri asm tak pld cel pie nxt cho cbs cub sts stt frm by' wrk oth mvs mov) n (some (.int res.1)) (wMd σ a th set mir tgt shs shp pls pl tri asm tak pld cel pie nxt cho cbs cub sts stt frm by' wrk res.2 mvs mov) n := by
  refine con_intro (by decide +kernel) (Nat.le_of_ble_eq_true rfl) ?_
  intro K C hKR hKL hKE hKN hKQ
  subst hKL
  subst hKE
  have C : Cx K RX7 "isKnown" cX7_isKnown (some .boolean) := C
  show G K 0 0 0 [(0, .ref a), (1, .int part)] [] (wMd σ a th set mir tgt shs shp pls pl tri asm tak pld cel pie nxt cho cbs cub sts stt frm by' wrk oth mvs mov) n
  unfold f_X7_isKnown at hf
  refine g_iconst (v := 0) C (by decide) dX7_isKnown_0 rfl ?_
  refine g_istore_n (i := 2) (lv' := [(2, .int (0 : Int32)), (0, .ref a), (1, .int part)]) C dX7_isKnown_1 rfl rfl (by rw [hKN]; decide) rfl ?_
  refine g_sub (lv' := [(0, .ref a), (1, .int part), (2, .int (0 : Int32))]) [1, 2, 0] rfl ?_
  obtain ⟨q4, hq4, hf⟩ := bd hf
  refine g_X7_isKnown_2 (l1 := part) (th := th) (set := set) (mir := mir) (tgt := tgt) (shs := shs) (shp := shp) (pls := pls) (pl := pl) (tri := tri) (asm := asm) (tak := tak) (pld := pld) (cel := cel) (pie := pie) (nxt := nxt) (cho := cho) (cbs := cbs) (cub := cub) (sts := sts) (stt := stt) (frm := frm) (by' := by') (wrk := wrk) (oth := oth) (mvs := mvs) (mov := mov) C hKR hKN _ _ _ hq4 ?_
  refine g_iconst (v := 0) C (by decide) dX7_isKnown_16 rfl ?_
  refine g_istore_n (i := 3) (lv' := [(3, .int (0 : Int32)), (0, .ref a), (1, .int part), (2, .int q4)]) C dX7_isKnown_17 rfl rfl (by rw [hKN]; decide) rfl ?_
  refine g_sub (lv' := [(0, .ref a), (1, .int part), (2, .int q4), (3, .int (0 : Int32))]) [1, 2, 3, 0] rfl ?_
  obtain ⟨q23, hq23, hf⟩ := bd hf
  refine g_X7_isKnown_18 (l1 := part) (l2 := q4) (th := th) (set := set) (mir := mir) (tgt := tgt) (shs := shs) (shp := shp) (pls := pls) (pl := pl) (tri := tri) (asm := asm) (tak := tak) (pld := pld) (cel := cel) (pie := pie) (nxt := nxt) (cho := cho) (cbs := cbs) (cub := cub) (sts := sts) (stt := stt) (frm := frm) (by' := by') (wrk := wrk) (mvs := mvs) (mov := mov) C hKR hKN _ _ _ _ hq23 ?_
  refine g_iconst (v := 0) C (by decide) dX7_isKnown_70 rfl ?_
  refine g_istore_n (i := 3) (lv' := [(3, .int (0 : Int32)), (0, .ref a)]) C dX7_isKnown_71 rfl rfl (by rw [hKN]; decide) rfl ?_
  refine g_sub (lv' := [(0, .ref a), (3, .int (0 : Int32))]) [1, 0] rfl ?_
  obtain ⟨q87, hq87, hf1, hf2⟩ := sb hf
  refine g_X7_isKnown_72 (th := th) (set := set) (mir := mir) (tgt := tgt) (shs := shs) (shp := shp) (pls := pls) (pl := pl) (tri := tri) (asm := asm) (tak := tak) (pld := pld) (cel := cel) (pie := pie) (nxt := nxt) (cho := cho) (cbs := cbs) (cub := cub) (sts := sts) (stt := stt) (frm := frm) (by' := by') (wrk := wrk) (oth := q23) (mvs := mvs) (mov := mov) C hKR hKN _ _ q87 hq87 (fun t88 et88 => ?_) (fun t88 et88 => ?_)
  · obtain rfl := hf1 _ et88
    exact hKQ
  · have hf := hf2 _ et88
    refine g_iconst (v := 0) C (by decide) dX7_isKnown_146 rfl ?_
    obtain rfl := Option.some.inj hf
    exact g_zret C rfl hKQ dX7_isKnown_147
def f_X7_finish_5  (frm : Nat → Int32) : Nat → Int32 → Int32 → Option Int32
  | 0, _, _ => none
  | fu + 1, l3, l4 => (if inB l4 300 = true then (if (frm l4.toNatClampNeg) < 0 then some l3 else (if inB l4 300 = true then f_X7_finish_5 frm fu (l3 + (1 : Int32)) (frm l4.toNatClampNeg) else none)) else none)
def f_X7_finish_52  (frm : Nat → Int32) (by' : Nat → Int32) : Nat → Int32 → Int32 → (Nat → Int32) → Option (Nat → Int32)
  | 0, _, _, _ => none
  | fu + 1, l4, l5, mov => (if inB l5 300 = true then (if (frm l5.toNatClampNeg) < 0 then some mov else (if inB l5 300 = true then (if inB l4 301 = true then (if inB l5 300 = true then f_X7_finish_52 frm by' fu (l4 + (-1 : Int32)) (frm l5.toNatClampNeg) (va_up mov l4.toNatClampNeg (by' l5.toNatClampNeg)) else none) else none) else none)) else none)
def f_X7_finish (fu : Nat) (frm : Nat → Int32) (by' : Nat → Int32) (mov : Nat → Int32) (s : Int32) (code : Int32) : Option (Int32 × (Nat → Int32)) := ((f_X7_finish_5 frm fu (1 : Int32) s).bind fun q10 => (if inB (q10 - (1 : Int32)) 301 = true then ((f_X7_finish_52 frm by' fu (q10 - (2 : Int32)) s (va_up mov (q10 - (1 : Int32)).toNatClampNeg code)).bind fun q27 => some (q10, q27)) else none))
set_option maxHeartbeats 2000000 in
set_option maxRecDepth 20000 in
theorem g_X7_finish_5 {K : KX} {n : Nat} {σ : AH} {a : Nat}  {l1 : Int32} {l2 : Int32} {th : Int32} {set : Nat → Int64} {mir : Nat → Int32} {tgt : Nat → Int32} {shs : Nat → Int32} {shp : Nat → Int64} {pls : Nat → Int32} {pl : Nat → Int64} {tri : Int32} {asm : Nat → Int64} {tak : Nat → Int64} {pld : Nat → Int32} {cel : Nat → Int32} {pie : Nat → Int32} {nxt : Nat → Int32} {cho : Nat → Int64} {cbs : Nat → Int32} {cub : Nat → Int32} {sts : Int32} {stt : Nat → Int32} {frm : Nat → Int32} {by' : Nat → Int32} {wrk : Nat → Int32} {oth : Nat → Int32} {mvs : Int32} {mov : Nat → Int32} (C : Cx K RX7 "finish" cX7_finish none) (hKR : kR K = ({ frames := 0, cells := 0, slots := 0, locals := 0 } : Room)) (hKN : kN K = 6) : ∀ (fu : Nat) (l3 : Int32) (l4 : Int32) (res : Int32), f_X7_finish_5 frm fu l3 l4 = some res → G K 0 0 30 [(0, .ref a), (1, .int l1), (2, .int l2), (3, .int res)] [] (wMd σ a th set mir tgt shs shp pls pl tri asm tak pld cel pie nxt cho cbs cub sts stt frm by' wrk oth mvs mov) n → G K 0 0 5 [(0, .ref a), (1, .int l1), (2, .int l2), (3, .int l3), (4, .int l4)] [] (wMd σ a th set mir tgt shs shp pls pl tri asm tak pld cel pie nxt cho cbs cub sts stt frm by' wrk oth mvs mov) n := by
  intro fu
  induction fu with
  | zero =>
    intro l3 l4 res hf
    exact absurd hf (by simp [f_X7_finish_5])
  | succ fu ih =>
    intro l3 l4 res hf hx
    rw [f_X7_finish_5] at hf
    refine g_aload_n C rfl (q := 0) rfl dX7_finish_5 rfl ?_
    refine g_get C fc_X7 20 (by decide) wf_RX7_63 (wL_at0 rfl) rfl dX7_finish_6 rfl ?_
    refine g_iload C (q := 4) rfl dX7_finish_9 rfl ?_
    obtain ⟨g7, hf⟩ := gd hf
    refine g_iald C (wL_at 18 rfl) (inB_in g7) dX7_finish_11 rfl ?_
    refine g_if_lt (tgt := 30) C dX7_finish_12 (by decide) rfl (fun c8 => ?_) (fun c8 => ?_)
    · replace hf := ift c8 hf
      obtain rfl := Option.some.inj hf
      refine g_sub (lv' := [(0, .ref a), (1, .int l1), (2, .int l2), (3, .int l3)]) [0, 1, 2, 3] rfl ?_
      exact hx
    · replace hf := iff' c8 hf
      refine g_iinc (v := l3 + (1 : Int32)) (lv' := [(3, .int (l3 + (1 : Int32))), (0, .ref a), (1, .int l1), (2, .int l2), (4, .int l4)]) (q := 3) C dX7_finish_15 rfl rfl rfl (by rw [hKN]; decide) rfl ?_
      refine g_aload_n C rfl (q := 1) rfl dX7_finish_18 rfl ?_
      refine g_get C fc_X7 20 (by decide) wf_RX7_63 (wL_at0 rfl) rfl dX7_finish_19 rfl ?_
      refine g_iload C (q := 4) rfl dX7_finish_22 rfl ?_
      obtain ⟨g9, hf⟩ := gd hf
      refine g_iald C (wL_at 18 rfl) (inB_in g9) dX7_finish_24 rfl ?_
      refine g_istore (i := 4) (lv' := [(4, .int (frm l4.toNatClampNeg)), (3, .int (l3 + (1 : Int32))), (0, .ref a), (1, .int l1), (2, .int l2)]) C dX7_finish_25 rfl (by rw [hKN]; decide) rfl ?_
      refine g_goto (pc' := 5) C dX7_finish_27 (by decide) ?_
      refine g_sub (lv' := [(0, .ref a), (1, .int l1), (2, .int l2), (3, .int (l3 + (1 : Int32))), (4, .int (frm l4.toNatClampNeg))]) [2, 3, 4, 1, 0] rfl ?_
      exact ih _ _ _ hf hx
set_option maxHeartbeats 2000000 in
set_option maxRecDepth 20000 in
theorem g_X7_finish_52 {K : KX} {n : Nat} {σ : AH} {a : Nat}  {th : Int32} {set : Nat → Int64} {mir : Nat → Int32} {tgt : Nat → Int32} {shs : Nat → Int32} {shp : Nat → Int64} {pls : Nat → Int32} {pl : Nat → Int64} {tri : Int32} {asm : Nat → Int64} {tak : Nat → Int64} {pld : Nat → Int32} {cel : Nat → Int32} {pie : Nat → Int32} {nxt : Nat → Int32} {cho : Nat → Int64} {cbs : Nat → Int32} {cub : Nat → Int32} {sts : Int32} {stt : Nat → Int32} {frm : Nat → Int32} {by' : Nat → Int32} {wrk : Nat → Int32} {oth : Nat → Int32} {mvs : Int32} (C : Cx K RX7 "finish" cX7_finish none) (hKR : kR K = ({ frames := 0, cells := 0, slots := 0, locals := 0 } : Room)) (hKN : kN K = 6) : ∀ (fu : Nat) (l4 : Int32) (l5 : Int32) (mov : Nat → Int32) (res : (Nat → Int32)), f_X7_finish_52 frm by' fu l4 l5 mov = some res → G K 0 0 91 [] [] (wMd σ a th set mir tgt shs shp pls pl tri asm tak pld cel pie nxt cho cbs cub sts stt frm by' wrk oth mvs res) n → G K 0 0 52 [(0, .ref a), (4, .int l4), (5, .int l5)] [] (wMd σ a th set mir tgt shs shp pls pl tri asm tak pld cel pie nxt cho cbs cub sts stt frm by' wrk oth mvs mov) n := by
  intro fu
  induction fu with
  | zero =>
    intro l4 l5 mov res hf
    exact absurd hf (by simp [f_X7_finish_52])
  | succ fu ih =>
    intro l4 l5 mov res hf hx
    rw [f_X7_finish_52] at hf
    refine g_aload_n C rfl (q := 0) rfl dX7_finish_52 rfl ?_
    refine g_get C fc_X7 20 (by decide) wf_RX7_63 (wL_at0 rfl) rfl dX7_finish_53 rfl ?_
    refine g_iload C (q := 2) rfl dX7_finish_56 rfl ?_
    obtain ⟨g22, hf⟩ := gd hf
    refine g_iald C (wL_at 18 rfl) (inB_in g22) dX7_finish_58 rfl ?_
    refine g_if_lt (tgt := 91) C dX7_finish_59 (by decide) rfl (fun c23 => ?_) (fun c23 => ?_)
    · replace hf := ift c23 hf
      obtain rfl := Option.some.inj hf
      refine g_sub (lv' := []) [] rfl ?_
      exact hx
    · replace hf := iff' c23 hf
      refine g_aload_n C rfl (q := 0) rfl dX7_finish_62 rfl ?_
      refine g_get C fc_X7 25 (by decide) wf_RX7_75 (wL_at0 rfl) rfl dX7_finish_63 rfl ?_
      refine g_iload C (q := 1) rfl dX7_finish_66 rfl ?_
      refine g_aload_n C rfl (q := 0) rfl dX7_finish_68 rfl ?_
      refine g_get C fc_X7 21 (by decide) wf_RX7_66 (wL_at0 rfl) rfl dX7_finish_69 rfl ?_
      refine g_iload C (q := 2) rfl dX7_finish_72 rfl ?_
      obtain ⟨g24, hf⟩ := gd hf
      refine g_iald C (wL_at 19 rfl) (inB_in g24) dX7_finish_74 rfl ?_
      obtain ⟨g25, hf⟩ := gd hf
      refine g_iast (h' := (wMd σ a th set mir tgt shs shp pls pl tri asm tak pld cel pie nxt cho cbs cub sts stt frm by' wrk oth mvs (va_up mov l4.toNatClampNeg (by' l5.toNatClampNeg)))) C (wL_at 22 rfl) (inB_in g25) (wL_up 22 (Nat.le_of_ble_eq_true rfl) rfl) dX7_finish_75 rfl ?_
      refine g_iinc (v := l4 + (-1 : Int32)) (lv' := [(4, .int (l4 + (-1 : Int32))), (0, .ref a), (5, .int l5)]) (q := 1) C dX7_finish_76 rfl rfl rfl (by rw [hKN]; decide) rfl ?_
      refine g_aload_n C rfl (q := 1) rfl dX7_finish_79 rfl ?_
      refine g_get C fc_X7 20 (by decide) wf_RX7_63 (wL_at0 rfl) rfl dX7_finish_80 rfl ?_
      refine g_iload C (q := 2) rfl dX7_finish_83 rfl ?_
      obtain ⟨g26, hf⟩ := gd hf
      refine g_iald C (wL_at 18 rfl) (inB_in g26) dX7_finish_85 rfl ?_
      refine g_istore (i := 5) (lv' := [(5, .int (frm l5.toNatClampNeg)), (4, .int (l4 + (-1 : Int32))), (0, .ref a)]) C dX7_finish_86 rfl (by rw [hKN]; decide) rfl ?_
      refine g_goto (pc' := 52) C dX7_finish_88 (by decide) ?_
      refine g_sub (lv' := [(0, .ref a), (4, .int (l4 + (-1 : Int32))), (5, .int (frm l5.toNatClampNeg))]) [2, 1, 0] rfl ?_
      exact ih _ _ _ _ hf hx
set_option maxHeartbeats 2000000 in
set_option maxRecDepth 20000 in
theorem c_X7_finish {l : Launch} {E : Ex} {n : Nat} {σ : AH} {a : Nat}  {th : Int32} {set : Nat → Int64} {mir : Nat → Int32} {tgt : Nat → Int32} {shs : Nat → Int32} {shp : Nat → Int64} {pls : Nat → Int32} {pl : Nat → Int64} {tri : Int32} {asm : Nat → Int64} {tak : Nat → Int64} {pld : Nat → Int32} {cel : Nat → Int32} {pie : Nat → Int32} {nxt : Nat → Int32} {cho : Nat → Int64} {cbs : Nat → Int32} {cub : Nat → Int32} {sts : Int32} {stt : Nat → Int32} {frm : Nat → Int32} {by' : Nat → Int32} {wrk : Nat → Int32} {oth : Nat → Int32} {mvs : Int32} {mov : Nat → Int32} {s : Int32} {code : Int32} {fu : Nat} (res : (Int32 × (Nat → Int32))) (hf : f_X7_finish fu frm by' mov s code = some res) : Con l E yX7_finish (.code yX7_finish cX7_finish 6 none :: TT) ({ frames := 0, cells := 0, slots := 0, locals := 0 } : Room) 0 0 [.ref a, .int s, .int code] (wMd σ a th set mir tgt shs shp pls pl tri asm tak pld cel pie nxt cho cbs cub sts stt frm by' wrk oth mvs mov) n none (wMd σ a th set mir tgt shs shp pls pl tri asm tak pld cel pie nxt cho cbs cub sts stt frm by' wrk oth res.1 res.2) n := by
  refine con_intro (by decide +kernel) (Nat.le_of_ble_eq_true rfl) ?_
  intro K C hKR hKL hKE hKN hKQ
  subst hKL
  subst hKE
  have C : Cx K RX7 "finish" cX7_finish none := C
  show G K 0 0 0 [(0, .ref a), (1, .int s), (2, .int code)] [] (wMd σ a th set mir tgt shs shp pls pl tri asm tak pld cel pie nxt cho cbs cub sts stt frm by' wrk oth mvs mov) n
  unfold f_X7_finish at hf
  refine g_iconst (v := 1) C (by decide) dX7_finish_0 rfl ?_
  refine g_istore_n (i := 3) (lv' := [(3, .int (1 : Int32)), (0, .ref a), (1, .int s), (2, .int code)]) C dX7_finish_1 rfl rfl (by rw [hKN]; decide) rfl ?_
  refine g_iload_n C rfl (q := 2) rfl dX7_finish_2 rfl ?_
  refine g_istore (i := 4) (lv' := [(4, .int s), (3, .int (1 : Int32)), (0, .ref a), (1, .int s), (2, .int code)]) C dX7_finish_3 rfl (by rw [hKN]; decide) rfl ?_
  refine g_sub (lv' := [(0, .ref a), (1, .int s), (2, .int code), (3, .int (1 : Int32)), (4, .int s)]) [2, 3, 4, 1, 0] rfl ?_
  obtain ⟨q10, hq10, hf⟩ := bd hf
  refine g_X7_finish_5 (l1 := s) (l2 := code) (th := th) (set := set) (mir := mir) (tgt := tgt) (shs := shs) (shp := shp) (pls := pls) (pl := pl) (tri := tri) (asm := asm) (tak := tak) (pld := pld) (cel := cel) (pie := pie) (nxt := nxt) (cho := cho) (cbs := cbs) (cub := cub) (sts := sts) (stt := stt) (frm := frm) (by' := by') (wrk := wrk) (oth := oth) (mvs := mvs) (mov := mov) C hKR hKN _ _ _ _ hq10 ?_
  refine g_aload_n C rfl (q := 0) rfl dX7_finish_30 rfl ?_
  refine g_iload_n C rfl (q := 3) rfl dX7_finish_31 rfl ?_
  refine g_put (h' := (wMd σ a th set mir tgt shs shp pls pl tri asm tak pld cel pie nxt cho cbs cub sts stt frm by' wrk oth q10 mov)) C fc_X7 24 (by decide) wf_RX7_160 rfl rfl rfl (Nat.le_of_ble_eq_true rfl) (wL_at0 rfl) (wL_up0 (Nat.le_of_ble_eq_true rfl) rfl) dX7_finish_32 rfl ?_
  refine g_aload_n C rfl (q := 0) rfl dX7_finish_35 rfl ?_
  refine g_get C fc_X7 25 (by decide) wf_RX7_75 (wL_at0 rfl) rfl dX7_finish_36 rfl ?_
  refine g_iload_n C rfl (q := 3) rfl dX7_finish_39 rfl ?_
  refine g_iconst (v := 1) C (by decide) dX7_finish_40 rfl ?_
  refine g_isub C dX7_finish_41 rfl ?_
  refine g_iload_n C rfl (q := 2) rfl dX7_finish_42 rfl ?_
  obtain ⟨g11, hf⟩ := gd hf
  refine g_iast (h' := (wMd σ a th set mir tgt shs shp pls pl tri asm tak pld cel pie nxt cho cbs cub sts stt frm by' wrk oth q10 (va_up mov (q10 - (1 : Int32)).toNatClampNeg code))) C (wL_at 22 rfl) (inB_in g11) (wL_up 22 (Nat.le_of_ble_eq_true rfl) rfl) dX7_finish_43 rfl ?_
  refine g_iload_n C rfl (q := 3) rfl dX7_finish_44 rfl ?_
  refine g_iconst (v := 2) C (by decide) dX7_finish_45 rfl ?_
  refine g_isub C dX7_finish_46 rfl ?_
  refine g_istore (i := 4) (lv' := [(4, .int (q10 - (2 : Int32))), (0, .ref a), (1, .int s), (2, .int code), (3, .int q10)]) C dX7_finish_47 rfl (by rw [hKN]; decide) rfl ?_
  refine g_iload_n C rfl (q := 2) rfl dX7_finish_49 rfl ?_
  refine g_istore (i := 5) (lv' := [(5, .int s), (4, .int (q10 - (2 : Int32))), (0, .ref a), (1, .int s), (2, .int code), (3, .int q10)]) C dX7_finish_50 rfl (by rw [hKN]; decide) rfl ?_
  refine g_sub (lv' := [(0, .ref a), (4, .int (q10 - (2 : Int32))), (5, .int s)]) [2, 1, 0] rfl ?_
  obtain ⟨q27, hq27, hf⟩ := bd hf
  refine g_X7_finish_52 (th := th) (set := set) (mir := mir) (tgt := tgt) (shs := shs) (shp := shp) (pls := pls) (pl := pl) (tri := tri) (asm := asm) (tak := tak) (pld := pld) (cel := cel) (pie := pie) (nxt := nxt) (cho := cho) (cbs := cbs) (cub := cub) (sts := sts) (stt := stt) (frm := frm) (by' := by') (wrk := wrk) (oth := oth) (mvs := q10) C hKR hKN _ _ _ _ _ hq27 ?_
  obtain rfl := Option.some.inj hf
  exact g_vret C hKQ dX7_finish_91
def f_X7_run_3  (l3 : Int32) (stt : Nat → Int32) : Nat → Int32 → (Nat → Int32) → Option (Nat → Int32)
  | 0, _, _ => none
  | fu + 1, l6, wrk => (if (18 : Int32) ≤ l6 then some wrk else (if inB ((l3 * (18 : Int32)) + l6) 5400 = true then (if inB l6 18 = true then f_X7_run_3 l3 stt fu (l6 + (1 : Int32)) (va_up wrk l6.toNatClampNeg (stt ((l3 * (18 : Int32)) + l6).toNatClampNeg)) else none) else none))
def f_X7_run_44  (l4 : Int32) (l5 : Int32) : Nat → Int32 → (Nat → Int32) → Option (Nat → Int32)
  | 0, _, _ => none
  | fu + 1, l7, wrk => (if (6 : Int32) ≤ l7 then some wrk else (if ((l4 >>> (l7 &&& 31)) &&& (1 : Int32)) = (1 : Int32) then (if inB (((3 : Int32) * l7) + (l5 / (2 : Int32))) 18 = true then (if inB (((3 : Int32) * l7) + (l5 / (2 : Int32))) 18 = true then f_X7_run_44 l4 l5 fu (l7 + (1 : Int32)) (va_up wrk (((3 : Int32) * l7) + (l5 / (2 : Int32))).toNatClampNeg ((wrk (((3 : Int32) * l7) + (l5 / (2 : Int32))).toNatClampNeg) + (if (l5 - l5 / (2 : Int32) * (2 : Int32)) = 0 then (1 : Int32) else (-1 : Int32)))) else none) else none) else f_X7_run_44 l4 l5 fu (l7 + (1 : Int32)) wrk))
def f_X7_run_185  (sts : Int32) (oth : Nat → Int32) : Nat → Int32 → (Nat → Int32) → Option (Nat → Int32)
  | 0, _, _ => none
  | fu + 1, l8, stt => (if (18 : Int32) ≤ l8 then some stt else (if inB l8 18 = true then (if inB ((sts * (18 : Int32)) + l8) 5400 = true then f_X7_run_185 sts oth fu (l8 + (1 : Int32)) (va_up stt ((sts * (18 : Int32)) + l8).toNatClampNeg (oth l8.toNatClampNeg)) else none) else none))
def f_X7_run_38  (l1 : Int32) (l2 : Int32) (l3 : Int32) (l4 : Int32) (l5 : Int32) (cbs : Nat → Int32) (cub : Nat → Int32) (mvs : Int32) (mov : Nat → Int32) : Nat → Int32 → Int32 → (Nat → Int32) → (Nat → Int32) → (Nat → Int32) → (Nat → Int32) → (Nat → Int32) → Option ((Int32 × Int32 × (Nat → Int32) × (Nat → Int32) × (Nat → Int32) × (Nat → Int32) × (Nat → Int32) × Int32 × (Nat → Int32)) ⊕ (Int32 × (Nat → Int32) × (Nat → Int32) × (Nat → Int32) × (Nat → Int32) × (Nat → Int32)))
  | 0, _, _, _, _, _, _, _ => none
  | fu + 1, l6, sts, stt, frm, by', wrk, oth => ((f_X7_run_44 l4 l5 fu (0 : Int32) wrk).bind fun q107 => ((f_X7_hits fu cbs cub q107 l1 l4).bind fun q108 => (if q108 = 0 then ((f_X7_isFree fu cbs cub q107 l1 l4).bind fun q110 => (if q110 = 0 then ((f_X7_isKnown fu sts stt q107 oth l1).bind fun q112 => (if q112.1 = 0 then (if sts = l2 then some (.inl ((-2 : Int32), sts, stt, frm, by', q107, q112.2, mvs, mov)) else ((f_X7_run_185 sts q112.2 fu (0 : Int32) stt).bind fun q124 => (if inB sts 300 = true then (if inB sts 300 = true then f_X7_run_38 l1 l2 l3 l4 l5 cbs cub mvs mov fu (l6 + (1 : Int32)) (sts + (1 : Int32)) q124 (va_up frm sts.toNatClampNeg l3) (va_up by' sts.toNatClampNeg ((((1000 : Int32) * l4) + ((100 : Int32) * l5)) + (l6 + (1 : Int32)))) q107 q112.2 else none) else none))) else f_X7_run_38 l1 l2 l3 l4 l5 cbs cub mvs mov fu (l6 + (1 : Int32)) sts stt frm by' q107 q112.2)) else ((f_X7_finish fu frm by' mov l3 ((((1000 : Int32) * l4) + ((100 : Int32) * l5)) + (l6 + (1 : Int32)))).bind fun q127 => some (.inl (q127.1, sts, stt, frm, by', q107, oth, q127.1, q127.2))))) else some (.inl ((0 : Int32), sts, stt, frm, by', q107, oth, mvs, mov)))))
def f_X7_run (fu : Nat) (cbs : Nat → Int32) (cub : Nat → Int32) (sts : Int32) (stt : Nat → Int32) (frm : Nat → Int32) (by' : Nat → Int32) (wrk : Nat → Int32) (oth : Nat → Int32) (mvs : Int32) (mov : Nat → Int32) (part : Int32) (limit : Int32) (s : Int32) (group : Int32) (way : Int32) : Option (Int32 × Int32 × (Nat → Int32) × (Nat → Int32) × (Nat → Int32) × (Nat → Int32) × (Nat → Int32) × Int32 × (Nat → Int32)) := ((f_X7_run_3 s stt fu (0 : Int32) wrk).bind fun q10 => (sumB (f_X7_run_38 part limit s group way cbs cub mvs mov fu (0 : Int32) sts stt frm by' q10 oth) id (fun _ => none)))
set_option maxHeartbeats 2000000 in
set_option maxRecDepth 20000 in
theorem g_X7_run_3 {K : KX} {n : Nat} {σ : AH} {a : Nat}  {l1 : Int32} {l2 : Int32} {l3 : Int32} {l4 : Int32} {l5 : Int32} {th : Int32} {set : Nat → Int64} {mir : Nat → Int32} {tgt : Nat → Int32} {shs : Nat → Int32} {shp : Nat → Int64} {pls : Nat → Int32} {pl : Nat → Int64} {tri : Int32} {asm : Nat → Int64} {tak : Nat → Int64} {pld : Nat → Int32} {cel : Nat → Int32} {pie : Nat → Int32} {nxt : Nat → Int32} {cho : Nat → Int64} {cbs : Nat → Int32} {cub : Nat → Int32} {sts : Int32} {stt : Nat → Int32} {frm : Nat → Int32} {by' : Nat → Int32} {oth : Nat → Int32} {mvs : Int32} {mov : Nat → Int32} (C : Cx K RX7 "run" cX7_run (some .int)) (hKR : kR K = ({ frames := 3, cells := 0, slots := 0, locals := 73 } : Room)) (hKN : kN K = 9) : ∀ (fu : Nat) (l6 : Int32) (wrk : Nat → Int32) (res : (Nat → Int32)), f_X7_run_3 l3 stt fu l6 wrk = some res → G K 0 0 35 [(0, .ref a), (1, .int l1), (2, .int l2), (3, .int l3), (4, .int l4), (5, .int l5)] [] (wMd σ a th set mir tgt shs shp pls pl tri asm tak pld cel pie nxt cho cbs cub sts stt frm by' res oth mvs mov) n → G K 0 0 3 [(0, .ref a), (1, .int l1), (2, .int l2), (3, .int l3), (4, .int l4), (5, .int l5), (6, .int l6)] [] (wMd σ a th set mir tgt shs shp pls pl tri asm tak pld cel pie nxt cho cbs cub sts stt frm by' wrk oth mvs mov) n := by
  intro fu
  induction fu with
  | zero =>
    intro l6 wrk res hf
    exact absurd hf (by simp [f_X7_run_3])
  | succ fu ih =>
    intro l6 wrk res hf hx
    rw [f_X7_run_3] at hf
    refine g_iload C (q := 6) rfl dX7_run_3 rfl ?_
    refine g_bipush (v := 18) C (by decide) dX7_run_5 rfl ?_
    refine g_icmp_ge (tgt := 35) C dX7_run_7 (by decide) rfl (fun c7 => ?_) (fun c7 => ?_)
    · replace hf := ift c7 hf
      obtain rfl := Option.some.inj hf
      refine g_sub (lv' := [(0, .ref a), (1, .int l1), (2, .int l2), (3, .int l3), (4, .int l4), (5, .int l5)]) [0, 1, 2, 3, 4, 5] rfl ?_
      exact hx
    · replace hf := iff' c7 hf
      refine g_aload_n C rfl (q := 0) rfl dX7_run_10 rfl ?_
      refine g_get C fc_X7 22 (by decide) wf_RX7_69 (wL_at0 rfl) rfl dX7_run_11 rfl ?_
      refine g_iload C (q := 6) rfl dX7_run_14 rfl ?_
      refine g_aload_n C rfl (q := 0) rfl dX7_run_16 rfl ?_
      refine g_get C fc_X7 19 (by decide) wf_RX7_60 (wL_at0 rfl) rfl dX7_run_17 rfl ?_
      refine g_iload_n C rfl (q := 3) rfl dX7_run_20 rfl ?_
      refine g_bipush (v := 18) C (by decide) dX7_run_21 rfl ?_
      refine g_imul C dX7_run_23 rfl ?_
      refine g_iload C (q := 6) rfl dX7_run_24 rfl ?_
      refine g_iadd C dX7_run_26 rfl ?_
      obtain ⟨g8, hf⟩ := gd hf
      refine g_iald C (wL_at 17 rfl) (inB_in g8) dX7_run_27 rfl ?_
      obtain ⟨g9, hf⟩ := gd hf
      refine g_iast (h' := (wMd σ a th set mir tgt shs shp pls pl tri asm tak pld cel pie nxt cho cbs cub sts stt frm by' (va_up wrk l6.toNatClampNeg (stt ((l3 * (18 : Int32)) + l6).toNatClampNeg)) oth mvs mov)) C (wL_at 20 rfl) (inB_in g9) (wL_up 20 (Nat.le_of_ble_eq_true rfl) rfl) dX7_run_28 rfl ?_
      refine g_iinc (v := l6 + (1 : Int32)) (lv' := [(6, .int (l6 + (1 : Int32))), (0, .ref a), (1, .int l1), (2, .int l2), (3, .int l3), (4, .int l4), (5, .int l5)]) (q := 6) C dX7_run_29 rfl rfl rfl (by rw [hKN]; decide) rfl ?_
      refine g_goto (pc' := 3) C dX7_run_32 (by decide) ?_
      refine g_sub (lv' := [(0, .ref a), (1, .int l1), (2, .int l2), (3, .int l3), (4, .int l4), (5, .int l5), (6, .int (l6 + (1 : Int32)))]) [1, 2, 3, 4, 5, 6, 0] rfl ?_
      exact ih _ _ _ hf hx
set_option maxHeartbeats 2000000 in
set_option maxRecDepth 20000 in
theorem g_X7_run_44 {K : KX} {n : Nat} {σ : AH} {a : Nat}  {l1 : Int32} {l2 : Int32} {l3 : Int32} {l4 : Int32} {l5 : Int32} {l6 : Int32} {th : Int32} {set : Nat → Int64} {mir : Nat → Int32} {tgt : Nat → Int32} {shs : Nat → Int32} {shp : Nat → Int64} {pls : Nat → Int32} {pl : Nat → Int64} {tri : Int32} {asm : Nat → Int64} {tak : Nat → Int64} {pld : Nat → Int32} {cel : Nat → Int32} {pie : Nat → Int32} {nxt : Nat → Int32} {cho : Nat → Int64} {cbs : Nat → Int32} {cub : Nat → Int32} {sts : Int32} {stt : Nat → Int32} {frm : Nat → Int32} {by' : Nat → Int32} {oth : Nat → Int32} {mvs : Int32} {mov : Nat → Int32} (C : Cx K RX7 "run" cX7_run (some .int)) (hKR : kR K = ({ frames := 3, cells := 0, slots := 0, locals := 73 } : Room)) (hKN : kN K = 9) : ∀ (fu : Nat) (l7 : Int32) (wrk : Nat → Int32) (res : (Nat → Int32)), f_X7_run_44 l4 l5 fu l7 wrk = some res → G K 0 0 109 [(0, .ref a), (1, .int l1), (2, .int l2), (3, .int l3), (4, .int l4), (5, .int l5), (6, .int l6)] [] (wMd σ a th set mir tgt shs shp pls pl tri asm tak pld cel pie nxt cho cbs cub sts stt frm by' res oth mvs mov) n → G K 0 0 44 [(0, .ref a), (1, .int l1), (2, .int l2), (3, .int l3), (4, .int l4), (5, .int l5), (6, .int l6), (7, .int l7)] [] (wMd σ a th set mir tgt shs shp pls pl tri asm tak pld cel pie nxt cho cbs cub sts stt frm by' wrk oth mvs mov) n := by
  intro fu
  induction fu with
  | zero =>
    intro l7 wrk res hf
    exact absurd hf (by simp [f_X7_run_44])
  | succ fu ih =>
    intro l7 wrk res hf hx
    rw [f_X7_run_44] at hf
    refine g_iload C (q := 7) rfl dX7_run_44 rfl ?_
    refine g_bipush (v := 6) C (by decide) dX7_run_46 rfl ?_
    refine g_icmp_ge (tgt := 109) C dX7_run_48 (by decide) rfl (fun c101 => ?_) (fun c101 => ?_)
    · replace hf := ift c101 hf
      obtain rfl := Option.some.inj hf
      refine g_sub (lv' := [(0, .ref a), (1, .int l1), (2, .int l2), (3, .int l3), (4, .int l4), (5, .int l5), (6, .int l6)]) [0, 1, 2, 3, 4, 5, 6] rfl ?_
      exact hx
    · replace hf := iff' c101 hf
      refine g_iload C (q := 4) rfl dX7_run_51 rfl ?_
      refine g_iload C (q := 7) rfl dX7_run_53 rfl ?_
      refine g_ishr C dX7_run_55 rfl ?_
      refine g_iconst (v := 1) C (by decide) dX7_run_56 rfl ?_
      refine g_iand C dX7_run_57 rfl ?_
      refine g_iconst (v := 1) C (by decide) dX7_run_58 rfl ?_
      refine g_icmp_ne (tgt := 103) C dX7_run_59 (by decide) rfl (fun c102 => ?_) (fun c102 => ?_)
      · replace hf := iff' c102 hf
        refine g_iinc (v := l7 + (1 : Int32)) (lv' := [(7, .int (l7 + (1 : Int32))), (0, .ref a), (1, .int l1), (2, .int l2), (3, .int l3), (4, .int l4), (5, .int l5), (6, .int l6)]) (q := 7) C dX7_run_103 rfl rfl rfl (by rw [hKN]; decide) rfl ?_
        refine g_goto (pc' := 44) C dX7_run_106 (by decide) ?_
        refine g_sub (lv' := [(0, .ref a), (1, .int l1), (2, .int l2), (3, .int l3), (4, .int l4), (5, .int l5), (6, .int l6), (7, .int (l7 + (1 : Int32)))]) [1, 2, 3, 4, 5, 6, 7, 0] rfl ?_
        exact ih _ _ _ hf hx
      · replace hf := ift c102 hf
        refine g_aload_n C rfl (q := 0) rfl dX7_run_62 rfl ?_
        refine g_get C fc_X7 22 (by decide) wf_RX7_69 (wL_at0 rfl) rfl dX7_run_63 rfl ?_
        refine g_iconst (v := 3) C (by decide) dX7_run_66 rfl ?_
        refine g_iload C (q := 7) rfl dX7_run_67 rfl ?_
        refine g_imul C dX7_run_69 rfl ?_
        refine g_iload C (q := 5) rfl dX7_run_70 rfl ?_
        refine g_iconst (v := 2) C (by decide) dX7_run_72 rfl ?_
        refine g_idiv C (by decide) dX7_run_73 rfl ?_
        refine g_iadd C dX7_run_74 rfl ?_
        refine g_aload_n C rfl (q := 0) rfl dX7_run_75 rfl ?_
        refine g_get C fc_X7 22 (by decide) wf_RX7_69 (wL_at0 rfl) rfl dX7_run_76 rfl ?_
        refine g_iconst (v := 3) C (by decide) dX7_run_79 rfl ?_
        refine g_iload C (q := 7) rfl dX7_run_80 rfl ?_
        refine g_imul C dX7_run_82 rfl ?_
        refine g_iload C (q := 5) rfl dX7_run_83 rfl ?_
        refine g_iconst (v := 2) C (by decide) dX7_run_85 rfl ?_
        refine g_idiv C (by decide) dX7_run_86 rfl ?_
        refine g_iadd C dX7_run_87 rfl ?_
        obtain ⟨g103, hf⟩ := gd hf
        refine g_iald C (wL_at 20 rfl) (inB_in g103) dX7_run_88 rfl ?_
        refine g_iload C (q := 5) rfl dX7_run_89 rfl ?_
        refine g_iconst (v := 2) C (by decide) dX7_run_91 rfl ?_
        refine g_irem C (by decide) dX7_run_92 rfl ?_
        have j105 : G K 0 0 101 [(0, .ref a), (1, .int l1), (2, .int l2), (3, .int l3), (4, .int l4), (5, .int l5), (6, .int l6), (7, .int l7)] [.int (if (l5 - l5 / (2 : Int32) * (2 : Int32)) = 0 then (1 : Int32) else (-1 : Int32)), .int (wrk (((3 : Int32) * l7) + (l5 / (2 : Int32))).toNatClampNeg), .int (((3 : Int32) * l7) + (l5 / (2 : Int32))), .ref (a + 20)] (wMd σ a th set mir tgt shs shp pls pl tri asm tak pld cel pie nxt cho cbs cub sts stt frm by' wrk oth mvs mov) n := by
          refine g_iadd C dX7_run_101 rfl ?_
          obtain ⟨g104, hf⟩ := gd hf
          refine g_iast (h' := (wMd σ a th set mir tgt shs shp pls pl tri asm tak pld cel pie nxt cho cbs cub sts stt frm by' (va_up wrk (((3 : Int32) * l7) + (l5 / (2 : Int32))).toNatClampNeg ((wrk (((3 : Int32) * l7) + (l5 / (2 : Int32))).toNatClampNeg) + (if (l5 - l5 / (2 : Int32) * (2 : Int32)) = 0 then (1 : Int32) else (-1 : Int32)))) oth mvs mov)) C (wL_at 20 rfl) (inB_in g104) (wL_up 20 (Nat.le_of_ble_eq_true rfl) rfl) dX7_run_102 rfl ?_
          refine g_iinc (v := l7 + (1 : Int32)) (lv' := [(7, .int (l7 + (1 : Int32))), (0, .ref a), (1, .int l1), (2, .int l2), (3, .int l3), (4, .int l4), (5, .int l5), (6, .int l6)]) (q := 7) C dX7_run_103 rfl rfl rfl (by rw [hKN]; decide) rfl ?_
          refine g_goto (pc' := 44) C dX7_run_106 (by decide) ?_
          refine g_sub (lv' := [(0, .ref a), (1, .int l1), (2, .int l2), (3, .int l3), (4, .int l4), (5, .int l5), (6, .int l6), (7, .int (l7 + (1 : Int32)))]) [1, 2, 3, 4, 5, 6, 7, 0] rfl ?_
          exact ih _ _ _ hf hx
        refine g_if_ne (tgt := 100) C dX7_run_93 (by decide) rfl (fun c106 => ?_) (fun c106 => ?_)
        · refine g_iconst (v := (-1)) C (by decide) dX7_run_100 rfl ?_
          exact g_topI (by rw [if_neg c106]) j105
        · refine g_iconst (v := 1) C (by decide) dX7_run_96 rfl ?_
          refine g_goto (pc' := 101) C dX7_run_97 (by decide) ?_
          exact g_topI (by rw [if_pos c106]) j105
set_option maxHeartbeats 2000000 in
set_option maxRecDepth 20000 in
theorem g_X7_run_185 {K : KX} {n : Nat} {σ : AH} {a : Nat}  {l1 : Int32} {l2 : Int32} {l3 : Int32} {l4 : Int32} {l5 : Int32} {l6 : Int32} {l7 : Int32} {th : Int32} {set : Nat → Int64} {mir : Nat → Int32} {tgt : Nat → Int32} {shs : Nat → Int32} {shp : Nat → Int64} {pls : Nat → Int32} {pl : Nat → Int64} {tri : Int32} {asm : Nat → Int64} {tak : Nat → Int64} {pld : Nat → Int32} {cel : Nat → Int32} {pie : Nat → Int32} {nxt : Nat → Int32} {cho : Nat → Int64} {cbs : Nat → Int32} {cub : Nat → Int32} {sts : Int32} {frm : Nat → Int32} {by' : Nat → Int32} {wrk : Nat → Int32} {oth : Nat → Int32} {mvs : Int32} {mov : Nat → Int32} (C : Cx K RX7 "run" cX7_run (some .int)) (hKR : kR K = ({ frames := 3, cells := 0, slots := 0, locals := 73 } : Room)) (hKN : kN K = 9) : ∀ (fu : Nat) (l8 : Int32) (stt : Nat → Int32) (res : (Nat → Int32)), f_X7_run_185 sts oth fu l8 stt = some res → G K 0 0 220 [(0, .ref a), (1, .int l1), (2, .int l2), (3, .int l3), (4, .int l4), (5, .int l5), (6, .int l6), (7, .int l7)] [] (wMd σ a th set mir tgt shs shp pls pl tri asm tak pld cel pie nxt cho cbs cub sts res frm by' wrk oth mvs mov) n → G K 0 0 185 [(0, .ref a), (1, .int l1), (2, .int l2), (3, .int l3), (4, .int l4), (5, .int l5), (6, .int l6), (7, .int l7), (8, .int l8)] [] (wMd σ a th set mir tgt shs shp pls pl tri asm tak pld cel pie nxt cho cbs cub sts stt frm by' wrk oth mvs mov) n := by
  intro fu
  induction fu with
  | zero =>
    intro l8 stt res hf
    exact absurd hf (by simp [f_X7_run_185])
  | succ fu ih =>
    intro l8 stt res hf hx
    rw [f_X7_run_185] at hf
    refine g_iload C (q := 8) rfl dX7_run_185 rfl ?_
    refine g_bipush (v := 18) C (by decide) dX7_run_187 rfl ?_
    refine g_icmp_ge (tgt := 220) C dX7_run_189 (by decide) rfl (fun c121 => ?_) (fun c121 => ?_)
    · replace hf := ift c121 hf
      obtain rfl := Option.some.inj hf
      refine g_sub (lv' := [(0, .ref a), (1, .int l1), (2, .int l2), (3, .int l3), (4, .int l4), (5, .int l5), (6, .int l6), (7, .int l7)]) [0, 1, 2, 3, 4, 5, 6, 7] rfl ?_
      exact hx
    · replace hf := iff' c121 hf
      refine g_aload_n C rfl (q := 0) rfl dX7_run_192 rfl ?_
      refine g_get C fc_X7 19 (by decide) wf_RX7_60 (wL_at0 rfl) rfl dX7_run_193 rfl ?_
      refine g_aload_n C rfl (q := 0) rfl dX7_run_196 rfl ?_
      refine g_get C fc_X7 18 (by decide) wf_RX7_157 (wL_at0 rfl) rfl dX7_run_197 rfl ?_
      refine g_bipush (v := 18) C (by decide) dX7_run_200 rfl ?_
      refine g_imul C dX7_run_202 rfl ?_
      refine g_iload C (q := 8) rfl dX7_run_203 rfl ?_
      refine g_iadd C dX7_run_205 rfl ?_
      refine g_aload_n C rfl (q := 0) rfl dX7_run_206 rfl ?_
      refine g_get C fc_X7 23 (by decide) wf_RX7_72 (wL_at0 rfl) rfl dX7_run_207 rfl ?_
      refine g_iload C (q := 8) rfl dX7_run_210 rfl ?_
      obtain ⟨g122, hf⟩ := gd hf
      refine g_iald C (wL_at 21 rfl) (inB_in g122) dX7_run_212 rfl ?_
      obtain ⟨g123, hf⟩ := gd hf
      refine g_iast (h' := (wMd σ a th set mir tgt shs shp pls pl tri asm tak pld cel pie nxt cho cbs cub sts (va_up stt ((sts * (18 : Int32)) + l8).toNatClampNeg (oth l8.toNatClampNeg)) frm by' wrk oth mvs mov)) C (wL_at 17 rfl) (inB_in g123) (wL_up 17 (Nat.le_of_ble_eq_true rfl) rfl) dX7_run_213 rfl ?_
      refine g_iinc (v := l8 + (1 : Int32)) (lv' := [(8, .int (l8 + (1 : Int32))), (0, .ref a), (1, .int l1), (2, .int l2), (3, .int l3), (4, .int l4), (5, .int l5), (6, .int l6), (7, .int l7)]) (q := 8) C dX7_run_214 rfl rfl rfl (by rw [hKN]; decide) rfl ?_
      refine g_goto (pc' := 185) C dX7_run_217 (by decide) ?_
      refine g_sub (lv' := [(0, .ref a), (1, .int l1), (2, .int l2), (3, .int l3), (4, .int l4), (5, .int l5), (6, .int l6), (7, .int l7), (8, .int (l8 + (1 : Int32)))]) [1, 2, 3, 4, 5, 6, 7, 8, 0] rfl ?_
      exact ih _ _ _ hf hx
set_option maxHeartbeats 2000000 in
set_option maxRecDepth 20000 in
theorem g_X7_run_38 {K : KX} {n : Nat} {σ : AH} {a : Nat}  {l1 : Int32} {l2 : Int32} {l3 : Int32} {l4 : Int32} {l5 : Int32} {th : Int32} {set : Nat → Int64} {mir : Nat → Int32} {tgt : Nat → Int32} {shs : Nat → Int32} {shp : Nat → Int64} {pls : Nat → Int32} {pl : Nat → Int64} {tri : Int32} {asm : Nat → Int64} {tak : Nat → Int64} {pld : Nat → Int32} {cel : Nat → Int32} {pie : Nat → Int32} {nxt : Nat → Int32} {cho : Nat → Int64} {cbs : Nat → Int32} {cub : Nat → Int32} {mvs : Int32} {mov : Nat → Int32} (C : Cx K RX7 "run" cX7_run (some .int)) (hKR : kR K = ({ frames := 3, cells := 0, slots := 0, locals := 73 } : Room)) (hKN : kN K = 9) : ∀ (fu : Nat) (l6 : Int32) (sts : Int32) (stt : Nat → Int32) (frm : Nat → Int32) (by' : Nat → Int32) (wrk : Nat → Int32) (oth : Nat → Int32) (res : ((Int32 × Int32 × (Nat → Int32) × (Nat → Int32) × (Nat → Int32) × (Nat → Int32) × (Nat → Int32) × Int32 × (Nat → Int32)) ⊕ (Int32 × (Nat → Int32) × (Nat → Int32) × (Nat → Int32) × (Nat → Int32) × (Nat → Int32)))), f_X7_run_38 l1 l2 l3 l4 l5 cbs cub mvs mov fu l6 sts stt frm by' wrk oth = some res → (∀ t, res = .inl t → KQ K 0 0 (some (.int t.1)) (wMd σ a th set mir tgt shs shp pls pl tri asm tak pld cel pie nxt cho cbs cub t.2.1 t.2.2.1 t.2.2.2.1 t.2.2.2.2.1 t.2.2.2.2.2.1 t.2.2.2.2.2.2.1 t.2.2.2.2.2.2.2.1 t.2.2.2.2.2.2.2.2) n) → (∀ t, res = .inr t → True) → G K 0 0 38 [(0, .ref a), (1, .int l1), (2, .int l2), (3, .int l3), (4, .int l4), (5, .int l5), (6, .int l6)] [] (wMd σ a th set mir tgt shs shp pls pl tri asm tak pld cel pie nxt cho cbs cub sts stt frm by' wrk oth mvs mov) n := by
  intro fu
  induction fu with
  | zero =>
    intro l6 sts stt frm by' wrk oth res hf
    exact absurd hf (by simp [f_X7_run_38])
  | succ fu ih =>
    intro l6 sts stt frm by' wrk oth res hf hret hx
    rw [f_X7_run_38] at hf
    refine g_iinc (v := l6 + (1 : Int32)) (lv' := [(6, .int (l6 + (1 : Int32))), (0, .ref a), (1, .int l1), (2, .int l2), (3, .int l3), (4, .int l4), (5, .int l5)]) (q := 6) C dX7_run_38 rfl rfl rfl (by rw [hKN]; decide) rfl ?_
    refine g_iconst (v := 0) C (by decide) dX7_run_41 rfl ?_
    refine g_istore (i := 7) (lv' := [(7, .int (0 : Int32)), (6, .int (l6 + (1 : Int32))), (0, .ref a), (1, .int l1), (2, .int l2), (3, .int l3), (4, .int l4), (5, .int l5)]) C dX7_run_42 rfl (by rw [hKN]; decide) rfl ?_
    refine g_sub (lv' := [(0, .ref a), (1, .int l1), (2, .int l2), (3, .int l3), (4, .int l4), (5, .int l5), (6, .int (l6 + (1 : Int32))), (7, .int (0 : Int32))]) [2, 3, 4, 5, 6, 7, 1, 0] rfl ?_
    obtain ⟨q107, hq107, hf⟩ := bd hf
    refine g_X7_run_44 (l1 := l1) (l2 := l2) (l3 := l3) (l4 := l4) (l5 := l5) (l6 := l6 + (1 : Int32)) (th := th) (set := set) (mir := mir) (tgt := tgt) (shs := shs) (shp := shp) (pls := pls) (pl := pl) (tri := tri) (asm := asm) (tak := tak) (pld := pld) (cel := cel) (pie := pie) (nxt := nxt) (cho := cho) (cbs := cbs) (cub := cub) (sts := sts) (stt := stt) (frm := frm) (by' := by') (oth := oth) (mvs := mvs) (mov := mov) C hKR hKN _ _ _ _ hq107 ?_
    refine g_aload_n C rfl (q := 0) rfl dX7_run_109 rfl ?_
    refine g_iload_n C rfl (q := 1) rfl dX7_run_110 rfl ?_
    refine g_iload C (q := 4) rfl dX7_run_111 rfl ?_
    obtain ⟨q108, hq108, hf⟩ := bd hf
    refine g_callV0 (st' := []) (as := [.int l1, .int l4]) (st2 := [.int q108]) (k := 2) C ⟨wm_RX7_167, wn_X7_hits, wv_X7_hits, wi_RX7, wk_X7_hits, by decide +kernel⟩ rfl (wL_at0 rfl) (c_X7_hits (l := kL K) (E := kE K)  _ hq108) (by rw [hKR]; exact ⟨rfl, rfl, ⟨by decide, by decide⟩, Nat.le_refl _, Nat.le_refl _⟩) rfl rfl (by simp) rfl dX7_run_113 rfl ?_
    refine g_if_eq (tgt := 121) C dX7_run_116 (by decide) rfl (fun c109 => ?_) (fun c109 => ?_)
    · replace hf := ift c109 hf
      refine g_sipush (v := 1000) C (by decide) dX7_run_121 rfl ?_
      refine g_iload C (q := 4) rfl dX7_run_124 rfl ?_
      refine g_imul C dX7_run_126 rfl ?_
      refine g_bipush (v := 100) C (by decide) dX7_run_127 rfl ?_
      refine g_iload C (q := 5) rfl dX7_run_129 rfl ?_
      refine g_imul C dX7_run_131 rfl ?_
      refine g_iadd C dX7_run_132 rfl ?_
      refine g_iload C (q := 6) rfl dX7_run_133 rfl ?_
      refine g_iadd C dX7_run_135 rfl ?_
      refine g_istore (i := 7) (lv' := [(7, .int ((((1000 : Int32) * l4) + ((100 : Int32) * l5)) + (l6 + (1 : Int32)))), (0, .ref a), (1, .int l1), (2, .int l2), (3, .int l3), (4, .int l4), (5, .int l5), (6, .int (l6 + (1 : Int32)))]) C dX7_run_136 rfl (by rw [hKN]; decide) rfl ?_
      refine g_aload_n C rfl (q := 1) rfl dX7_run_138 rfl ?_
      refine g_iload_n C rfl (q := 2) rfl dX7_run_139 rfl ?_
      refine g_iload C (q := 5) rfl dX7_run_140 rfl ?_
      obtain ⟨q110, hq110, hf⟩ := bd hf
      refine g_callV0 (st' := []) (as := [.int l1, .int l4]) (st2 := [.int q110]) (k := 2) C ⟨wm_RX7_170, wn_X7_isFree, wv_X7_isFree, wi_RX7, wk_X7_isFree, by decide +kernel⟩ rfl (wL_at0 rfl) (c_X7_isFree (l := kL K) (E := kE K)  _ hq110) (by rw [hKR]; exact ⟨rfl, rfl, ⟨by decide, by decide⟩, Nat.le_refl _, Nat.le_refl _⟩) rfl rfl (by simp) rfl dX7_run_142 rfl ?_
      refine g_if_eq (tgt := 160) C dX7_run_145 (by decide) rfl (fun c111 => ?_) (fun c111 => ?_)
      · replace hf := ift c111 hf
        refine g_aload_n C rfl (q := 1) rfl dX7_run_160 rfl ?_
        refine g_iload_n C rfl (q := 2) rfl dX7_run_161 rfl ?_
        obtain ⟨q112, hq112, hf⟩ := bd hf
        refine g_callV0 (st' := []) (as := [.int l1]) (st2 := [.int q112.1]) (k := 1) C ⟨wm_RX7_176, wn_X7_isKnown, wv_X7_isKnown, wi_RX7, wk_X7_isKnown, by decide +kernel⟩ rfl (wL_at0 rfl) (c_X7_isKnown (l := kL K) (E := kE K)  _ hq112) (by rw [hKR]; exact ⟨rfl, rfl, ⟨by decide, by decide⟩, Nat.le_refl _, Nat.le_refl _⟩) rfl rfl (by simp) rfl dX7_run_162 rfl ?_
        refine g_if_eq (tgt := 171) C dX7_run_165 (by decide) rfl (fun c113 => ?_) (fun c113 => ?_)
        · replace hf := ift c113 hf
          refine g_aload_n C rfl (q := 1) rfl dX7_run_171 rfl ?_
          refine g_get C fc_X7 18 (by decide) wf_RX7_157 (wL_at0 rfl) rfl dX7_run_172 rfl ?_
          refine g_iload_n C rfl (q := 3) rfl dX7_run_175 rfl ?_
          refine g_icmp_ne (tgt := 182) C dX7_run_176 (by decide) rfl (fun c114 => ?_) (fun c114 => ?_)
          · replace hf := iff' c114 hf
            refine g_iconst (v := 0) C (by decide) dX7_run_182 rfl ?_
            refine g_istore (i := 8) (lv' := [(8, .int (0 : Int32)), (7, .int ((((1000 : Int32) * l4) + ((100 : Int32) * l5)) + (l6 + (1 : Int32)))), (0, .ref a), (1, .int l1), (2, .int l2), (3, .int l3), (4, .int l4), (5, .int l5), (6, .int (l6 + (1 : Int32)))]) C dX7_run_183 rfl (by rw [hKN]; decide) rfl ?_
            refine g_sub (lv' := [(0, .ref a), (1, .int l1), (2, .int l2), (3, .int l3), (4, .int l4), (5, .int l5), (6, .int (l6 + (1 : Int32))), (7, .int ((((1000 : Int32) * l4) + ((100 : Int32) * l5)) + (l6 + (1 : Int32)))), (8, .int (0 : Int32))]) [2, 3, 4, 5, 6, 7, 8, 1, 0] rfl ?_
            obtain ⟨q124, hq124, hf⟩ := bd hf
            refine g_X7_run_185 (l1 := l1) (l2 := l2) (l3 := l3) (l4 := l4) (l5 := l5) (l6 := l6 + (1 : Int32)) (l7 := (((1000 : Int32) * l4) + ((100 : Int32) * l5)) + (l6 + (1 : Int32))) (th := th) (set := set) (mir := mir) (tgt := tgt) (shs := shs) (shp := shp) (pls := pls) (pl := pl) (tri := tri) (asm := asm) (tak := tak) (pld := pld) (cel := cel) (pie := pie) (nxt := nxt) (cho := cho) (cbs := cbs) (cub := cub) (sts := sts) (frm := frm) (by' := by') (wrk := q107) (oth := q112.2) (mvs := mvs) (mov := mov) C hKR hKN _ _ _ _ hq124 ?_
            refine g_aload_n C rfl (q := 0) rfl dX7_run_220 rfl ?_
            refine g_get C fc_X7 20 (by decide) wf_RX7_63 (wL_at0 rfl) rfl dX7_run_221 rfl ?_
            refine g_aload_n C rfl (q := 0) rfl dX7_run_224 rfl ?_
            refine g_get C fc_X7 18 (by decide) wf_RX7_157 (wL_at0 rfl) rfl dX7_run_225 rfl ?_
            refine g_iload_n C rfl (q := 3) rfl dX7_run_228 rfl ?_
            obtain ⟨g125, hf⟩ := gd hf
            refine g_iast (h' := (wMd σ a th set mir tgt shs shp pls pl tri asm tak pld cel pie nxt cho cbs cub sts q124 (va_up frm sts.toNatClampNeg l3) by' q107 q112.2 mvs mov)) C (wL_at 18 rfl) (inB_in g125) (wL_up 18 (Nat.le_of_ble_eq_true rfl) rfl) dX7_run_229 rfl ?_
            refine g_aload_n C rfl (q := 0) rfl dX7_run_230 rfl ?_
            refine g_get C fc_X7 21 (by decide) wf_RX7_66 (wL_at0 rfl) rfl dX7_run_231 rfl ?_
            refine g_aload_n C rfl (q := 0) rfl dX7_run_234 rfl ?_
            refine g_get C fc_X7 18 (by decide) wf_RX7_157 (wL_at0 rfl) rfl dX7_run_235 rfl ?_
            refine g_iload C (q := 7) rfl dX7_run_238 rfl ?_
            obtain ⟨g126, hf⟩ := gd hf
            refine g_iast (h' := (wMd σ a th set mir tgt shs shp pls pl tri asm tak pld cel pie nxt cho cbs cub sts q124 (va_up frm sts.toNatClampNeg l3) (va_up by' sts.toNatClampNeg ((((1000 : Int32) * l4) + ((100 : Int32) * l5)) + (l6 + (1 : Int32)))) q107 q112.2 mvs mov)) C (wL_at 19 rfl) (inB_in g126) (wL_up 19 (Nat.le_of_ble_eq_true rfl) rfl) dX7_run_240 rfl ?_
            refine g_aload_n C rfl (q := 0) rfl dX7_run_241 rfl ?_
            refine g_dup C rfl dX7_run_242 rfl ?_
            refine g_get C fc_X7 18 (by decide) wf_RX7_157 (wL_at0 rfl) rfl dX7_run_243 rfl ?_
            refine g_iconst (v := 1) C (by decide) dX7_run_246 rfl ?_
            refine g_iadd C dX7_run_247 rfl ?_
            refine g_put (h' := (wMd σ a th set mir tgt shs shp pls pl tri asm tak pld cel pie nxt cho cbs cub (sts + (1 : Int32)) q124 (va_up frm sts.toNatClampNeg l3) (va_up by' sts.toNatClampNeg ((((1000 : Int32) * l4) + ((100 : Int32) * l5)) + (l6 + (1 : Int32)))) q107 q112.2 mvs mov)) C fc_X7 18 (by decide) wf_RX7_157 rfl rfl rfl (Nat.le_of_ble_eq_true rfl) (wL_at0 rfl) (wL_up0 (Nat.le_of_ble_eq_true rfl) rfl) dX7_run_248 rfl ?_
            refine g_goto (pc' := 38) C dX7_run_251 (by decide) ?_
            refine g_sub (lv' := [(0, .ref a), (1, .int l1), (2, .int l2), (3, .int l3), (4, .int l4), (5, .int l5), (6, .int (l6 + (1 : Int32)))]) [0, 1, 2, 3, 4, 5, 6] rfl ?_
            exact ih _ _ _ _ _ _ _ _ hf hret hx
          · replace hf := ift c114 hf
            refine g_bipush (v := (-2)) C (by decide) dX7_run_179 rfl ?_
            obtain rfl := Option.some.inj hf
            exact g_iret C (hret ((-2 : Int32), sts, stt, frm, by', q107, q112.2, mvs, mov) rfl) dX7_run_181
        · replace hf := iff' c113 hf
          refine g_goto (pc' := 38) C dX7_run_168 (by decide) ?_
          refine g_sub (lv' := [(0, .ref a), (1, .int l1), (2, .int l2), (3, .int l3), (4, .int l4), (5, .int l5), (6, .int (l6 + (1 : Int32)))]) [1, 2, 3, 4, 5, 6, 7] rfl ?_
          exact ih _ _ _ _ _ _ _ _ hf hret hx
      · replace hf := iff' c111 hf
        refine g_aload_n C rfl (q := 1) rfl dX7_run_148 rfl ?_
        refine g_iload_n C rfl (q := 4) rfl dX7_run_149 rfl ?_
        refine g_iload C (q := 0) rfl dX7_run_150 rfl ?_
        obtain ⟨q127, hq127, hf⟩ := bd hf
        refine g_callV0 (st' := []) (as := [.int l3, .int ((((1000 : Int32) * l4) + ((100 : Int32) * l5)) + (l6 + (1 : Int32)))]) (st2 := []) (k := 2) C ⟨wm_RX7_173, wn_X7_finish, wv_X7_finish, wi_RX7, wk_X7_finish, by decide +kernel⟩ rfl (wL_at0 rfl) (c_X7_finish (l := kL K) (E := kE K)  _ hq127) (by rw [hKR]; exact ⟨rfl, rfl, ⟨by decide, by decide⟩, Nat.le_refl _, Nat.le_refl _⟩) rfl rfl (by simp) rfl dX7_run_152 rfl ?_
        refine g_aload_n C rfl (q := 1) rfl dX7_run_155 rfl ?_
        refine g_get C fc_X7 24 (by decide) wf_RX7_160 (wL_at0 rfl) rfl dX7_run_156 rfl ?_
        obtain rfl := Option.some.inj hf
        exact g_iret C (hret (q127.1, sts, stt, frm, by', q107, oth, q127.1, q127.2) rfl) dX7_run_159
    · replace hf := iff' c109 hf
      refine g_iconst (v := 0) C (by decide) dX7_run_119 rfl ?_
      obtain rfl := Option.some.inj hf
      exact g_iret C (hret ((0 : Int32), sts, stt, frm, by', q107, oth, mvs, mov) rfl) dX7_run_120
set_option maxHeartbeats 2000000 in
set_option maxRecDepth 20000 in
theorem c_X7_run {l : Launch} {E : Ex} {n : Nat} {σ : AH} {a : Nat}  {th : Int32} {set : Nat → Int64} {mir : Nat → Int32} {tgt : Nat → Int32} {shs : Nat → Int32} {shp : Nat → Int64} {pls : Nat → Int32} {pl : Nat → Int64} {tri : Int32} {asm : Nat → Int64} {tak : Nat → Int64} {pld : Nat → Int32} {cel : Nat → Int32} {pie : Nat → Int32} {nxt : Nat → Int32} {cho : Nat → Int64} {cbs : Nat → Int32} {cub : Nat → Int32} {sts : Int32} {stt : Nat → Int32} {frm : Nat → Int32} {by' : Nat → Int32} {wrk : Nat → Int32} {oth : Nat → Int32} {mvs : Int32} {mov : Nat → Int32} {part : Int32} {limit : Int32} {s : Int32} {group : Int32} {way : Int32} {fu : Nat} (res : (Int32 × Int32 × (Nat → Int32) × (Nat → Int32) × (Nat → Int32) × (Nat → Int32) × (Nat → Int32) × Int32 × (Nat → Int32))) (hf : f_X7_run fu cbs cub sts stt frm by' wrk oth mvs mov part limit s group way = some res) : Con l E yX7_run (.code yX7_run cX7_run 9 (some .int) :: TT) ({ frames := 3, cells := 0, slots := 0, locals := 73 } : Room) 0 0 [.ref a, .int part, .int limit, .int s, .int group, .int way] (wMd σ a th set mir tgt shs shp pls pl tri asm tak pld cel pie nxt cho cbs cub sts stt frm by' wrk oth mvs mov) n (some (.int res.1)) (wMd σ a th set mir tgt shs shp pls pl tri asm tak pld cel pie nxt cho cbs cub res.2.1 res.2.2.1 res.2.2.2.1 res.2.2.2.2.1 res.2.2.2.2.2.1 res.2.2.2.2.2.2.1 res.2.2.2.2.2.2.2.1 res.2.2.2.2.2.2.2.2) n := by
  refine con_intro (by decide +kernel) (Nat.le_of_ble_eq_true rfl) ?_
  intro K C hKR hKL hKE hKN hKQ
  subst hKL
  subst hKE
  have C : Cx K RX7 "run" cX7_run (some .int) := C
  show G K 0 0 0 [(0, .ref a), (1, .int part), (2, .int limit), (3, .int s), (4, .int group), (5, .int way)] [] (wMd σ a th set mir tgt shs shp pls pl tri asm tak pld cel pie nxt cho cbs cub sts stt frm by' wrk oth mvs mov) n
  unfold f_X7_run at hf
  refine g_iconst (v := 0) C (by decide) dX7_run_0 rfl ?_
  refine g_istore (i := 6) (lv' := [(6, .int (0 : Int32)), (0, .ref a), (1, .int part), (2, .int limit), (3, .int s), (4, .int group), (5, .int way)]) C dX7_run_1 rfl (by rw [hKN]; decide) rfl ?_
  refine g_sub (lv' := [(0, .ref a), (1, .int part), (2, .int limit), (3, .int s), (4, .int group), (5, .int way), (6, .int (0 : Int32))]) [1, 2, 3, 4, 5, 6, 0] rfl ?_
  obtain ⟨q10, hq10, hf⟩ := bd hf
  refine g_X7_run_3 (l1 := part) (l2 := limit) (l3 := s) (l4 := group) (l5 := way) (th := th) (set := set) (mir := mir) (tgt := tgt) (shs := shs) (shp := shp) (pls := pls) (pl := pl) (tri := tri) (asm := asm) (tak := tak) (pld := pld) (cel := cel) (pie := pie) (nxt := nxt) (cho := cho) (cbs := cbs) (cub := cub) (sts := sts) (stt := stt) (frm := frm) (by' := by') (oth := oth) (mvs := mvs) (mov := mov) C hKR hKN _ _ _ _ hq10 ?_
  refine g_iconst (v := 0) C (by decide) dX7_run_35 rfl ?_
  refine g_istore (i := 6) (lv' := [(6, .int (0 : Int32)), (0, .ref a), (1, .int part), (2, .int limit), (3, .int s), (4, .int group), (5, .int way)]) C dX7_run_36 rfl (by rw [hKN]; decide) rfl ?_
  refine g_sub (lv' := [(0, .ref a), (1, .int part), (2, .int limit), (3, .int s), (4, .int group), (5, .int way), (6, .int (0 : Int32))]) [1, 2, 3, 4, 5, 6, 0] rfl ?_
  obtain ⟨q128, hq128, hf1, hf2⟩ := sb hf
  refine g_X7_run_38 (l1 := part) (l2 := limit) (l3 := s) (l4 := group) (l5 := way) (th := th) (set := set) (mir := mir) (tgt := tgt) (shs := shs) (shp := shp) (pls := pls) (pl := pl) (tri := tri) (asm := asm) (tak := tak) (pld := pld) (cel := cel) (pie := pie) (nxt := nxt) (cho := cho) (cbs := cbs) (cub := cub) (mvs := mvs) (mov := mov) C hKR hKN _ _ _ _ _ _ _ _ q128 hq128 (fun t129 et129 => ?_) (fun t129 et129 => ?_)
  · obtain rfl := hf1 _ et129
    exact hKQ
  · exact absurd (hf2 _ et129) (by simp)
def f_X7_plan_33  (l1 : Int32) (asm : Nat → Int64) : Nat → Int32 → Int32 → Int32 → Option (Int32 × Int32)
  | 0, _, _, _ => none
  | fu + 1, l3, l4, l5 => (if (6 : Int32) ≤ l5 then some (l3, l4) else (if l3 = 0 then some (l3, l4) else (if ((l1 >>> (l5 &&& 31)) &&& (1 : Int32)) = 0 then f_X7_plan_33 l1 asm fu l3 l4 (l5 + (1 : Int32)) else (if inB l5 6 = true then f_X7_plan_33 l1 asm fu (if (asm l5.toNatClampNeg) = (0 : Int64) then (0 : Int32) else (1 : Int32)) (l4 + (1 : Int32)) (l5 + (1 : Int32)) else none))))
def f_X7_plan_128  (l5 : Int32) (asm : Nat → Int64) : Nat → Int32 → (Nat → Int32) → (Nat → Int32) → Option ((Nat → Int32) × (Nat → Int32))
  | 0, _, _, _ => none
  | fu + 1, l6, cbs, cub => (if (64 : Int32) ≤ l6 then some (cbs, cub) else (if inB l5 6 = true then ((f_X7_has (asm l5.toNatClampNeg) l6).bind fun q114 => (if q114 = 0 then f_X7_plan_128 l5 asm fu (l6 + (1 : Int32)) cbs cub else (if inB l5 6 = true then (if inB (((l5 * (10 : Int32)) + (cbs l5.toNatClampNeg)) * (3 : Int32)) 180 = true then (if inB ((((l5 * (10 : Int32)) + (cbs l5.toNatClampNeg)) * (3 : Int32)) + (1 : Int32)) 180 = true then (if inB ((((l5 * (10 : Int32)) + (cbs l5.toNatClampNeg)) * (3 : Int32)) + (2 : Int32)) 180 = true then (if inB l5 6 = true then (if inB l5 6 = true then f_X7_plan_128 l5 asm fu (l6 + (1 : Int32)) (va_up cbs l5.toNatClampNeg ((cbs l5.toNatClampNeg) + (1 : Int32))) (va_up (va_up (va_up cub (((l5 * (10 : Int32)) + (cbs l5.toNatClampNeg)) * (3 : Int32)).toNatClampNeg (l6 - l6 / (4 : Int32) * (4 : Int32))) ((((l5 * (10 : Int32)) + (cbs l5.toNatClampNeg)) * (3 : Int32)) + (1 : Int32)).toNatClampNeg ((l6 / (4 : Int32)) - (l6 / (4 : Int32)) / (4 : Int32) * (4 : Int32))) ((((l5 * (10 : Int32)) + (cbs l5.toNatClampNeg)) * (3 : Int32)) + (2 : Int32)).toNatClampNeg (l6 / (16 : Int32))) else none) else none) else none) else none) else none) else none))) else none))
def f_X7_plan_110  (asm : Nat → Int64) : Nat → Int32 → (Nat → Int32) → (Nat → Int32) → Option ((Nat → Int32) × (Nat → Int32))
  | 0, _, _, _ => none
  | fu + 1, l5, cbs, cub => (if (6 : Int32) ≤ l5 then some (cbs, cub) else (if inB l5 6 = true then ((f_X7_plan_128 l5 asm fu (0 : Int32) (va_up cbs l5.toNatClampNeg (0 : Int32)) cub).bind fun q122 => f_X7_plan_110 asm fu (l5 + (1 : Int32)) q122.1 q122.2) else none))
def f_X7_plan_246   : Nat → Int32 → (Nat → Int32) → Option (Nat → Int32)
  | 0, _, _ => none
  | fu + 1, l5, stt => (if (18 : Int32) ≤ l5 then some stt else (if inB l5 5400 = true then f_X7_plan_246  fu (l5 + (1 : Int32)) (va_up stt l5.toNatClampNeg (0 : Int32)) else none))
def f_X7_plan_310  (l1 : Int32) (l2 : Int32) (l5 : Int32) (l6 : Int32) (th : Int32) (cbs : Nat → Int32) (cub : Nat → Int32) : Nat → Int32 → Int32 → (Nat → Int32) → (Nat → Int32) → (Nat → Int32) → (Nat → Int32) → (Nat → Int32) → Int32 → (Nat → Int32) → Option ((Int32 × Int32 × (Nat → Int32) × (Nat → Int32) × Int32 × (Nat → Int32) × (Nat → Int32) × (Nat → Int32) × (Nat → Int32) × (Nat → Int32) × Int32 × (Nat → Int32)) ⊕ (Int32 × (Nat → Int32) × (Nat → Int32) × (Nat → Int32) × (Nat → Int32) × (Nat → Int32) × Int32 × (Nat → Int32)))
  | 0, _, _, _, _, _, _, _, _, _ => none
  | fu + 1, l7, sts, stt, frm, by', wrk, oth, mvs, mov => (if (6 : Int32) ≤ l7 then some (.inr (sts, stt, frm, by', wrk, oth, mvs, mov)) else ((f_X7_run fu cbs cub sts stt frm by' wrk oth mvs mov l1 l2 l5 l6 l7).bind fun q252 => (if q252.1 = 0 then f_X7_plan_310 l1 l2 l5 l6 th cbs cub fu (l7 + (1 : Int32)) q252.2.1 q252.2.2.1 q252.2.2.2.1 q252.2.2.2.2.1 q252.2.2.2.2.2.1 q252.2.2.2.2.2.2.1 q252.2.2.2.2.2.2.2.1 q252.2.2.2.2.2.2.2.2 else some (.inl (q252.1, th, cbs, cub, q252.2.1, q252.2.2.1, q252.2.2.2.1, q252.2.2.2.2.1, q252.2.2.2.2.2.1, q252.2.2.2.2.2.2.1, q252.2.2.2.2.2.2.2.1, q252.2.2.2.2.2.2.2.2)))))
def f_X7_plan_289  (l1 : Int32) (l2 : Int32) (l5 : Int32) (th : Int32) (cbs : Nat → Int32) (cub : Nat → Int32) : Nat → Int32 → Int32 → (Nat → Int32) → (Nat → Int32) → (Nat → Int32) → (Nat → Int32) → (Nat → Int32) → Int32 → (Nat → Int32) → Option ((Int32 × Int32 × (Nat → Int32) × (Nat → Int32) × Int32 × (Nat → Int32) × (Nat → Int32) × (Nat → Int32) × (Nat → Int32) × (Nat → Int32) × Int32 × (Nat → Int32)) ⊕ (Int32 × (Nat → Int32) × (Nat → Int32) × (Nat → Int32) × (Nat → Int32) × (Nat → Int32) × Int32 × (Nat → Int32)))
  | 0, _, _, _, _, _, _, _, _, _ => none
  | fu + 1, l6, sts, stt, frm, by', wrk, oth, mvs, mov => (if l1 ≤ l6 then some (.inr (sts, stt, frm, by', wrk, oth, mvs, mov)) else (if (l6 &&& (l1 ^^^ (-1 : Int32))) = 0 then (sumB (f_X7_plan_310 l1 l2 l5 l6 th cbs cub fu (0 : Int32) sts stt frm by' wrk oth mvs mov) Sum.inl fun t255 => f_X7_plan_289 l1 l2 l5 th cbs cub fu (l6 + (1 : Int32)) t255.1 t255.2.1 t255.2.2.1 t255.2.2.2.1 t255.2.2.2.2.1 t255.2.2.2.2.2.1 t255.2.2.2.2.2.2.1 t255.2.2.2.2.2.2.2) else f_X7_plan_289 l1 l2 l5 th cbs cub fu (l6 + (1 : Int32)) sts stt frm by' wrk oth mvs mov))
def f_X7_plan_277  (l1 : Int32) (l2 : Int32) (th : Int32) (cbs : Nat → Int32) (cub : Nat → Int32) : Nat → Int32 → Int32 → (Nat → Int32) → (Nat → Int32) → (Nat → Int32) → (Nat → Int32) → (Nat → Int32) → Int32 → (Nat → Int32) → Option ((Int32 × Int32 × (Nat → Int32) × (Nat → Int32) × Int32 × (Nat → Int32) × (Nat → Int32) × (Nat → Int32) × (Nat → Int32) × (Nat → Int32) × Int32 × (Nat → Int32)) ⊕ (Int32 × (Nat → Int32) × (Nat → Int32) × (Nat → Int32) × (Nat → Int32) × (Nat → Int32) × Int32 × (Nat → Int32)))
  | 0, _, _, _, _, _, _, _, _, _ => none
  | fu + 1, l5, sts, stt, frm, by', wrk, oth, mvs, mov => (if sts ≤ l5 then some (.inr (sts, stt, frm, by', wrk, oth, mvs, mov)) else (sumB (f_X7_plan_289 l1 l2 l5 th cbs cub fu (1 : Int32) sts stt frm by' wrk oth mvs mov) Sum.inl fun t257 => f_X7_plan_277 l1 l2 th cbs cub fu (l5 + (1 : Int32)) t257.1 t257.2.1 t257.2.2.1 t257.2.2.2.1 t257.2.2.2.2.1 t257.2.2.2.2.2.1 t257.2.2.2.2.2.2.1 t257.2.2.2.2.2.2.2))
def f_X7_plan (fu : Nat) (asm : Nat → Int64) (cbs : Nat → Int32) (cub : Nat → Int32) (sts : Int32) (stt : Nat → Int32) (frm : Nat → Int32) (by' : Nat → Int32) (wrk : Nat → Int32) (oth : Nat → Int32) (mvs : Int32) (mov : Nat → Int32) (part : Int32) (limit : Int32) : Option (Int32 × Int32 × (Nat → Int32) × (Nat → Int32) × Int32 × (Nat → Int32) × (Nat → Int32) × (Nat → Int32) × (Nat → Int32) × (Nat → Int32) × Int32 × (Nat → Int32)) := ((f_X7_in part (0 : Int32) (63 : Int32)).bind fun q1 => (if q1 = 0 then ((f_X7_plan_33 part asm fu (0 : Int32) (0 : Int32) (0 : Int32)).bind fun q21 => ((f_X7_says (if q21.1 = 0 then (0 : Int32) else (if q21.2 ≤ (1 : Int32) then (0 : Int32) else (1 : Int32)))).bind fun q22 => (if q22.1 = 0 then some ((0 : Int32), q22.2, cbs, cub, sts, stt, frm, by', wrk, oth, mvs, mov) else ((f_X7_plan_110 asm fu (0 : Int32) cbs cub).bind fun q123 => ((f_X7_plan_246  fu (0 : Int32) stt).bind fun q130 => (if inB (0 : Int32) 300 = true then (sumB (f_X7_plan_277 part limit q22.2 q123.1 q123.2 fu (0 : Int32) (1 : Int32) q130 (va_up frm (0 : Int32).toNatClampNeg (-1 : Int32)) by' wrk oth (0 : Int32) mov) id fun t259 => some ((-1 : Int32), q22.2, q123.1, q123.2, t259.1, t259.2.1, t259.2.2.1, t259.2.2.2.1, t259.2.2.2.2.1, t259.2.2.2.2.2.1, t259.2.2.2.2.2.2.1, t259.2.2.2.2.2.2.2)) else none)))))) else ((f_X7_in limit (1 : Int32) (300 : Int32)).bind fun q263 => ((f_X7_plan_33 part asm fu (if q263 = 0 then (0 : Int32) else (1 : Int32)) (0 : Int32) (0 : Int32)).bind fun q264 => ((f_X7_says (if q264.1 = 0 then (0 : Int32) else (if q264.2 ≤ (1 : Int32) then (0 : Int32) else (1 : Int32)))).bind fun q265 => (if q265.1 = 0 then some ((0 : Int32), q265.2, cbs, cub, sts, stt, frm, by', wrk, oth, mvs, mov) else ((f_X7_plan_110 asm fu (0 : Int32) cbs cub).bind fun q267 => ((f_X7_plan_246  fu (0 : Int32) stt).bind fun q268 => (if inB (0 : Int32) 300 = true then (sumB (f_X7_plan_277 part limit q265.2 q267.1 q267.2 fu (0 : Int32) (1 : Int32) q268 (va_up frm (0 : Int32).toNatClampNeg (-1 : Int32)) by' wrk oth (0 : Int32) mov) id fun t271 => some ((-1 : Int32), q265.2, q267.1, q267.2, t271.1, t271.2.1, t271.2.2.1, t271.2.2.2.1, t271.2.2.2.2.1, t271.2.2.2.2.2.1, t271.2.2.2.2.2.2.1, t271.2.2.2.2.2.2.2)) else none)))))))))
set_option maxHeartbeats 2000000 in
set_option maxRecDepth 20000 in
theorem g_X7_plan_33 {K : KX} {n : Nat} {σ : AH} {a : Nat}  {l1 : Int32} {l2 : Int32} {th : Int32} {set : Nat → Int64} {mir : Nat → Int32} {tgt : Nat → Int32} {shs : Nat → Int32} {shp : Nat → Int64} {pls : Nat → Int32} {pl : Nat → Int64} {tri : Int32} {asm : Nat → Int64} {tak : Nat → Int64} {pld : Nat → Int32} {cel : Nat → Int32} {pie : Nat → Int32} {nxt : Nat → Int32} {cho : Nat → Int64} {cbs : Nat → Int32} {cub : Nat → Int32} {sts : Int32} {stt : Nat → Int32} {frm : Nat → Int32} {by' : Nat → Int32} {wrk : Nat → Int32} {oth : Nat → Int32} {mvs : Int32} {mov : Nat → Int32} (C : Cx K RX7 "plan" cX7_plan (some .int)) (hKR : kR K = ({ frames := 4, cells := 0, slots := 0, locals := 101 } : Room)) (hKN : kN K = 9) : ∀ (fu : Nat) (l3 : Int32) (l4 : Int32) (l5 : Int32) (res : (Int32 × Int32)), f_X7_plan_33 l1 asm fu l3 l4 l5 = some res → G K 0 0 83 [(0, .ref a), (1, .int l1), (2, .int l2), (3, .int res.1), (4, .int res.2)] [] (wMd σ a th set mir tgt shs shp pls pl tri asm tak pld cel pie nxt cho cbs cub sts stt frm by' wrk oth mvs mov) n → G K 0 0 33 [(0, .ref a), (1, .int l1), (2, .int l2), (3, .int l3), (4, .int l4), (5, .int l5)] [] (wMd σ a th set mir tgt shs shp pls pl tri asm tak pld cel pie nxt cho cbs cub sts stt frm by' wrk oth mvs mov) n := by
  intro fu
  induction fu with
  | zero =>
    intro l3 l4 l5 res hf
    exact absurd hf (by simp [f_X7_plan_33])
  | succ fu ih =>
    intro l3 l4 l5 res hf hx
    rw [f_X7_plan_33] at hf
    refine g_iload C (q := 5) rfl dX7_plan_33 rfl ?_
    refine g_bipush (v := 6) C (by decide) dX7_plan_35 rfl ?_
    refine g_icmp_ge (tgt := 83) C dX7_plan_37 (by decide) rfl (fun c15 => ?_) (fun c15 => ?_)
    · replace hf := ift c15 hf
      obtain rfl := Option.some.inj hf
      refine g_sub (lv' := [(0, .ref a), (1, .int l1), (2, .int l2), (3, .int l3), (4, .int l4)]) [0, 1, 2, 3, 4] rfl ?_
      exact hx
    · replace hf := iff' c15 hf
      refine g_iload_n C rfl (q := 3) rfl dX7_plan_40 rfl ?_
      refine g_if_eq (tgt := 83) C dX7_plan_41 (by decide) rfl (fun c16 => ?_) (fun c16 => ?_)
      · replace hf := ift c16 hf
        obtain rfl := Option.some.inj hf
        refine g_sub (lv' := [(0, .ref a), (1, .int l1), (2, .int l2), (3, .int l3), (4, .int l4)]) [0, 1, 2, 3, 4] rfl ?_
        exact hx
      · replace hf := iff' c16 hf
        refine g_iload_n C rfl (q := 1) rfl dX7_plan_44 rfl ?_
        refine g_iload C (q := 5) rfl dX7_plan_45 rfl ?_
        refine g_ishr C dX7_plan_47 rfl ?_
        refine g_iconst (v := 1) C (by decide) dX7_plan_48 rfl ?_
        refine g_iand C dX7_plan_49 rfl ?_
        refine g_if_ne (tgt := 56) C dX7_plan_50 (by decide) rfl (fun c17 => ?_) (fun c17 => ?_)
        · replace hf := iff' c17 hf
          refine g_iinc (v := l4 + (1 : Int32)) (lv' := [(4, .int (l4 + (1 : Int32))), (0, .ref a), (1, .int l1), (2, .int l2), (3, .int l3), (5, .int l5)]) (q := 4) C dX7_plan_56 rfl rfl rfl (by rw [hKN]; decide) rfl ?_
          refine g_aload_n C rfl (q := 1) rfl dX7_plan_59 rfl ?_
          refine g_get C fc_X7 9 (by decide) wf_RX7_33 (wL_at0 rfl) rfl dX7_plan_60 rfl ?_
          refine g_iload C (q := 5) rfl dX7_plan_63 rfl ?_
          obtain ⟨g18, hf⟩ := gd hf
          refine g_lald C (wL_at 8 rfl) (inB_in g18) dX7_plan_65 rfl ?_
          refine g_lconst (v := 0) C (by decide) dX7_plan_66 rfl ?_
          have j19 : G K 0 0 76 [(4, .int (l4 + (1 : Int32))), (0, .ref a), (1, .int l1), (2, .int l2), (3, .int l3), (5, .int l5)] [.int (if (asm l5.toNatClampNeg) = (0 : Int64) then (0 : Int32) else (1 : Int32))] (wMd σ a th set mir tgt shs shp pls pl tri asm tak pld cel pie nxt cho cbs cub sts stt frm by' wrk oth mvs mov) n := by
            refine g_istore_n (i := 3) (lv' := [(3, .int (if (asm l5.toNatClampNeg) = (0 : Int64) then (0 : Int32) else (1 : Int32))), (4, .int (l4 + (1 : Int32))), (0, .ref a), (1, .int l1), (2, .int l2), (5, .int l5)]) C dX7_plan_76 rfl rfl (by rw [hKN]; decide) rfl ?_
            refine g_iinc (v := l5 + (1 : Int32)) (lv' := [(5, .int (l5 + (1 : Int32))), (3, .int (if (asm l5.toNatClampNeg) = (0 : Int64) then (0 : Int32) else (1 : Int32))), (4, .int (l4 + (1 : Int32))), (0, .ref a), (1, .int l1), (2, .int l2)]) (q := 5) C dX7_plan_77 rfl rfl rfl (by rw [hKN]; decide) rfl ?_
            refine g_goto (pc' := 33) C dX7_plan_80 (by decide) ?_
            refine g_sub (lv' := [(0, .ref a), (1, .int l1), (2, .int l2), (3, .int (if (asm l5.toNatClampNeg) = (0 : Int64) then (0 : Int32) else (1 : Int32))), (4, .int (l4 + (1 : Int32))), (5, .int (l5 + (1 : Int32)))]) [3, 4, 5, 1, 2, 0] rfl ?_
            exact ih _ _ _ _ hf hx
          refine g_lif_eq (tgt := 75) C dX7_plan_67 rfl dX7_plan_68 (by decide) rfl (fun c20 => ?_) (fun c20 => ?_)
          · refine g_iconst (v := 0) C (by decide) dX7_plan_75 rfl ?_
            exact g_topI (by rw [if_pos c20]) j19
          · refine g_iconst (v := 1) C (by decide) dX7_plan_71 rfl ?_
            refine g_goto (pc' := 76) C dX7_plan_72 (by decide) ?_
            exact g_topI (by rw [if_neg c20]) j19
        · replace hf := ift c17 hf
          refine g_goto (pc' := 77) C dX7_plan_53 (by decide) ?_
          refine g_iinc (v := l5 + (1 : Int32)) (lv' := [(5, .int (l5 + (1 : Int32))), (0, .ref a), (1, .int l1), (2, .int l2), (3, .int l3), (4, .int l4)]) (q := 5) C dX7_plan_77 rfl rfl rfl (by rw [hKN]; decide) rfl ?_
          refine g_goto (pc' := 33) C dX7_plan_80 (by decide) ?_
          refine g_sub (lv' := [(0, .ref a), (1, .int l1), (2, .int l2), (3, .int l3), (4, .int l4), (5, .int (l5 + (1 : Int32)))]) [1, 2, 3, 4, 5, 0] rfl ?_
          exact ih _ _ _ _ hf hx
set_option maxHeartbeats 2000000 in
set_option maxRecDepth 20000 in
theorem g_X7_plan_128 {K : KX} {n : Nat} {σ : AH} {a : Nat}  {l1 : Int32} {l2 : Int32} {l5 : Int32} {th : Int32} {set : Nat → Int64} {mir : Nat → Int32} {tgt : Nat → Int32} {shs : Nat → Int32} {shp : Nat → Int64} {pls : Nat → Int32} {pl : Nat → Int64} {tri : Int32} {asm : Nat → Int64} {tak : Nat → Int64} {pld : Nat → Int32} {cel : Nat → Int32} {pie : Nat → Int32} {nxt : Nat → Int32} {cho : Nat → Int64} {sts : Int32} {stt : Nat → Int32} {frm : Nat → Int32} {by' : Nat → Int32} {wrk : Nat → Int32} {oth : Nat → Int32} {mvs : Int32} {mov : Nat → Int32} (C : Cx K RX7 "plan" cX7_plan (some .int)) (hKR : kR K = ({ frames := 4, cells := 0, slots := 0, locals := 101 } : Room)) (hKN : kN K = 9) : ∀ (fu : Nat) (l6 : Int32) (cbs : Nat → Int32) (cub : Nat → Int32) (res : ((Nat → Int32) × (Nat → Int32))), f_X7_plan_128 l5 asm fu l6 cbs cub = some res → G K 0 0 227 [(0, .ref a), (1, .int l1), (2, .int l2), (5, .int l5)] [] (wMd σ a th set mir tgt shs shp pls pl tri asm tak pld cel pie nxt cho res.1 res.2 sts stt frm by' wrk oth mvs mov) n → G K 0 0 128 [(0, .ref a), (1, .int l1), (2, .int l2), (5, .int l5), (6, .int l6)] [] (wMd σ a th set mir tgt shs shp pls pl tri asm tak pld cel pie nxt cho cbs cub sts stt frm by' wrk oth mvs mov) n := by
  intro fu
  induction fu with
  | zero =>
    intro l6 cbs cub res hf
    exact absurd hf (by simp [f_X7_plan_128])
  | succ fu ih =>
    intro l6 cbs cub res hf hx
    rw [f_X7_plan_128] at hf
    refine g_iload C (q := 4) rfl dX7_plan_128 rfl ?_
    refine g_bipush (v := 64) C (by decide) dX7_plan_130 rfl ?_
    refine g_icmp_ge (tgt := 227) C dX7_plan_132 (by decide) rfl (fun c112 => ?_) (fun c112 => ?_)
    · replace hf := ift c112 hf
      obtain rfl := Option.some.inj hf
      refine g_sub (lv' := [(0, .ref a), (1, .int l1), (2, .int l2), (5, .int l5)]) [0, 1, 2, 3] rfl ?_
      exact hx
    · replace hf := iff' c112 hf
      refine g_aload_n C rfl (q := 0) rfl dX7_plan_135 rfl ?_
      refine g_get C fc_X7 9 (by decide) wf_RX7_33 (wL_at0 rfl) rfl dX7_plan_136 rfl ?_
      refine g_iload C (q := 3) rfl dX7_plan_139 rfl ?_
      obtain ⟨g113, hf⟩ := gd hf
      refine g_lald C (wL_at 8 rfl) (inB_in g113) dX7_plan_141 rfl ?_
      refine g_iload C (q := 4) rfl dX7_plan_142 rfl ?_
      obtain ⟨q114, hq114, hf⟩ := bd hf
      refine g_callS0 (st' := []) (as := [.long (asm l5.toNatClampNeg), .int l6]) (st2 := [.int q114]) (k := 2) C ⟨wm_RX7_82, ws_X7_has, wi_RX7, wk_X7_has, by decide +kernel⟩ (c_X7_has (l := kL K) (E := kE K)  _ hq114) (by rw [hKR]; exact ⟨rfl, rfl, ⟨by decide, by decide⟩, Nat.le_refl _, Nat.le_refl _⟩) rfl rfl (by simp) rfl dX7_plan_144 rfl ?_
      refine g_if_ne (tgt := 153) C dX7_plan_147 (by decide) rfl (fun c115 => ?_) (fun c115 => ?_)
      · replace hf := iff' c115 hf
        refine g_iload C (q := 3) rfl dX7_plan_153 rfl ?_
        refine g_bipush (v := 10) C (by decide) dX7_plan_155 rfl ?_
        refine g_imul C dX7_plan_157 rfl ?_
        refine g_aload_n C rfl (q := 0) rfl dX7_plan_158 rfl ?_
        refine g_get C fc_X7 16 (by decide) wf_RX7_54 (wL_at0 rfl) rfl dX7_plan_159 rfl ?_
        refine g_iload C (q := 3) rfl dX7_plan_162 rfl ?_
        obtain ⟨g116, hf⟩ := gd hf
        refine g_iald C (wL_at 15 rfl) (inB_in g116) dX7_plan_164 rfl ?_
        refine g_iadd C dX7_plan_165 rfl ?_
        refine g_iconst (v := 3) C (by decide) dX7_plan_166 rfl ?_
        refine g_imul C dX7_plan_167 rfl ?_
        refine g_istore (i := 7) (lv' := [(7, .int (((l5 * (10 : Int32)) + (cbs l5.toNatClampNeg)) * (3 : Int32))), (0, .ref a), (1, .int l1), (2, .int l2), (5, .int l5), (6, .int l6)]) C dX7_plan_168 rfl (by rw [hKN]; decide) rfl ?_
        refine g_aload_n C rfl (q := 1) rfl dX7_plan_170 rfl ?_
        refine g_get C fc_X7 17 (by decide) wf_RX7_57 (wL_at0 rfl) rfl dX7_plan_171 rfl ?_
        refine g_iload C (q := 0) rfl dX7_plan_174 rfl ?_
        refine g_iload C (q := 5) rfl dX7_plan_176 rfl ?_
        refine g_iconst (v := 4) C (by decide) dX7_plan_178 rfl ?_
        refine g_irem C (by decide) dX7_plan_179 rfl ?_
        obtain ⟨g117, hf⟩ := gd hf
        refine g_iast (h' := (wMd σ a th set mir tgt shs shp pls pl tri asm tak pld cel pie nxt cho cbs (va_up cub (((l5 * (10 : Int32)) + (cbs l5.toNatClampNeg)) * (3 : Int32)).toNatClampNeg (l6 - l6 / (4 : Int32) * (4 : Int32))) sts stt frm by' wrk oth mvs mov)) C (wL_at 16 rfl) (inB_in g117) (wL_up 16 (Nat.le_of_ble_eq_true rfl) rfl) dX7_plan_180 rfl ?_
        refine g_aload_n C rfl (q := 1) rfl dX7_plan_181 rfl ?_
        refine g_get C fc_X7 17 (by decide) wf_RX7_57 (wL_at0 rfl) rfl dX7_plan_182 rfl ?_
        refine g_iload C (q := 0) rfl dX7_plan_185 rfl ?_
        refine g_iconst (v := 1) C (by decide) dX7_plan_187 rfl ?_
        refine g_iadd C dX7_plan_188 rfl ?_
        refine g_iload C (q := 5) rfl dX7_plan_189 rfl ?_
        refine g_iconst (v := 4) C (by decide) dX7_plan_191 rfl ?_
        refine g_idiv C (by decide) dX7_plan_192 rfl ?_
        refine g_iconst (v := 4) C (by decide) dX7_plan_193 rfl ?_
        refine g_irem C (by decide) dX7_plan_194 rfl ?_
        obtain ⟨g118, hf⟩ := gd hf
        refine g_iast (h' := (wMd σ a th set mir tgt shs shp pls pl tri asm tak pld cel pie nxt cho cbs (va_up (va_up cub (((l5 * (10 : Int32)) + (cbs l5.toNatClampNeg)) * (3 : Int32)).toNatClampNeg (l6 - l6 / (4 : Int32) * (4 : Int32))) ((((l5 * (10 : Int32)) + (cbs l5.toNatClampNeg)) * (3 : Int32)) + (1 : Int32)).toNatClampNeg ((l6 / (4 : Int32)) - (l6 / (4 : Int32)) / (4 : Int32) * (4 : Int32))) sts stt frm by' wrk oth mvs mov)) C (wL_at 16 rfl) (inB_in g118) (wL_up 16 (Nat.le_of_ble_eq_true rfl) rfl) dX7_plan_195 rfl ?_
        refine g_aload_n C rfl (q := 1) rfl dX7_plan_196 rfl ?_
        refine g_get C fc_X7 17 (by decide) wf_RX7_57 (wL_at0 rfl) rfl dX7_plan_197 rfl ?_
        refine g_iload C (q := 0) rfl dX7_plan_200 rfl ?_
        refine g_iconst (v := 2) C (by decide) dX7_plan_202 rfl ?_
        refine g_iadd C dX7_plan_203 rfl ?_
        refine g_iload C (q := 5) rfl dX7_plan_204 rfl ?_
        refine g_bipush (v := 16) C (by decide) dX7_plan_206 rfl ?_
        refine g_idiv C (by decide) dX7_plan_208 rfl ?_
        obtain ⟨g119, hf⟩ := gd hf
        refine g_iast (h' := (wMd σ a th set mir tgt shs shp pls pl tri asm tak pld cel pie nxt cho cbs (va_up (va_up (va_up cub (((l5 * (10 : Int32)) + (cbs l5.toNatClampNeg)) * (3 : Int32)).toNatClampNeg (l6 - l6 / (4 : Int32) * (4 : Int32))) ((((l5 * (10 : Int32)) + (cbs l5.toNatClampNeg)) * (3 : Int32)) + (1 : Int32)).toNatClampNeg ((l6 / (4 : Int32)) - (l6 / (4 : Int32)) / (4 : Int32) * (4 : Int32))) ((((l5 * (10 : Int32)) + (cbs l5.toNatClampNeg)) * (3 : Int32)) + (2 : Int32)).toNatClampNeg (l6 / (16 : Int32))) sts stt frm by' wrk oth mvs mov)) C (wL_at 16 rfl) (inB_in g119) (wL_up 16 (Nat.le_of_ble_eq_true rfl) rfl) dX7_plan_209 rfl ?_
        refine g_aload_n C rfl (q := 1) rfl dX7_plan_210 rfl ?_
        refine g_get C fc_X7 16 (by decide) wf_RX7_54 (wL_at0 rfl) rfl dX7_plan_211 rfl ?_
        refine g_iload C (q := 4) rfl dX7_plan_214 rfl ?_
        refine g_dup2 C rfl rfl dX7_plan_216 rfl ?_
        obtain ⟨g120, hf⟩ := gd hf
        refine g_iald C (wL_at 15 rfl) (inB_in g120) dX7_plan_217 rfl ?_
        refine g_iconst (v := 1) C (by decide) dX7_plan_218 rfl ?_
        refine g_iadd C dX7_plan_219 rfl ?_
        obtain ⟨g121, hf⟩ := gd hf
        refine g_iast (h' := (wMd σ a th set mir tgt shs shp pls pl tri asm tak pld cel pie nxt cho (va_up cbs l5.toNatClampNeg ((cbs l5.toNatClampNeg) + (1 : Int32))) (va_up (va_up (va_up cub (((l5 * (10 : Int32)) + (cbs l5.toNatClampNeg)) * (3 : Int32)).toNatClampNeg (l6 - l6 / (4 : Int32) * (4 : Int32))) ((((l5 * (10 : Int32)) + (cbs l5.toNatClampNeg)) * (3 : Int32)) + (1 : Int32)).toNatClampNeg ((l6 / (4 : Int32)) - (l6 / (4 : Int32)) / (4 : Int32) * (4 : Int32))) ((((l5 * (10 : Int32)) + (cbs l5.toNatClampNeg)) * (3 : Int32)) + (2 : Int32)).toNatClampNeg (l6 / (16 : Int32))) sts stt frm by' wrk oth mvs mov)) C (wL_at 15 rfl) (inB_in g121) (wL_up 15 (Nat.le_of_ble_eq_true rfl) rfl) dX7_plan_220 rfl ?_
        refine g_iinc (v := l6 + (1 : Int32)) (lv' := [(6, .int (l6 + (1 : Int32))), (7, .int (((l5 * (10 : Int32)) + (cbs l5.toNatClampNeg)) * (3 : Int32))), (0, .ref a), (1, .int l1), (2, .int l2), (5, .int l5)]) (q := 5) C dX7_plan_221 rfl rfl rfl (by rw [hKN]; decide) rfl ?_
        refine g_goto (pc' := 128) C dX7_plan_224 (by decide) ?_
        refine g_sub (lv' := [(0, .ref a), (1, .int l1), (2, .int l2), (5, .int l5), (6, .int (l6 + (1 : Int32)))]) [2, 3, 4, 5, 0] rfl ?_
        exact ih _ _ _ _ hf hx
      · replace hf := ift c115 hf
        refine g_goto (pc' := 221) C dX7_plan_150 (by decide) ?_
        refine g_iinc (v := l6 + (1 : Int32)) (lv' := [(6, .int (l6 + (1 : Int32))), (0, .ref a), (1, .int l1), (2, .int l2), (5, .int l5)]) (q := 4) C dX7_plan_221 rfl rfl rfl (by rw [hKN]; decide) rfl ?_
        refine g_goto (pc' := 128) C dX7_plan_224 (by decide) ?_
        refine g_sub (lv' := [(0, .ref a), (1, .int l1), (2, .int l2), (5, .int l5), (6, .int (l6 + (1 : Int32)))]) [1, 2, 3, 4, 0] rfl ?_
        exact ih _ _ _ _ hf hx
set_option maxHeartbeats 2000000 in
set_option maxRecDepth 20000 in
theorem g_X7_plan_110 {K : KX} {n : Nat} {σ : AH} {a : Nat}  {l1 : Int32} {l2 : Int32} {th : Int32} {set : Nat → Int64} {mir : Nat → Int32} {tgt : Nat → Int32} {shs : Nat → Int32} {shp : Nat → Int64} {pls : Nat → Int32} {pl : Nat → Int64} {tri : Int32} {asm : Nat → Int64} {tak : Nat → Int64} {pld : Nat → Int32} {cel : Nat → Int32} {pie : Nat → Int32} {nxt : Nat → Int32} {cho : Nat → Int64} {sts : Int32} {stt : Nat → Int32} {frm : Nat → Int32} {by' : Nat → Int32} {wrk : Nat → Int32} {oth : Nat → Int32} {mvs : Int32} {mov : Nat → Int32} (C : Cx K RX7 "plan" cX7_plan (some .int)) (hKR : kR K = ({ frames := 4, cells := 0, slots := 0, locals := 101 } : Room)) (hKN : kN K = 9) : ∀ (fu : Nat) (l5 : Int32) (cbs : Nat → Int32) (cub : Nat → Int32) (res : ((Nat → Int32) × (Nat → Int32))), f_X7_plan_110 asm fu l5 cbs cub = some res → G K 0 0 233 [(0, .ref a), (1, .int l1), (2, .int l2)] [] (wMd σ a th set mir tgt shs shp pls pl tri asm tak pld cel pie nxt cho res.1 res.2 sts stt frm by' wrk oth mvs mov) n → G K 0 0 110 [(0, .ref a), (1, .int l1), (2, .int l2), (5, .int l5)] [] (wMd σ a th set mir tgt shs shp pls pl tri asm tak pld cel pie nxt cho cbs cub sts stt frm by' wrk oth mvs mov) n := by
  intro fu
  induction fu with
  | zero =>
    intro l5 cbs cub res hf
    exact absurd hf (by simp [f_X7_plan_110])
  | succ fu ih =>
    intro l5 cbs cub res hf hx
    rw [f_X7_plan_110] at hf
    refine g_iload C (q := 3) rfl dX7_plan_110 rfl ?_
    refine g_bipush (v := 6) C (by decide) dX7_plan_112 rfl ?_
    refine g_icmp_ge (tgt := 233) C dX7_plan_114 (by decide) rfl (fun c90 => ?_) (fun c90 => ?_)
    · replace hf := ift c90 hf
      obtain rfl := Option.some.inj hf
      refine g_sub (lv' := [(0, .ref a), (1, .int l1), (2, .int l2)]) [0, 1, 2] rfl ?_
      exact hx
    · replace hf := iff' c90 hf
      refine g_aload_n C rfl (q := 0) rfl dX7_plan_117 rfl ?_
      refine g_get C fc_X7 16 (by decide) wf_RX7_54 (wL_at0 rfl) rfl dX7_plan_118 rfl ?_
      refine g_iload C (q := 3) rfl dX7_plan_121 rfl ?_
      refine g_iconst (v := 0) C (by decide) dX7_plan_123 rfl ?_
      obtain ⟨g91, hf⟩ := gd hf
      refine g_iast (h' := (wMd σ a th set mir tgt shs shp pls pl tri asm tak pld cel pie nxt cho (va_up cbs l5.toNatClampNeg (0 : Int32)) cub sts stt frm by' wrk oth mvs mov)) C (wL_at 15 rfl) (inB_in g91) (wL_up 15 (Nat.le_of_ble_eq_true rfl) rfl) dX7_plan_124 rfl ?_
      refine g_iconst (v := 0) C (by decide) dX7_plan_125 rfl ?_
      refine g_istore (i := 6) (lv' := [(6, .int (0 : Int32)), (0, .ref a), (1, .int l1), (2, .int l2), (5, .int l5)]) C dX7_plan_126 rfl (by rw [hKN]; decide) rfl ?_
      refine g_sub (lv' := [(0, .ref a), (1, .int l1), (2, .int l2), (5, .int l5), (6, .int (0 : Int32))]) [1, 2, 3, 4, 0] rfl ?_
      obtain ⟨q122, hq122, hf⟩ := bd hf
      refine g_X7_plan_128 (l1 := l1) (l2 := l2) (l5 := l5) (th := th) (set := set) (mir := mir) (tgt := tgt) (shs := shs) (shp := shp) (pls := pls) (pl := pl) (tri := tri) (asm := asm) (tak := tak) (pld := pld) (cel := cel) (pie := pie) (nxt := nxt) (cho := cho) (sts := sts) (stt := stt) (frm := frm) (by' := by') (wrk := wrk) (oth := oth) (mvs := mvs) (mov := mov) C hKR hKN _ _ _ _ _ hq122 ?_
      refine g_iinc (v := l5 + (1 : Int32)) (lv' := [(5, .int (l5 + (1 : Int32))), (0, .ref a), (1, .int l1), (2, .int l2)]) (q := 3) C dX7_plan_227 rfl rfl rfl (by rw [hKN]; decide) rfl ?_
      refine g_goto (pc' := 110) C dX7_plan_230 (by decide) ?_
      refine g_sub (lv' := [(0, .ref a), (1, .int l1), (2, .int l2), (5, .int (l5 + (1 : Int32)))]) [1, 2, 3, 0] rfl ?_
      exact ih _ _ _ _ hf hx
set_option maxHeartbeats 2000000 in
set_option maxRecDepth 20000 in
theorem g_X7_plan_246 {K : KX} {n : Nat} {σ : AH} {a : Nat}  {l1 : Int32} {l2 : Int32} {th : Int32} {set : Nat → Int64} {mir : Nat → Int32} {tgt : Nat → Int32} {shs : Nat → Int32} {shp : Nat → Int64} {pls : Nat → Int32} {pl : Nat → Int64} {tri : Int32} {asm : Nat → Int64} {tak : Nat → Int64} {pld : Nat → Int32} {cel : Nat → Int32} {pie : Nat → Int32} {nxt : Nat → Int32} {cho : Nat → Int64} {cbs : Nat → Int32} {cub : Nat → Int32} {sts : Int32} {frm : Nat → Int32} {by' : Nat → Int32} {wrk : Nat → Int32} {oth : Nat → Int32} {mvs : Int32} {mov : Nat → Int32} (C : Cx K RX7 "plan" cX7_plan (some .int)) (hKR : kR K = ({ frames := 4, cells := 0, slots := 0, locals := 101 } : Room)) (hKN : kN K = 9) : ∀ (fu : Nat) (l5 : Int32) (stt : Nat → Int32) (res : (Nat → Int32)), f_X7_plan_246  fu l5 stt = some res → G K 0 0 267 [(0, .ref a), (1, .int l1), (2, .int l2)] [] (wMd σ a th set mir tgt shs shp pls pl tri asm tak pld cel pie nxt cho cbs cub sts res frm by' wrk oth mvs mov) n → G K 0 0 246 [(0, .ref a), (1, .int l1), (2, .int l2), (5, .int l5)] [] (wMd σ a th set mir tgt shs shp pls pl tri asm tak pld cel pie nxt cho cbs cub sts stt frm by' wrk oth mvs mov) n := by
  intro fu
  induction fu with
  | zero =>
    intro l5 stt res hf
    exact absurd hf (by simp [f_X7_plan_246])
  | succ fu ih =>
    intro l5 stt res hf hx
    rw [f_X7_plan_246] at hf
    refine g_iload C (q := 3) rfl dX7_plan_246 rfl ?_
    refine g_bipush (v := 18) C (by decide) dX7_plan_248 rfl ?_
    refine g_icmp_ge (tgt := 267) C dX7_plan_250 (by decide) rfl (fun c128 => ?_) (fun c128 => ?_)
    · replace hf := ift c128 hf
      obtain rfl := Option.some.inj hf
      refine g_sub (lv' := [(0, .ref a), (1, .int l1), (2, .int l2)]) [0, 1, 2] rfl ?_
      exact hx
    · replace hf := iff' c128 hf
      refine g_aload_n C rfl (q := 0) rfl dX7_plan_253 rfl ?_
      refine g_get C fc_X7 19 (by decide) wf_RX7_60 (wL_at0 rfl) rfl dX7_plan_254 rfl ?_
      refine g_iload C (q := 3) rfl dX7_plan_257 rfl ?_
      refine g_iconst (v := 0) C (by decide) dX7_plan_259 rfl ?_
      obtain ⟨g129, hf⟩ := gd hf
      refine g_iast (h' := (wMd σ a th set mir tgt shs shp pls pl tri asm tak pld cel pie nxt cho cbs cub sts (va_up stt l5.toNatClampNeg (0 : Int32)) frm by' wrk oth mvs mov)) C (wL_at 17 rfl) (inB_in g129) (wL_up 17 (Nat.le_of_ble_eq_true rfl) rfl) dX7_plan_260 rfl ?_
      refine g_iinc (v := l5 + (1 : Int32)) (lv' := [(5, .int (l5 + (1 : Int32))), (0, .ref a), (1, .int l1), (2, .int l2)]) (q := 3) C dX7_plan_261 rfl rfl rfl (by rw [hKN]; decide) rfl ?_
      refine g_goto (pc' := 246) C dX7_plan_264 (by decide) ?_
      refine g_sub (lv' := [(0, .ref a), (1, .int l1), (2, .int l2), (5, .int (l5 + (1 : Int32)))]) [1, 2, 3, 0] rfl ?_
      exact ih _ _ _ hf hx
set_option maxHeartbeats 2000000 in
set_option maxRecDepth 20000 in
theorem g_X7_plan_310 {K : KX} {n : Nat} {σ : AH} {a : Nat}  {l1 : Int32} {l2 : Int32} {l5 : Int32} {l6 : Int32} {th : Int32} {set : Nat → Int64} {mir : Nat → Int32} {tgt : Nat → Int32} {shs : Nat → Int32} {shp : Nat → Int64} {pls : Nat → Int32} {pl : Nat → Int64} {tri : Int32} {asm : Nat → Int64} {tak : Nat → Int64} {pld : Nat → Int32} {cel : Nat → Int32} {pie : Nat → Int32} {nxt : Nat → Int32} {cho : Nat → Int64} {cbs : Nat → Int32} {cub : Nat → Int32} (C : Cx K RX7 "plan" cX7_plan (some .int)) (hKR : kR K = ({ frames := 4, cells := 0, slots := 0, locals := 101 } : Room)) (hKN : kN K = 9) : ∀ (fu : Nat) (l7 : Int32) (sts : Int32) (stt : Nat → Int32) (frm : Nat → Int32) (by' : Nat → Int32) (wrk : Nat → Int32) (oth : Nat → Int32) (mvs : Int32) (mov : Nat → Int32) (res : ((Int32 × Int32 × (Nat → Int32) × (Nat → Int32) × Int32 × (Nat → Int32) × (Nat → Int32) × (Nat → Int32) × (Nat → Int32) × (Nat → Int32) × Int32 × (Nat → Int32)) ⊕ (Int32 × (Nat → Int32) × (Nat → Int32) × (Nat → Int32) × (Nat → Int32) × (Nat → Int32) × Int32 × (Nat → Int32)))), f_X7_plan_310 l1 l2 l5 l6 th cbs cub fu l7 sts stt frm by' wrk oth mvs mov = some res → (∀ t, res = .inl t → KQ K 0 0 (some (.int t.1)) (wMd σ a t.2.1 set mir tgt shs shp pls pl tri asm tak pld cel pie nxt cho t.2.2.1 t.2.2.2.1 t.2.2.2.2.1 t.2.2.2.2.2.1 t.2.2.2.2.2.2.1 t.2.2.2.2.2.2.2.1 t.2.2.2.2.2.2.2.2.1 t.2.2.2.2.2.2.2.2.2.1 t.2.2.2.2.2.2.2.2.2.2.1 t.2.2.2.2.2.2.2.2.2.2.2) n) → (∀ t, res = .inr t → G K 0 0 345 [(0, .ref a), (1, .int l1), (2, .int l2), (5, .int l5), (6, .int l6)] [] (wMd σ a th set mir tgt shs shp pls pl tri asm tak pld cel pie nxt cho cbs cub t.1 t.2.1 t.2.2.1 t.2.2.2.1 t.2.2.2.2.1 t.2.2.2.2.2.1 t.2.2.2.2.2.2.1 t.2.2.2.2.2.2.2) n) → G K 0 0 310 [(0, .ref a), (1, .int l1), (2, .int l2), (5, .int l5), (6, .int l6), (7, .int l7)] [] (wMd σ a th set mir tgt shs shp pls pl tri asm tak pld cel pie nxt cho cbs cub sts stt frm by' wrk oth mvs mov) n := by
  intro fu
  induction fu with
  | zero =>
    intro l7 sts stt frm by' wrk oth mvs mov res hf
    exact absurd hf (by simp [f_X7_plan_310])
  | succ fu ih =>
    intro l7 sts stt frm by' wrk oth mvs mov res hf hret hx
    rw [f_X7_plan_310] at hf
    refine g_iload C (q := 5) rfl dX7_plan_310 rfl ?_
    refine g_bipush (v := 6) C (by decide) dX7_plan_312 rfl ?_
    refine g_icmp_ge (tgt := 345) C dX7_plan_314 (by decide) rfl (fun c251 => ?_) (fun c251 => ?_)
    · replace hf := ift c251 hf
      obtain rfl := Option.some.inj hf
      refine g_sub (lv' := [(0, .ref a), (1, .int l1), (2, .int l2), (5, .int l5), (6, .int l6)]) [0, 1, 2, 3, 4] rfl ?_
      exact hx (sts, stt, frm, by', wrk, oth, mvs, mov) rfl
    · replace hf := iff' c251 hf
      refine g_aload_n C rfl (q := 0) rfl dX7_plan_317 rfl ?_
      refine g_iload_n C rfl (q := 1) rfl dX7_plan_318 rfl ?_
      refine g_iload_n C rfl (q := 2) rfl dX7_plan_319 rfl ?_
      refine g_iload C (q := 3) rfl dX7_plan_320 rfl ?_
      refine g_iload C (q := 4) rfl dX7_plan_322 rfl ?_
      refine g_iload C (q := 5) rfl dX7_plan_324 rfl ?_
      obtain ⟨q252, hq252, hf⟩ := bd hf
      refine g_callV0 (st' := []) (as := [.int l1, .int l2, .int l5, .int l6, .int l7]) (st2 := [.int q252.1]) (k := 5) C ⟨wm_RX7_163, wn_X7_run, wv_X7_run, wi_RX7, wk_X7_run, by decide +kernel⟩ rfl (wL_at0 rfl) (c_X7_run (l := kL K) (E := kE K)  _ hq252) (by rw [hKR]; exact ⟨rfl, rfl, ⟨by decide, by decide⟩, Nat.le_refl _, Nat.le_refl _⟩) rfl rfl (by simp) rfl dX7_plan_326 rfl ?_
      refine g_istore (i := 8) (lv' := [(8, .int q252.1), (0, .ref a), (1, .int l1), (2, .int l2), (5, .int l5), (6, .int l6), (7, .int l7)]) C dX7_plan_329 rfl (by rw [hKN]; decide) rfl ?_
      refine g_iload C (q := 0) rfl dX7_plan_331 rfl ?_
      refine g_if_eq (tgt := 339) C dX7_plan_333 (by decide) rfl (fun c253 => ?_) (fun c253 => ?_)
      · replace hf := ift c253 hf
        refine g_iinc (v := l7 + (1 : Int32)) (lv' := [(7, .int (l7 + (1 : Int32))), (8, .int q252.1), (0, .ref a), (1, .int l1), (2, .int l2), (5, .int l5), (6, .int l6)]) (q := 6) C dX7_plan_339 rfl rfl rfl (by rw [hKN]; decide) rfl ?_
        refine g_goto (pc' := 310) C dX7_plan_342 (by decide) ?_
        refine g_sub (lv' := [(0, .ref a), (1, .int l1), (2, .int l2), (5, .int l5), (6, .int l6), (7, .int (l7 + (1 : Int32)))]) [2, 3, 4, 5, 6, 0] rfl ?_
        exact ih _ _ _ _ _ _ _ _ _ _ hf hret hx
      · replace hf := iff' c253 hf
        refine g_iload C (q := 0) rfl dX7_plan_336 rfl ?_
        obtain rfl := Option.some.inj hf
        exact g_iret C (hret (q252.1, th, cbs, cub, q252.2.1, q252.2.2.1, q252.2.2.2.1, q252.2.2.2.2.1, q252.2.2.2.2.2.1, q252.2.2.2.2.2.2.1, q252.2.2.2.2.2.2.2.1, q252.2.2.2.2.2.2.2.2) rfl) dX7_plan_338
set_option maxHeartbeats 2000000 in
set_option maxRecDepth 20000 in
theorem g_X7_plan_289 {K : KX} {n : Nat} {σ : AH} {a : Nat}  {l1 : Int32} {l2 : Int32} {l5 : Int32} {th : Int32} {set : Nat → Int64} {mir : Nat → Int32} {tgt : Nat → Int32} {shs : Nat → Int32} {shp : Nat → Int64} {pls : Nat → Int32} {pl : Nat → Int64} {tri : Int32} {asm : Nat → Int64} {tak : Nat → Int64} {pld : Nat → Int32} {cel : Nat → Int32} {pie : Nat → Int32} {nxt : Nat → Int32} {cho : Nat → Int64} {cbs : Nat → Int32} {cub : Nat → Int32} (C : Cx K RX7 "plan" cX7_plan (some .int)) (hKR : kR K = ({ frames := 4, cells := 0, slots := 0, locals := 101 } : Room)) (hKN : kN K = 9) : ∀ (fu : Nat) (l6 : Int32) (sts : Int32) (stt : Nat → Int32) (frm : Nat → Int32) (by' : Nat → Int32) (wrk : Nat → Int32) (oth : Nat → Int32) (mvs : Int32) (mov : Nat → Int32) (res : ((Int32 × Int32 × (Nat → Int32) × (Nat → Int32) × Int32 × (Nat → Int32) × (Nat → Int32) × (Nat → Int32) × (Nat → Int32) × (Nat → Int32) × Int32 × (Nat → Int32)) ⊕ (Int32 × (Nat → Int32) × (Nat → Int32) × (Nat → Int32) × (Nat → Int32) × (Nat → Int32) × Int32 × (Nat → Int32)))), f_X7_plan_289 l1 l2 l5 th cbs cub fu l6 sts stt frm by' wrk oth mvs mov = some res → (∀ t, res = .inl t → KQ K 0 0 (some (.int t.1)) (wMd σ a t.2.1 set mir tgt shs shp pls pl tri asm tak pld cel pie nxt cho t.2.2.1 t.2.2.2.1 t.2.2.2.2.1 t.2.2.2.2.2.1 t.2.2.2.2.2.2.1 t.2.2.2.2.2.2.2.1 t.2.2.2.2.2.2.2.2.1 t.2.2.2.2.2.2.2.2.2.1 t.2.2.2.2.2.2.2.2.2.2.1 t.2.2.2.2.2.2.2.2.2.2.2) n) → (∀ t, res = .inr t → G K 0 0 351 [(0, .ref a), (1, .int l1), (2, .int l2), (5, .int l5)] [] (wMd σ a th set mir tgt shs shp pls pl tri asm tak pld cel pie nxt cho cbs cub t.1 t.2.1 t.2.2.1 t.2.2.2.1 t.2.2.2.2.1 t.2.2.2.2.2.1 t.2.2.2.2.2.2.1 t.2.2.2.2.2.2.2) n) → G K 0 0 289 [(0, .ref a), (1, .int l1), (2, .int l2), (5, .int l5), (6, .int l6)] [] (wMd σ a th set mir tgt shs shp pls pl tri asm tak pld cel pie nxt cho cbs cub sts stt frm by' wrk oth mvs mov) n := by
  intro fu
  induction fu with
  | zero =>
    intro l6 sts stt frm by' wrk oth mvs mov res hf
    exact absurd hf (by simp [f_X7_plan_289])
  | succ fu ih =>
    intro l6 sts stt frm by' wrk oth mvs mov res hf hret hx
    rw [f_X7_plan_289] at hf
    refine g_iload C (q := 4) rfl dX7_plan_289 rfl ?_
    refine g_iload_n C rfl (q := 1) rfl dX7_plan_291 rfl ?_
    refine g_icmp_ge (tgt := 351) C dX7_plan_292 (by decide) rfl (fun c243 => ?_) (fun c243 => ?_)
    · replace hf := ift c243 hf
      obtain rfl := Option.some.inj hf
      refine g_sub (lv' := [(0, .ref a), (1, .int l1), (2, .int l2), (5, .int l5)]) [0, 1, 2, 3] rfl ?_
      exact hx (sts, stt, frm, by', wrk, oth, mvs, mov) rfl
    · replace hf := iff' c243 hf
      refine g_iload C (q := 4) rfl dX7_plan_295 rfl ?_
      refine g_iload_n C rfl (q := 1) rfl dX7_plan_297 rfl ?_
      refine g_iconst (v := (-1)) C (by decide) dX7_plan_298 rfl ?_
      refine g_ixor C dX7_plan_299 rfl ?_
      refine g_iand C dX7_plan_300 rfl ?_
      refine g_if_eq (tgt := 307) C dX7_plan_301 (by decide) rfl (fun c244 => ?_) (fun c244 => ?_)
      · replace hf := ift c244 hf
        refine g_iconst (v := 0) C (by decide) dX7_plan_307 rfl ?_
        refine g_istore (i := 7) (lv' := [(7, .int (0 : Int32)), (0, .ref a), (1, .int l1), (2, .int l2), (5, .int l5), (6, .int l6)]) C dX7_plan_308 rfl (by rw [hKN]; decide) rfl ?_
        refine g_sub (lv' := [(0, .ref a), (1, .int l1), (2, .int l2), (5, .int l5), (6, .int l6), (7, .int (0 : Int32))]) [1, 2, 3, 4, 5, 0] rfl ?_
        obtain ⟨q254, hq254, hf1, hf2⟩ := sb hf
        refine g_X7_plan_310 (l1 := l1) (l2 := l2) (l5 := l5) (l6 := l6) (th := th) (set := set) (mir := mir) (tgt := tgt) (shs := shs) (shp := shp) (pls := pls) (pl := pl) (tri := tri) (asm := asm) (tak := tak) (pld := pld) (cel := cel) (pie := pie) (nxt := nxt) (cho := cho) (cbs := cbs) (cub := cub) C hKR hKN _ _ _ _ _ _ _ _ _ _ q254 hq254 (fun t255 et255 => ?_) (fun t255 et255 => ?_)
        · obtain rfl := hf1 _ et255
          exact (hret t255 rfl)
        · have hf := hf2 _ et255
          refine g_iinc (v := l6 + (1 : Int32)) (lv' := [(6, .int (l6 + (1 : Int32))), (0, .ref a), (1, .int l1), (2, .int l2), (5, .int l5)]) (q := 4) C dX7_plan_345 rfl rfl rfl (by rw [hKN]; decide) rfl ?_
          refine g_goto (pc' := 289) C dX7_plan_348 (by decide) ?_
          refine g_sub (lv' := [(0, .ref a), (1, .int l1), (2, .int l2), (5, .int l5), (6, .int (l6 + (1 : Int32)))]) [1, 2, 3, 4, 0] rfl ?_
          exact ih _ _ _ _ _ _ _ _ _ _ hf hret hx
      · replace hf := iff' c244 hf
        refine g_goto (pc' := 345) C dX7_plan_304 (by decide) ?_
        refine g_iinc (v := l6 + (1 : Int32)) (lv' := [(6, .int (l6 + (1 : Int32))), (0, .ref a), (1, .int l1), (2, .int l2), (5, .int l5)]) (q := 4) C dX7_plan_345 rfl rfl rfl (by rw [hKN]; decide) rfl ?_
        refine g_goto (pc' := 289) C dX7_plan_348 (by decide) ?_
        refine g_sub (lv' := [(0, .ref a), (1, .int l1), (2, .int l2), (5, .int l5), (6, .int (l6 + (1 : Int32)))]) [1, 2, 3, 4, 0] rfl ?_
        exact ih _ _ _ _ _ _ _ _ _ _ hf hret hx
set_option maxHeartbeats 2000000 in
set_option maxRecDepth 20000 in
theorem g_X7_plan_277 {K : KX} {n : Nat} {σ : AH} {a : Nat}  {l1 : Int32} {l2 : Int32} {th : Int32} {set : Nat → Int64} {mir : Nat → Int32} {tgt : Nat → Int32} {shs : Nat → Int32} {shp : Nat → Int64} {pls : Nat → Int32} {pl : Nat → Int64} {tri : Int32} {asm : Nat → Int64} {tak : Nat → Int64} {pld : Nat → Int32} {cel : Nat → Int32} {pie : Nat → Int32} {nxt : Nat → Int32} {cho : Nat → Int64} {cbs : Nat → Int32} {cub : Nat → Int32} (C : Cx K RX7 "plan" cX7_plan (some .int)) (hKR : kR K = ({ frames := 4, cells := 0, slots := 0, locals := 101 } : Room)) (hKN : kN K = 9) : ∀ (fu : Nat) (l5 : Int32) (sts : Int32) (stt : Nat → Int32) (frm : Nat → Int32) (by' : Nat → Int32) (wrk : Nat → Int32) (oth : Nat → Int32) (mvs : Int32) (mov : Nat → Int32) (res : ((Int32 × Int32 × (Nat → Int32) × (Nat → Int32) × Int32 × (Nat → Int32) × (Nat → Int32) × (Nat → Int32) × (Nat → Int32) × (Nat → Int32) × Int32 × (Nat → Int32)) ⊕ (Int32 × (Nat → Int32) × (Nat → Int32) × (Nat → Int32) × (Nat → Int32) × (Nat → Int32) × Int32 × (Nat → Int32)))), f_X7_plan_277 l1 l2 th cbs cub fu l5 sts stt frm by' wrk oth mvs mov = some res → (∀ t, res = .inl t → KQ K 0 0 (some (.int t.1)) (wMd σ a t.2.1 set mir tgt shs shp pls pl tri asm tak pld cel pie nxt cho t.2.2.1 t.2.2.2.1 t.2.2.2.2.1 t.2.2.2.2.2.1 t.2.2.2.2.2.2.1 t.2.2.2.2.2.2.2.1 t.2.2.2.2.2.2.2.2.1 t.2.2.2.2.2.2.2.2.2.1 t.2.2.2.2.2.2.2.2.2.2.1 t.2.2.2.2.2.2.2.2.2.2.2) n) → (∀ t, res = .inr t → G K 0 0 357 [] [] (wMd σ a th set mir tgt shs shp pls pl tri asm tak pld cel pie nxt cho cbs cub t.1 t.2.1 t.2.2.1 t.2.2.2.1 t.2.2.2.2.1 t.2.2.2.2.2.1 t.2.2.2.2.2.2.1 t.2.2.2.2.2.2.2) n) → G K 0 0 277 [(0, .ref a), (1, .int l1), (2, .int l2), (5, .int l5)] [] (wMd σ a th set mir tgt shs shp pls pl tri asm tak pld cel pie nxt cho cbs cub sts stt frm by' wrk oth mvs mov) n := by
  intro fu
  induction fu with
  | zero =>
    intro l5 sts stt frm by' wrk oth mvs mov res hf
    exact absurd hf (by simp [f_X7_plan_277])
  | succ fu ih =>
    intro l5 sts stt frm by' wrk oth mvs mov res hf hret hx
    rw [f_X7_plan_277] at hf
    refine g_iload C (q := 3) rfl dX7_plan_277 rfl ?_
    refine g_aload_n C rfl (q := 0) rfl dX7_plan_279 rfl ?_
    refine g_get C fc_X7 18 (by decide) wf_RX7_157 (wL_at0 rfl) rfl dX7_plan_280 rfl ?_
    refine g_icmp_ge (tgt := 357) C dX7_plan_283 (by decide) rfl (fun c216 => ?_) (fun c216 => ?_)
    · replace hf := ift c216 hf
      obtain rfl := Option.some.inj hf
      refine g_sub (lv' := []) [] rfl ?_
      exact hx (sts, stt, frm, by', wrk, oth, mvs, mov) rfl
    · replace hf := iff' c216 hf
      refine g_iconst (v := 1) C (by decide) dX7_plan_286 rfl ?_
      refine g_istore (i := 6) (lv' := [(6, .int (1 : Int32)), (0, .ref a), (1, .int l1), (2, .int l2), (5, .int l5)]) C dX7_plan_287 rfl (by rw [hKN]; decide) rfl ?_
      refine g_sub (lv' := [(0, .ref a), (1, .int l1), (2, .int l2), (5, .int l5), (6, .int (1 : Int32))]) [1, 2, 3, 4, 0] rfl ?_
      obtain ⟨q256, hq256, hf1, hf2⟩ := sb hf
      refine g_X7_plan_289 (l1 := l1) (l2 := l2) (l5 := l5) (th := th) (set := set) (mir := mir) (tgt := tgt) (shs := shs) (shp := shp) (pls := pls) (pl := pl) (tri := tri) (asm := asm) (tak := tak) (pld := pld) (cel := cel) (pie := pie) (nxt := nxt) (cho := cho) (cbs := cbs) (cub := cub) C hKR hKN _ _ _ _ _ _ _ _ _ _ q256 hq256 (fun t257 et257 => ?_) (fun t257 et257 => ?_)
      · obtain rfl := hf1 _ et257
        exact (hret t257 rfl)
      · have hf := hf2 _ et257
        refine g_iinc (v := l5 + (1 : Int32)) (lv' := [(5, .int (l5 + (1 : Int32))), (0, .ref a), (1, .int l1), (2, .int l2)]) (q := 3) C dX7_plan_351 rfl rfl rfl (by rw [hKN]; decide) rfl ?_
        refine g_goto (pc' := 277) C dX7_plan_354 (by decide) ?_
        refine g_sub (lv' := [(0, .ref a), (1, .int l1), (2, .int l2), (5, .int (l5 + (1 : Int32)))]) [1, 2, 3, 0] rfl ?_
        exact ih _ _ _ _ _ _ _ _ _ _ hf hret hx
set_option maxHeartbeats 2000000 in
set_option maxRecDepth 20000 in
theorem c_X7_plan {l : Launch} {E : Ex} {n : Nat} {σ : AH} {a : Nat}  {th : Int32} {set : Nat → Int64} {mir : Nat → Int32} {tgt : Nat → Int32} {shs : Nat → Int32} {shp : Nat → Int64} {pls : Nat → Int32} {pl : Nat → Int64} {tri : Int32} {asm : Nat → Int64} {tak : Nat → Int64} {pld : Nat → Int32} {cel : Nat → Int32} {pie : Nat → Int32} {nxt : Nat → Int32} {cho : Nat → Int64} {cbs : Nat → Int32} {cub : Nat → Int32} {sts : Int32} {stt : Nat → Int32} {frm : Nat → Int32} {by' : Nat → Int32} {wrk : Nat → Int32} {oth : Nat → Int32} {mvs : Int32} {mov : Nat → Int32} {part : Int32} {limit : Int32} {fu : Nat} (res : (Int32 × Int32 × (Nat → Int32) × (Nat → Int32) × Int32 × (Nat → Int32) × (Nat → Int32) × (Nat → Int32) × (Nat → Int32) × (Nat → Int32) × Int32 × (Nat → Int32))) (hf : f_X7_plan fu asm cbs cub sts stt frm by' wrk oth mvs mov part limit = some res) : Con l E yX7_plan (.code yX7_plan cX7_plan 9 (some .int) :: TT) ({ frames := 4, cells := 0, slots := 0, locals := 101 } : Room) 0 0 [.ref a, .int part, .int limit] (wMd σ a th set mir tgt shs shp pls pl tri asm tak pld cel pie nxt cho cbs cub sts stt frm by' wrk oth mvs mov) n (some (.int res.1)) (wMd σ a res.2.1 set mir tgt shs shp pls pl tri asm tak pld cel pie nxt cho res.2.2.1 res.2.2.2.1 res.2.2.2.2.1 res.2.2.2.2.2.1 res.2.2.2.2.2.2.1 res.2.2.2.2.2.2.2.1 res.2.2.2.2.2.2.2.2.1 res.2.2.2.2.2.2.2.2.2.1 res.2.2.2.2.2.2.2.2.2.2.1 res.2.2.2.2.2.2.2.2.2.2.2) n := by
  refine con_intro (by decide +kernel) (Nat.le_of_ble_eq_true rfl) ?_
  intro K C hKR hKL hKE hKN hKQ
  subst hKL
  subst hKE
  have C : Cx K RX7 "plan" cX7_plan (some .int) := C
  show G K 0 0 0 [(0, .ref a), (1, .int part), (2, .int limit)] [] (wMd σ a th set mir tgt shs shp pls pl tri asm tak pld cel pie nxt cho cbs cub sts stt frm by' wrk oth mvs mov) n
  unfold f_X7_plan at hf
  refine g_iload_n C rfl (q := 1) rfl dX7_plan_0 rfl ?_
  refine g_iconst (v := 0) C (by decide) dX7_plan_1 rfl ?_
  refine g_bipush (v := 63) C (by decide) dX7_plan_2 rfl ?_
  obtain ⟨q1, hq1, hf⟩ := bd hf
  refine g_callS0 (st' := []) (as := [.int part, .int (0 : Int32), .int (63 : Int32)]) (st2 := [.int q1]) (k := 3) C ⟨wm_RX7_88, ws_X7_in, wi_RX7, wk_X7_in, by decide +kernel⟩ (c_X7_in (l := kL K) (E := kE K)  _ hq1) (by rw [hKR]; exact ⟨rfl, rfl, ⟨by decide, by decide⟩, Nat.le_refl _, Nat.le_refl _⟩) rfl rfl (by simp) rfl dX7_plan_4 rfl ?_
  refine g_if_eq (tgt := 25) C dX7_plan_7 (by decide) rfl (fun c2 => ?_) (fun c2 => ?_)
  · replace hf := ift c2 hf
    refine g_iconst (v := 0) C (by decide) dX7_plan_25 rfl ?_
    refine g_istore_n (i := 3) (lv' := [(3, .int (0 : Int32)), (0, .ref a), (1, .int part), (2, .int limit)]) C dX7_plan_26 rfl rfl (by rw [hKN]; decide) rfl ?_
    refine g_iconst (v := 0) C (by decide) dX7_plan_27 rfl ?_
    refine g_istore (i := 4) (lv' := [(4, .int (0 : Int32)), (3, .int (0 : Int32)), (0, .ref a), (1, .int part), (2, .int limit)]) C dX7_plan_28 rfl (by rw [hKN]; decide) rfl ?_
    refine g_iconst (v := 0) C (by decide) dX7_plan_30 rfl ?_
    refine g_istore (i := 5) (lv' := [(5, .int (0 : Int32)), (4, .int (0 : Int32)), (3, .int (0 : Int32)), (0, .ref a), (1, .int part), (2, .int limit)]) C dX7_plan_31 rfl (by rw [hKN]; decide) rfl ?_
    refine g_sub (lv' := [(0, .ref a), (1, .int part), (2, .int limit), (3, .int (0 : Int32)), (4, .int (0 : Int32)), (5, .int (0 : Int32))]) [3, 4, 5, 2, 1, 0] rfl ?_
    obtain ⟨q21, hq21, hf⟩ := bd hf
    refine g_X7_plan_33 (l1 := part) (l2 := limit) (th := th) (set := set) (mir := mir) (tgt := tgt) (shs := shs) (shp := shp) (pls := pls) (pl := pl) (tri := tri) (asm := asm) (tak := tak) (pld := pld) (cel := cel) (pie := pie) (nxt := nxt) (cho := cho) (cbs := cbs) (cub := cub) (sts := sts) (stt := stt) (frm := frm) (by' := by') (wrk := wrk) (oth := oth) (mvs := mvs) (mov := mov) C hKR hKN _ _ _ _ _ hq21 ?_
    refine g_aload_n C rfl (q := 0) rfl dX7_plan_83 rfl ?_
    refine g_iload_n C rfl (q := 3) rfl dX7_plan_84 rfl ?_
    have j260 : G K 0 0 99 [(0, .ref a), (1, .int part), (2, .int limit), (3, .int q21.1), (4, .int q21.2)] [.int (if q21.1 = 0 then (0 : Int32) else (if q21.2 ≤ (1 : Int32) then (0 : Int32) else (1 : Int32))), .ref a] (wMd σ a th set mir tgt shs shp pls pl tri asm tak pld cel pie nxt cho cbs cub sts stt frm by' wrk oth mvs mov) n := by
      obtain ⟨q22, hq22, hf⟩ := bd hf
      refine g_callV0 (st' := []) (as := [.int (if q21.1 = 0 then (0 : Int32) else (if q21.2 ≤ (1 : Int32) then (0 : Int32) else (1 : Int32)))]) (st2 := [.int q22.1]) (k := 1) C ⟨wm_RX7_96, wn_X7_says, wv_X7_says, wi_RX7, wk_X7_says, by decide +kernel⟩ rfl (wL_at0 rfl) (c_X7_says (l := kL K) (E := kE K)  _ hq22) (by rw [hKR]; exact ⟨rfl, rfl, ⟨by decide, by decide⟩, Nat.le_refl _, Nat.le_refl _⟩) rfl rfl (by simp) rfl dX7_plan_99 rfl ?_
      refine g_if_ne (tgt := 107) C dX7_plan_102 (by decide) rfl (fun c23 => ?_) (fun c23 => ?_)
      · replace hf := iff' c23 hf
        refine g_iconst (v := 0) C (by decide) dX7_plan_107 rfl ?_
        refine g_istore (i := 5) (lv' := [(5, .int (0 : Int32)), (0, .ref a), (1, .int part), (2, .int limit), (3, .int q21.1), (4, .int q21.2)]) C dX7_plan_108 rfl (by rw [hKN]; decide) rfl ?_
        refine g_sub (lv' := [(0, .ref a), (1, .int part), (2, .int limit), (5, .int (0 : Int32))]) [1, 2, 3, 0] rfl ?_
        obtain ⟨q123, hq123, hf⟩ := bd hf
        refine g_X7_plan_110 (l1 := part) (l2 := limit) (th := q22.2) (set := set) (mir := mir) (tgt := tgt) (shs := shs) (shp := shp) (pls := pls) (pl := pl) (tri := tri) (asm := asm) (tak := tak) (pld := pld) (cel := cel) (pie := pie) (nxt := nxt) (cho := cho) (sts := sts) (stt := stt) (frm := frm) (by' := by') (wrk := wrk) (oth := oth) (mvs := mvs) (mov := mov) C hKR hKN _ _ _ _ _ hq123 ?_
        refine g_aload_n C rfl (q := 0) rfl dX7_plan_233 rfl ?_
        refine g_iconst (v := 0) C (by decide) dX7_plan_234 rfl ?_
        refine g_put (h' := (wMd σ a q22.2 set mir tgt shs shp pls pl tri asm tak pld cel pie nxt cho q123.1 q123.2 sts stt frm by' wrk oth (0 : Int32) mov)) C fc_X7 24 (by decide) wf_RX7_160 rfl rfl rfl (Nat.le_of_ble_eq_true rfl) (wL_at0 rfl) (wL_up0 (Nat.le_of_ble_eq_true rfl) rfl) dX7_plan_235 rfl ?_
        refine g_aload_n C rfl (q := 0) rfl dX7_plan_238 rfl ?_
        refine g_iconst (v := 1) C (by decide) dX7_plan_239 rfl ?_
        refine g_put (h' := (wMd σ a q22.2 set mir tgt shs shp pls pl tri asm tak pld cel pie nxt cho q123.1 q123.2 (1 : Int32) stt frm by' wrk oth (0 : Int32) mov)) C fc_X7 18 (by decide) wf_RX7_157 rfl rfl rfl (Nat.le_of_ble_eq_true rfl) (wL_at0 rfl) (wL_up0 (Nat.le_of_ble_eq_true rfl) rfl) dX7_plan_240 rfl ?_
        refine g_iconst (v := 0) C (by decide) dX7_plan_243 rfl ?_
        refine g_istore (i := 5) (lv' := [(5, .int (0 : Int32)), (0, .ref a), (1, .int part), (2, .int limit)]) C dX7_plan_244 rfl (by rw [hKN]; decide) rfl ?_
        refine g_sub (lv' := [(0, .ref a), (1, .int part), (2, .int limit), (5, .int (0 : Int32))]) [1, 2, 3, 0] rfl ?_
        obtain ⟨q130, hq130, hf⟩ := bd hf
        refine g_X7_plan_246 (l1 := part) (l2 := limit) (th := q22.2) (set := set) (mir := mir) (tgt := tgt) (shs := shs) (shp := shp) (pls := pls) (pl := pl) (tri := tri) (asm := asm) (tak := tak) (pld := pld) (cel := cel) (pie := pie) (nxt := nxt) (cho := cho) (cbs := q123.1) (cub := q123.2) (sts := (1 : Int32)) (frm := frm) (by' := by') (wrk := wrk) (oth := oth) (mvs := (0 : Int32)) (mov := mov) C hKR hKN _ _ _ _ hq130 ?_
        refine g_aload_n C rfl (q := 0) rfl dX7_plan_267 rfl ?_
        refine g_get C fc_X7 20 (by decide) wf_RX7_63 (wL_at0 rfl) rfl dX7_plan_268 rfl ?_
        refine g_iconst (v := 0) C (by decide) dX7_plan_271 rfl ?_
        refine g_iconst (v := (-1)) C (by decide) dX7_plan_272 rfl ?_
        obtain ⟨g131, hf⟩ := gd hf
        refine g_iast (h' := (wMd σ a q22.2 set mir tgt shs shp pls pl tri asm tak pld cel pie nxt cho q123.1 q123.2 (1 : Int32) q130 (va_up frm (0 : Int32).toNatClampNeg (-1 : Int32)) by' wrk oth (0 : Int32) mov)) C (wL_at 18 rfl) (inB_in g131) (wL_up 18 (Nat.le_of_ble_eq_true rfl) rfl) dX7_plan_273 rfl ?_
        refine g_iconst (v := 0) C (by decide) dX7_plan_274 rfl ?_
        refine g_istore (i := 5) (lv' := [(5, .int (0 : Int32)), (0, .ref a), (1, .int part), (2, .int limit)]) C dX7_plan_275 rfl (by rw [hKN]; decide) rfl ?_
        refine g_sub (lv' := [(0, .ref a), (1, .int part), (2, .int limit), (5, .int (0 : Int32))]) [1, 2, 3, 0] rfl ?_
        obtain ⟨q258, hq258, hf1, hf2⟩ := sb hf
        refine g_X7_plan_277 (l1 := part) (l2 := limit) (th := q22.2) (set := set) (mir := mir) (tgt := tgt) (shs := shs) (shp := shp) (pls := pls) (pl := pl) (tri := tri) (asm := asm) (tak := tak) (pld := pld) (cel := cel) (pie := pie) (nxt := nxt) (cho := cho) (cbs := q123.1) (cub := q123.2) C hKR hKN _ _ _ _ _ _ _ _ _ _ q258 hq258 (fun t259 et259 => ?_) (fun t259 et259 => ?_)
        · obtain rfl := hf1 _ et259
          exact hKQ
        · have hf := hf2 _ et259
          refine g_iconst (v := (-1)) C (by decide) dX7_plan_357 rfl ?_
          obtain rfl := Option.some.inj hf
          exact g_iret C hKQ dX7_plan_358
      · replace hf := ift c23 hf
        refine g_iconst (v := 0) C (by decide) dX7_plan_105 rfl ?_
        obtain rfl := Option.some.inj hf
        exact g_iret C hKQ dX7_plan_106
    refine g_if_eq (tgt := 98) C dX7_plan_85 (by decide) rfl (fun c261 => ?_) (fun c261 => ?_)
    · refine g_iconst (v := 0) C (by decide) dX7_plan_98 rfl ?_
      exact g_topI (by rw [if_pos c261]) j260
    · refine g_iload C (q := 4) rfl dX7_plan_88 rfl ?_
      refine g_iconst (v := 1) C (by decide) dX7_plan_90 rfl ?_
      refine g_icmp_le (tgt := 98) C dX7_plan_91 (by decide) rfl (fun c262 => ?_) (fun c262 => ?_)
      · refine g_iconst (v := 0) C (by decide) dX7_plan_98 rfl ?_
        exact g_topI (by rw [if_neg c261, if_pos c262]) j260
      · refine g_iconst (v := 1) C (by decide) dX7_plan_94 rfl ?_
        refine g_goto (pc' := 99) C dX7_plan_95 (by decide) ?_
        exact g_topI (by rw [if_neg c261, if_neg c262]) j260
  · replace hf := iff' c2 hf
    refine g_iload_n C rfl (q := 2) rfl dX7_plan_10 rfl ?_
    refine g_iconst (v := 1) C (by decide) dX7_plan_11 rfl ?_
    refine g_sipush (v := 300) C (by decide) dX7_plan_12 rfl ?_
    obtain ⟨q263, hq263, hf⟩ := bd hf
    refine g_callS0 (st' := []) (as := [.int limit, .int (1 : Int32), .int (300 : Int32)]) (st2 := [.int q263]) (k := 3) C ⟨wm_RX7_88, ws_X7_in, wi_RX7, wk_X7_in, by decide +kernel⟩ (c_X7_in (l := kL K) (E := kE K)  _ hq263) (by rw [hKR]; exact ⟨rfl, rfl, ⟨by decide, by decide⟩, Nat.le_refl _, Nat.le_refl _⟩) rfl rfl (by simp) rfl dX7_plan_15 rfl ?_
    have j275 : G K 0 0 26 [(0, .ref a), (1, .int part), (2, .int limit)] [.int (if q263 = 0 then (0 : Int32) else (1 : Int32))] (wMd σ a th set mir tgt shs shp pls pl tri asm tak pld cel pie nxt cho cbs cub sts stt frm by' wrk oth mvs mov) n := by
      refine g_istore_n (i := 3) (lv' := [(3, .int (if q263 = 0 then (0 : Int32) else (1 : Int32))), (0, .ref a), (1, .int part), (2, .int limit)]) C dX7_plan_26 rfl rfl (by rw [hKN]; decide) rfl ?_
      refine g_iconst (v := 0) C (by decide) dX7_plan_27 rfl ?_
      refine g_istore (i := 4) (lv' := [(4, .int (0 : Int32)), (3, .int (if q263 = 0 then (0 : Int32) else (1 : Int32))), (0, .ref a), (1, .int part), (2, .int limit)]) C dX7_plan_28 rfl (by rw [hKN]; decide) rfl ?_
      refine g_iconst (v := 0) C (by decide) dX7_plan_30 rfl ?_
      refine g_istore (i := 5) (lv' := [(5, .int (0 : Int32)), (4, .int (0 : Int32)), (3, .int (if q263 = 0 then (0 : Int32) else (1 : Int32))), (0, .ref a), (1, .int part), (2, .int limit)]) C dX7_plan_31 rfl (by rw [hKN]; decide) rfl ?_
      refine g_sub (lv' := [(0, .ref a), (1, .int part), (2, .int limit), (3, .int (if q263 = 0 then (0 : Int32) else (1 : Int32))), (4, .int (0 : Int32)), (5, .int (0 : Int32))]) [3, 4, 5, 2, 1, 0] rfl ?_
      obtain ⟨q264, hq264, hf⟩ := bd hf
      refine g_X7_plan_33 (l1 := part) (l2 := limit) (th := th) (set := set) (mir := mir) (tgt := tgt) (shs := shs) (shp := shp) (pls := pls) (pl := pl) (tri := tri) (asm := asm) (tak := tak) (pld := pld) (cel := cel) (pie := pie) (nxt := nxt) (cho := cho) (cbs := cbs) (cub := cub) (sts := sts) (stt := stt) (frm := frm) (by' := by') (wrk := wrk) (oth := oth) (mvs := mvs) (mov := mov) C hKR hKN _ _ _ _ _ hq264 ?_
      refine g_aload_n C rfl (q := 0) rfl dX7_plan_83 rfl ?_
      refine g_iload_n C rfl (q := 3) rfl dX7_plan_84 rfl ?_
      have j272 : G K 0 0 99 [(0, .ref a), (1, .int part), (2, .int limit), (3, .int q264.1), (4, .int q264.2)] [.int (if q264.1 = 0 then (0 : Int32) else (if q264.2 ≤ (1 : Int32) then (0 : Int32) else (1 : Int32))), .ref a] (wMd σ a th set mir tgt shs shp pls pl tri asm tak pld cel pie nxt cho cbs cub sts stt frm by' wrk oth mvs mov) n := by
        obtain ⟨q265, hq265, hf⟩ := bd hf
        refine g_callV0 (st' := []) (as := [.int (if q264.1 = 0 then (0 : Int32) else (if q264.2 ≤ (1 : Int32) then (0 : Int32) else (1 : Int32)))]) (st2 := [.int q265.1]) (k := 1) C ⟨wm_RX7_96, wn_X7_says, wv_X7_says, wi_RX7, wk_X7_says, by decide +kernel⟩ rfl (wL_at0 rfl) (c_X7_says (l := kL K) (E := kE K)  _ hq265) (by rw [hKR]; exact ⟨rfl, rfl, ⟨by decide, by decide⟩, Nat.le_refl _, Nat.le_refl _⟩) rfl rfl (by simp) rfl dX7_plan_99 rfl ?_
        refine g_if_ne (tgt := 107) C dX7_plan_102 (by decide) rfl (fun c266 => ?_) (fun c266 => ?_)
        · replace hf := iff' c266 hf
          refine g_iconst (v := 0) C (by decide) dX7_plan_107 rfl ?_
          refine g_istore (i := 5) (lv' := [(5, .int (0 : Int32)), (0, .ref a), (1, .int part), (2, .int limit), (3, .int q264.1), (4, .int q264.2)]) C dX7_plan_108 rfl (by rw [hKN]; decide) rfl ?_
          refine g_sub (lv' := [(0, .ref a), (1, .int part), (2, .int limit), (5, .int (0 : Int32))]) [1, 2, 3, 0] rfl ?_
          obtain ⟨q267, hq267, hf⟩ := bd hf
          refine g_X7_plan_110 (l1 := part) (l2 := limit) (th := q265.2) (set := set) (mir := mir) (tgt := tgt) (shs := shs) (shp := shp) (pls := pls) (pl := pl) (tri := tri) (asm := asm) (tak := tak) (pld := pld) (cel := cel) (pie := pie) (nxt := nxt) (cho := cho) (sts := sts) (stt := stt) (frm := frm) (by' := by') (wrk := wrk) (oth := oth) (mvs := mvs) (mov := mov) C hKR hKN _ _ _ _ _ hq267 ?_
          refine g_aload_n C rfl (q := 0) rfl dX7_plan_233 rfl ?_
          refine g_iconst (v := 0) C (by decide) dX7_plan_234 rfl ?_
          refine g_put (h' := (wMd σ a q265.2 set mir tgt shs shp pls pl tri asm tak pld cel pie nxt cho q267.1 q267.2 sts stt frm by' wrk oth (0 : Int32) mov)) C fc_X7 24 (by decide) wf_RX7_160 rfl rfl rfl (Nat.le_of_ble_eq_true rfl) (wL_at0 rfl) (wL_up0 (Nat.le_of_ble_eq_true rfl) rfl) dX7_plan_235 rfl ?_
          refine g_aload_n C rfl (q := 0) rfl dX7_plan_238 rfl ?_
          refine g_iconst (v := 1) C (by decide) dX7_plan_239 rfl ?_
          refine g_put (h' := (wMd σ a q265.2 set mir tgt shs shp pls pl tri asm tak pld cel pie nxt cho q267.1 q267.2 (1 : Int32) stt frm by' wrk oth (0 : Int32) mov)) C fc_X7 18 (by decide) wf_RX7_157 rfl rfl rfl (Nat.le_of_ble_eq_true rfl) (wL_at0 rfl) (wL_up0 (Nat.le_of_ble_eq_true rfl) rfl) dX7_plan_240 rfl ?_
          refine g_iconst (v := 0) C (by decide) dX7_plan_243 rfl ?_
          refine g_istore (i := 5) (lv' := [(5, .int (0 : Int32)), (0, .ref a), (1, .int part), (2, .int limit)]) C dX7_plan_244 rfl (by rw [hKN]; decide) rfl ?_
          refine g_sub (lv' := [(0, .ref a), (1, .int part), (2, .int limit), (5, .int (0 : Int32))]) [1, 2, 3, 0] rfl ?_
          obtain ⟨q268, hq268, hf⟩ := bd hf
          refine g_X7_plan_246 (l1 := part) (l2 := limit) (th := q265.2) (set := set) (mir := mir) (tgt := tgt) (shs := shs) (shp := shp) (pls := pls) (pl := pl) (tri := tri) (asm := asm) (tak := tak) (pld := pld) (cel := cel) (pie := pie) (nxt := nxt) (cho := cho) (cbs := q267.1) (cub := q267.2) (sts := (1 : Int32)) (frm := frm) (by' := by') (wrk := wrk) (oth := oth) (mvs := (0 : Int32)) (mov := mov) C hKR hKN _ _ _ _ hq268 ?_
          refine g_aload_n C rfl (q := 0) rfl dX7_plan_267 rfl ?_
          refine g_get C fc_X7 20 (by decide) wf_RX7_63 (wL_at0 rfl) rfl dX7_plan_268 rfl ?_
          refine g_iconst (v := 0) C (by decide) dX7_plan_271 rfl ?_
          refine g_iconst (v := (-1)) C (by decide) dX7_plan_272 rfl ?_
          obtain ⟨g269, hf⟩ := gd hf
          refine g_iast (h' := (wMd σ a q265.2 set mir tgt shs shp pls pl tri asm tak pld cel pie nxt cho q267.1 q267.2 (1 : Int32) q268 (va_up frm (0 : Int32).toNatClampNeg (-1 : Int32)) by' wrk oth (0 : Int32) mov)) C (wL_at 18 rfl) (inB_in g269) (wL_up 18 (Nat.le_of_ble_eq_true rfl) rfl) dX7_plan_273 rfl ?_
          refine g_iconst (v := 0) C (by decide) dX7_plan_274 rfl ?_
          refine g_istore (i := 5) (lv' := [(5, .int (0 : Int32)), (0, .ref a), (1, .int part), (2, .int limit)]) C dX7_plan_275 rfl (by rw [hKN]; decide) rfl ?_
          refine g_sub (lv' := [(0, .ref a), (1, .int part), (2, .int limit), (5, .int (0 : Int32))]) [1, 2, 3, 0] rfl ?_
          obtain ⟨q270, hq270, hf1, hf2⟩ := sb hf
          refine g_X7_plan_277 (l1 := part) (l2 := limit) (th := q265.2) (set := set) (mir := mir) (tgt := tgt) (shs := shs) (shp := shp) (pls := pls) (pl := pl) (tri := tri) (asm := asm) (tak := tak) (pld := pld) (cel := cel) (pie := pie) (nxt := nxt) (cho := cho) (cbs := q267.1) (cub := q267.2) C hKR hKN _ _ _ _ _ _ _ _ _ _ q270 hq270 (fun t271 et271 => ?_) (fun t271 et271 => ?_)
          · obtain rfl := hf1 _ et271
            exact hKQ
          · have hf := hf2 _ et271
            refine g_iconst (v := (-1)) C (by decide) dX7_plan_357 rfl ?_
            obtain rfl := Option.some.inj hf
            exact g_iret C hKQ dX7_plan_358
        · replace hf := ift c266 hf
          refine g_iconst (v := 0) C (by decide) dX7_plan_105 rfl ?_
          obtain rfl := Option.some.inj hf
          exact g_iret C hKQ dX7_plan_106
      refine g_if_eq (tgt := 98) C dX7_plan_85 (by decide) rfl (fun c273 => ?_) (fun c273 => ?_)
      · refine g_iconst (v := 0) C (by decide) dX7_plan_98 rfl ?_
        exact g_topI (by rw [if_pos c273]) j272
      · refine g_iload C (q := 4) rfl dX7_plan_88 rfl ?_
        refine g_iconst (v := 1) C (by decide) dX7_plan_90 rfl ?_
        refine g_icmp_le (tgt := 98) C dX7_plan_91 (by decide) rfl (fun c274 => ?_) (fun c274 => ?_)
        · refine g_iconst (v := 0) C (by decide) dX7_plan_98 rfl ?_
          exact g_topI (by rw [if_neg c273, if_pos c274]) j272
        · refine g_iconst (v := 1) C (by decide) dX7_plan_94 rfl ?_
          refine g_goto (pc' := 99) C dX7_plan_95 (by decide) ?_
          exact g_topI (by rw [if_neg c273, if_neg c274]) j272
    refine g_if_eq (tgt := 25) C dX7_plan_18 (by decide) rfl (fun c276 => ?_) (fun c276 => ?_)
    · refine g_iconst (v := 0) C (by decide) dX7_plan_25 rfl ?_
      exact g_topI (by rw [if_pos c276]) j275
    · refine g_iconst (v := 1) C (by decide) dX7_plan_21 rfl ?_
      refine g_goto (pc' := 26) C dX7_plan_22 (by decide) ?_
      exact g_topI (by rw [if_neg c276]) j275
def f_X7_states (sts : Int32) : Option (Int32 × Int32) := some (sts, (0 : Int32))
set_option maxHeartbeats 2000000 in
set_option maxRecDepth 20000 in
theorem c_X7_states {l : Launch} {E : Ex} {n : Nat} {σ : AH} {a : Nat}  {th : Int32} {set : Nat → Int64} {mir : Nat → Int32} {tgt : Nat → Int32} {shs : Nat → Int32} {shp : Nat → Int64} {pls : Nat → Int32} {pl : Nat → Int64} {tri : Int32} {asm : Nat → Int64} {tak : Nat → Int64} {pld : Nat → Int32} {cel : Nat → Int32} {pie : Nat → Int32} {nxt : Nat → Int32} {cho : Nat → Int64} {cbs : Nat → Int32} {cub : Nat → Int32} {sts : Int32} {stt : Nat → Int32} {frm : Nat → Int32} {by' : Nat → Int32} {wrk : Nat → Int32} {oth : Nat → Int32} {mvs : Int32} {mov : Nat → Int32}  (res : (Int32 × Int32)) (hf : f_X7_states sts = some res) : Con l E yX7_states (.code yX7_states cX7_states 1 (some .int) :: TT) ({ frames := 0, cells := 0, slots := 0, locals := 0 } : Room) 0 0 [.ref a] (wMd σ a th set mir tgt shs shp pls pl tri asm tak pld cel pie nxt cho cbs cub sts stt frm by' wrk oth mvs mov) n (some (.int res.1)) (wMd σ a res.2 set mir tgt shs shp pls pl tri asm tak pld cel pie nxt cho cbs cub sts stt frm by' wrk oth mvs mov) n := by
  refine con_intro (by decide +kernel) (Nat.le_of_ble_eq_true rfl) ?_
  intro K C hKR hKL hKE hKN hKQ
  subst hKL
  subst hKE
  have C : Cx K RX7 "states" cX7_states (some .int) := C
  show G K 0 0 0 [(0, .ref a)] [] (wMd σ a th set mir tgt shs shp pls pl tri asm tak pld cel pie nxt cho cbs cub sts stt frm by' wrk oth mvs mov) n
  unfold f_X7_states at hf
  refine g_aload_n C rfl (q := 0) rfl dX7_states_0 rfl ?_
  refine g_iconst (v := 0) C (by decide) dX7_states_1 rfl ?_
  refine g_put (h' := (wMd σ a (0 : Int32) set mir tgt shs shp pls pl tri asm tak pld cel pie nxt cho cbs cub sts stt frm by' wrk oth mvs mov)) C fc_X7 0 (by decide) wf_RX7_78 rfl rfl rfl (Nat.le_of_ble_eq_true rfl) (wL_at0 rfl) (wL_up0 (Nat.le_of_ble_eq_true rfl) rfl) dX7_states_2 rfl ?_
  refine g_aload_n C rfl (q := 0) rfl dX7_states_5 rfl ?_
  refine g_get C fc_X7 18 (by decide) wf_RX7_157 (wL_at0 rfl) rfl dX7_states_6 rfl ?_
  obtain rfl := Option.some.inj hf
  exact g_iret C hKQ dX7_states_9
def f_X7_move (mvs : Int32) (mov : Nat → Int32) (k : Int32) : Option (Int32 × Int32) := ((f_X7_in k (0 : Int32) (mvs - (1 : Int32))).bind fun q1 => (if (if q1 = 0 then (1 : Int32) else (0 : Int32)) ≤ 0 then (if inB k 301 = true then some (mov k.toNatClampNeg, (if q1 = 0 then (1 : Int32) else (0 : Int32))) else none) else some ((0 : Int32), (if q1 = 0 then (1 : Int32) else (0 : Int32)))))
set_option maxHeartbeats 2000000 in
set_option maxRecDepth 20000 in
theorem c_X7_move {l : Launch} {E : Ex} {n : Nat} {σ : AH} {a : Nat}  {th : Int32} {set : Nat → Int64} {mir : Nat → Int32} {tgt : Nat → Int32} {shs : Nat → Int32} {shp : Nat → Int64} {pls : Nat → Int32} {pl : Nat → Int64} {tri : Int32} {asm : Nat → Int64} {tak : Nat → Int64} {pld : Nat → Int32} {cel : Nat → Int32} {pie : Nat → Int32} {nxt : Nat → Int32} {cho : Nat → Int64} {cbs : Nat → Int32} {cub : Nat → Int32} {sts : Int32} {stt : Nat → Int32} {frm : Nat → Int32} {by' : Nat → Int32} {wrk : Nat → Int32} {oth : Nat → Int32} {mvs : Int32} {mov : Nat → Int32} {k : Int32} (res : (Int32 × Int32)) (hf : f_X7_move mvs mov k = some res) : Con l E yX7_move (.code yX7_move cX7_move 2 (some .int) :: TT) ({ frames := 1, cells := 0, slots := 0, locals := 22 } : Room) 0 0 [.ref a, .int k] (wMd σ a th set mir tgt shs shp pls pl tri asm tak pld cel pie nxt cho cbs cub sts stt frm by' wrk oth mvs mov) n (some (.int res.1)) (wMd σ a res.2 set mir tgt shs shp pls pl tri asm tak pld cel pie nxt cho cbs cub sts stt frm by' wrk oth mvs mov) n := by
  refine con_intro (by decide +kernel) (Nat.le_of_ble_eq_true rfl) ?_
  intro K C hKR hKL hKE hKN hKQ
  subst hKL
  subst hKE
  have C : Cx K RX7 "move" cX7_move (some .int) := C
  show G K 0 0 0 [(0, .ref a), (1, .int k)] [] (wMd σ a th set mir tgt shs shp pls pl tri asm tak pld cel pie nxt cho cbs cub sts stt frm by' wrk oth mvs mov) n
  unfold f_X7_move at hf
  refine g_aload_n C rfl (q := 0) rfl dX7_move_0 rfl ?_
  refine g_iload_n C rfl (q := 1) rfl dX7_move_1 rfl ?_
  refine g_iconst (v := 0) C (by decide) dX7_move_2 rfl ?_
  refine g_aload_n C rfl (q := 0) rfl dX7_move_3 rfl ?_
  refine g_get C fc_X7 24 (by decide) wf_RX7_160 (wL_at0 rfl) rfl dX7_move_4 rfl ?_
  refine g_iconst (v := 1) C (by decide) dX7_move_7 rfl ?_
  refine g_isub C dX7_move_8 rfl ?_
  obtain ⟨q1, hq1, hf⟩ := bd hf
  refine g_callS0 (st' := [.ref a]) (as := [.int k, .int (0 : Int32), .int (mvs - (1 : Int32))]) (st2 := [.int q1, .ref a]) (k := 3) C ⟨wm_RX7_88, ws_X7_in, wi_RX7, wk_X7_in, by decide +kernel⟩ (c_X7_in (l := kL K) (E := kE K)  _ hq1) (by rw [hKR]; exact ⟨rfl, rfl, ⟨by decide, by decide⟩, Nat.le_refl _, Nat.le_refl _⟩) rfl rfl (by simp [Value.category]) rfl dX7_move_9 rfl ?_
  have j4 : G K 0 0 20 [(0, .ref a), (1, .int k)] [.int (if q1 = 0 then (1 : Int32) else (0 : Int32)), .ref a] (wMd σ a th set mir tgt shs shp pls pl tri asm tak pld cel pie nxt cho cbs cub sts stt frm by' wrk oth mvs mov) n := by
    refine g_put (h' := (wMd σ a (if q1 = 0 then (1 : Int32) else (0 : Int32)) set mir tgt shs shp pls pl tri asm tak pld cel pie nxt cho cbs cub sts stt frm by' wrk oth mvs mov)) C fc_X7 0 (by decide) wf_RX7_78 rfl rfl rfl (Nat.le_of_ble_eq_true rfl) (wL_at0 rfl) (wL_up0 (Nat.le_of_ble_eq_true rfl) rfl) dX7_move_20 rfl ?_
    refine g_aload_n C rfl (q := 0) rfl dX7_move_23 rfl ?_
    refine g_get C fc_X7 0 (by decide) wf_RX7_78 (wL_at0 rfl) rfl dX7_move_24 rfl ?_
    refine g_if_le (tgt := 34) C dX7_move_27 (by decide) rfl (fun c2 => ?_) (fun c2 => ?_)
    · replace hf := ift c2 hf
      refine g_aload_n C rfl (q := 0) rfl dX7_move_34 rfl ?_
      refine g_get C fc_X7 25 (by decide) wf_RX7_75 (wL_at0 rfl) rfl dX7_move_35 rfl ?_
      refine g_iload_n C rfl (q := 1) rfl dX7_move_38 rfl ?_
      obtain ⟨g3, hf⟩ := gd hf
      refine g_iald C (wL_at 22 rfl) (inB_in g3) dX7_move_39 rfl ?_
      obtain rfl := Option.some.inj hf
      exact g_iret C hKQ dX7_move_40
    · replace hf := iff' c2 hf
      refine g_iconst (v := 0) C (by decide) dX7_move_30 rfl ?_
      refine g_goto (pc' := 40) C dX7_move_31 (by decide) ?_
      obtain rfl := Option.some.inj hf
      exact g_iret C hKQ dX7_move_40
  refine g_if_eq (tgt := 19) C dX7_move_12 (by decide) rfl (fun c5 => ?_) (fun c5 => ?_)
  · refine g_iconst (v := 1) C (by decide) dX7_move_19 rfl ?_
    exact g_topI (by rw [if_pos c5]) j4
  · refine g_iconst (v := 0) C (by decide) dX7_move_15 rfl ?_
    refine g_goto (pc' := 20) C dX7_move_16 (by decide) ?_
    exact g_topI (by rw [if_neg c5]) j4
