/-! THE CLAIM OUT OF ONE WALK OF THE LAW'S BODY. Your part is whole_start (and what it stands on); all else here is the same for every law, but numbers. -/
def R_law : String := "BlockWorkshopLaw"
def lw_P (b : Addr) (xs : List Int32) (args : Array Value) (s : State) : Prop := args = #[.ref b] ∧ s.IntsAt b xs ∧ xs.length ≤ 2048 ∧ (Jvm.Cond.and given_1 narrow_1).before args s = true
def lw_Q (_ : Array Value) (s : State) (o : Outcome) (t : State) : Prop := o = .returned (some (.int 1)) ∧ Framed s o t [] 601024 7293034
def lw_Z (below : List Frame) (a : Array Value) (s : State) : State → Prop := fun t => ∃ o, t.status = .running ∧ Ended t below o ∧ lw_Q a s o t
/-- the law's own end, with 1 on the stack, nothing written that was there before, its room as the claim has it -/
theorem lw_ret {p : Program} {l : Launch} {e : Env} {s : State} {m : MethodId} {below : List Frame} {meth : Method} {c : Code} {b : Nat} (hx : p.tables.exec = Jvm.exec) (hb : c.code = code) (hr : meth.sig.returnType = ret) (hlocks : meth.locks = false) {pc : Nat} {H : Heap} {ls : Array Slot} (hdg : decode code pc = .ok (.ireturn, 1)) : W p l e room_1 s m #[Value.ref b] below meth c H [] 601024 7293034 (lw_Z below #[Value.ref b] s) (F0 m pc ls [.int 1]) := by
  intro T hT X
  obtain ⟨fs, hret, hrun, hended, hW, hframe⟩ := X.leave (v := some (.int 1)) (hlocks := hlocks) (fun h => by rw [hr] at h; cases h)
  have hmeth' : T.vm.method? m = some meth := X.method'
  refine ⟨T.setFrames fs, ?_, .returned (some (.int 1)), hrun, hended, rfl, ⟨_, rfl⟩, hW, hframe⟩
  jvm_step X.here [X.here.top, hx, hb, hdg, hmeth', hr, ret, narrow_b1]
  (try refine ⟨rfl, ?_⟩); (try refine ⟨rfl, ?_⟩)
  first | (intro acts; rw [hret _ acts rfl rfl rfl]) | rw [hret _ _ rfl rfl rfl]
  exact Steps.refl _
/-- what holds at the law's entry: the machine, the code, the tables' words (any of lw_tbl by 'hts w (by decide +kernel)'), the script of L ints xs at the cell b, what the Statement gives of the start (any of its parts by flat_of_before) -/
def lw_At (p : Program) (s : State) (m : MethodId) (meth : Method) (c : Code) (b L : Nat) (xs : Nat → Int32) : Prop :=
  p.tables.exec = Jvm.exec ∧ c.code = code ∧ meth.sig.returnType = ret ∧ c.maxLocals = 8 ∧ s.vm.findClass R_law = some m.cls ∧ (∀ w ∈ lw_tbl, w.before #[Value.ref b] s = true) ∧ va_X b L xs s s.heap ∧ b < s.heap.size ∧ meth.locks = false ∧ (Jvm.Cond.and given_1 narrow_1).before #[Value.ref b] s = true
def Tinv (L T : Nat) (l4 : Int32) : Prop := 0 ≤ l4.toInt ∧ l4.toInt ≤ 2052 ∧ (L : Int) ≤ l4.toInt + 4 * T + 3
theorem law_T {L T : Nat} {l4 : Int32} (hL : L ≤ 2048) (h : Tinv L T l4) (c : ¬ (nI L - (4 : Int32) < l4)) : ∃ T', T = T' + 1 ∧ Tinv L T' (l4 + (4 : Int32)) := by
  obtain ⟨h1, h2, h3⟩ := h
  have e1 : (nI L - (4 : Int32)).toInt = (L : Int) - 4 := by
    rw [show (4 : Int32) = nI 4 from rfl, pk_sub_toInt (by omega) (by omega)]
    rfl
  have c' : l4.toInt ≤ (L : Int) - 4 := by
    have := Int32.not_lt.mp c
    rw [Int32.le_iff_toInt_le, e1] at this
    exact this
  have e2 : (l4 + (4 : Int32)).toInt = l4.toInt + 4 := by
    rw [Int32.toInt_add, show (4 : Int32).toInt = 4 from rfl]
    rw [Int.bmod_def]
    omega
  obtain ⟨T', rfl⟩ : ∃ T', T = T' + 1 := ⟨T - 1, by omega⟩
  exact ⟨T', rfl, by rw [e2]; omega, by rw [e2]; omega, by rw [e2]; push_cast at h3; omega⟩
def KLaw (K : KX) (bs : Nat) : Prop := match K with
  | (_, _, _, R, s, _, args, below, _, _, _, E, Q) => R = room_1 ∧ args = #[Value.ref bs] ∧ E.2.2.2 = s.heap.size ∧ Q = lw_Z below #[Value.ref bs] s
theorem g_lend {K : KX} {own nm : String} {cells slots pc : Nat} {lv : List (Nat × Value)} {h : AH} {n bs : Nat} (C : Cx K own nm cL_law (some .boolean)) (hK : KLaw K bs) (hc : cells ≤ 601024) (hs : slots ≤ 7293034) (d : decode cL_law pc = .ok (.ireturn, 1)) : G K cells slots pc lv [.int 1] h n := by
  obtain ⟨p, l, e, R, s, m, args, below, meth, c, nL, E, Q⟩ := K
  intro ls H locs hl hR hn hS
  obtain ⟨rfl, rfl, hB, rfl⟩ := hK
  refine va_forget (fun q hq => by have := hS.2.2 q hq; rw [← hB]; exact this) ?_
  exact W.widen hc hs (lw_ret C.1 C.2.1 C.2.2.2.2.2.2.1 C.2.2.2.2.2.2.2.1 d)
theorem lw_md_r {σ : AH} {x : Nat} {pss : Nat → Nat → Int64} {pps : Nat → Nat → Int64} {phv : Nat → Nat → Int64} {poo : Nat → Nat → Int64} {pcu : Nat → Int64} {pmm : Nat → Int32} {psk : Nat → Int32} {ppk : Nat → Int32} {pkw : Nat → Int64} {psc : Nat → Int32} {ppn : Nat → Int32} {asm : Nat → Int64} {sur : Int64} {bud : Int32} {wan : Int32} {tri : Int32} {fou : Int32} {en : Int32} {eh : Int32} {cho : Nat → Int64} {at' : Nat → Int32} {pa : Nat → Int32} {mo : Nat → Int32} {le : Nat → Int32} {hd : Nat → Int32} {nt : Nat → Int32} {ct : Int32} {sts6 : Nat → Int64} {blo : Nat → Nat → Int32} {bhi : Nat → Nat → Int32} {bem : Nat → Int32} {glo : Nat → Int32} {ghi : Nat → Int32} {gem : Int32} {rlo : Nat → Int32} {rhi : Nat → Int32} {rem : Int32} {rom : Nat → Int32} {fnd : Nat → Int32} {fc : Int32} {prt : Int32} {lim : Int32} {su : Int64} {op : Int64} {m_th : Int32} {m_set : Nat → Int64} {m_mir : Nat → Int32} {m_tgt : Nat → Int32} {m_shs : Nat → Int32} {m_shp : Nat → Int64} {m_pls : Nat → Int32} {m_pl : Nat → Int64} {m_tri : Int32} {m_asm : Nat → Int64} {m_tak : Nat → Int64} {m_pld : Nat → Int32} {m_cel : Nat → Int32} {m_pie : Nat → Int32} {m_nxt : Nat → Int32} {m_cho : Nat → Int64} {m_cbs : Nat → Int32} {m_cub : Nat → Int32} {m_sts : Int32} {m_stt : Nat → Int32} {m_frm : Nat → Int32} {m_by : Nat → Int32} {m_wrk : Nat → Int32} {m_oth : Nat → Int32} {m_mvs : Int32} {m_mov : Nat → Int32} {out : Nat → Int64} {m_th2 : Int32} {m_set2 : Nat → Int64} {m_mir2 : Nat → Int32} {m_tgt2 : Nat → Int32} {m_shs2 : Nat → Int32} {m_shp2 : Nat → Int64} {m_pls2 : Nat → Int32} {m_pl2 : Nat → Int64} {m_tri2 : Int32} {m_asm2 : Nat → Int64} {m_tak2 : Nat → Int64} {m_pld2 : Nat → Int32} {m_cel2 : Nat → Int32} {m_pie2 : Nat → Int32} {m_nxt2 : Nat → Int32} {m_cho2 : Nat → Int64} {m_cbs2 : Nat → Int32} {m_cub2 : Nat → Int32} {m_sts2 : Int32} {m_stt2 : Nat → Int32} {m_frm2 : Nat → Int32} {m_by2 : Nat → Int32} {m_wrk2 : Nat → Int32} {m_oth2 : Nat → Int32} {m_mvs2 : Int32} {m_mov2 : Nat → Int32} : wMd (wSh (wA (wMd σ (x + 71) m_th m_set m_mir m_tgt m_shs m_shp m_pls m_pl m_tri m_asm m_tak m_pld m_cel m_pie m_nxt m_cho m_cbs m_cub m_sts m_stt m_frm m_by m_wrk m_oth m_mvs m_mov) (x + 94) 1 out) x pss pps phv poo pcu pmm psk ppk pkw psc ppn asm sur bud wan tri fou en eh cho at' pa mo le hd nt ct sts6 blo bhi bem glo ghi gem rlo rhi rem rom fnd fc prt lim su op) (x + 71) m_th2 m_set2 m_mir2 m_tgt2 m_shs2 m_shp2 m_pls2 m_pl2 m_tri2 m_asm2 m_tak2 m_pld2 m_cel2 m_pie2 m_nxt2 m_cho2 m_cbs2 m_cub2 m_sts2 m_stt2 m_frm2 m_by2 m_wrk2 m_oth2 m_mvs2 m_mov2 = (wSh (wA (wMd σ (x + 71) m_th2 m_set2 m_mir2 m_tgt2 m_shs2 m_shp2 m_pls2 m_pl2 m_tri2 m_asm2 m_tak2 m_pld2 m_cel2 m_pie2 m_nxt2 m_cho2 m_cbs2 m_cub2 m_sts2 m_stt2 m_frm2 m_by2 m_wrk2 m_oth2 m_mvs2 m_mov2) (x + 94) 1 out) x pss pps phv poo pcu pmm psk ppk pkw psc ppn asm sur bud wan tri fou en eh cho at' pa mo le hd nt ct sts6 blo bhi bem glo ghi gem rlo rhi rem rom fnd fc prt lim su op) := by
  unfold wMd wSh wA
  rw [wL_comm (by show _ + 71 ≤ _ ∨ _; omega), wL_comm (a := x + 94) (b := x + 71) (by show _ ∨ _ + 23 ≤ _; omega), wL_wL (by rfl)]
theorem lw_md_s {σ : AH} {x : Nat} {pss : Nat → Nat → Int64} {pps : Nat → Nat → Int64} {phv : Nat → Nat → Int64} {poo : Nat → Nat → Int64} {pcu : Nat → Int64} {pmm : Nat → Int32} {psk : Nat → Int32} {ppk : Nat → Int32} {pkw : Nat → Int64} {psc : Nat → Int32} {ppn : Nat → Int32} {asm : Nat → Int64} {sur : Int64} {bud : Int32} {wan : Int32} {tri : Int32} {fou : Int32} {en : Int32} {eh : Int32} {cho : Nat → Int64} {at' : Nat → Int32} {pa : Nat → Int32} {mo : Nat → Int32} {le : Nat → Int32} {hd : Nat → Int32} {nt : Nat → Int32} {ct : Int32} {sts6 : Nat → Int64} {blo : Nat → Nat → Int32} {bhi : Nat → Nat → Int32} {bem : Nat → Int32} {glo : Nat → Int32} {ghi : Nat → Int32} {gem : Int32} {rlo : Nat → Int32} {rhi : Nat → Int32} {rem : Int32} {rom : Nat → Int32} {fnd : Nat → Int32} {fc : Int32} {prt : Int32} {lim : Int32} {su : Int64} {op : Int64} {m_th : Int32} {m_set : Nat → Int64} {m_mir : Nat → Int32} {m_tgt : Nat → Int32} {m_shs : Nat → Int32} {m_shp : Nat → Int64} {m_pls : Nat → Int32} {m_pl : Nat → Int64} {m_tri : Int32} {m_asm : Nat → Int64} {m_tak : Nat → Int64} {m_pld : Nat → Int32} {m_cel : Nat → Int32} {m_pie : Nat → Int32} {m_nxt : Nat → Int32} {m_cho : Nat → Int64} {m_cbs : Nat → Int32} {m_cub : Nat → Int32} {m_sts : Int32} {m_stt : Nat → Int32} {m_frm : Nat → Int32} {m_by : Nat → Int32} {m_wrk : Nat → Int32} {m_oth : Nat → Int32} {m_mvs : Int32} {m_mov : Nat → Int32} {out : Nat → Int64} : (wSh (wA (wMd σ (x + 71) m_th m_set m_mir m_tgt m_shs m_shp m_pls m_pl m_tri m_asm m_tak m_pld m_cel m_pie m_nxt m_cho m_cbs m_cub m_sts m_stt m_frm m_by m_wrk m_oth m_mvs m_mov) (x + 94) 1 out) x pss pps phv poo pcu pmm psk ppk pkw psc ppn asm sur bud wan tri fou en eh cho at' pa mo le hd nt ct sts6 blo bhi bem glo ghi gem rlo rhi rem rom fnd fc prt lim su op) = wMd (wSh (wA (wMd σ (x + 71) m_th m_set m_mir m_tgt m_shs m_shp m_pls m_pl m_tri m_asm m_tak m_pld m_cel m_pie m_nxt m_cho m_cbs m_cub m_sts m_stt m_frm m_by m_wrk m_oth m_mvs m_mov) (x + 94) 1 out) x pss pps phv poo pcu pmm psk ppk pkw psc ppn asm sur bud wan tri fou en eh cho at' pa mo le hd nt ct sts6 blo bhi bem glo ghi gem rlo rhi rem rom fnd fc prt lim su op) (x + 71) m_th m_set m_mir m_tgt m_shs m_shp m_pls m_pl m_tri m_asm m_tak m_pld m_cel m_pie m_nxt m_cho m_cbs m_cub m_sts m_stt m_frm m_by m_wrk m_oth m_mvs m_mov := lw_md_r.symm
theorem wk_X7_thrown : Cond.code yX7_thrown cX7_thrown 1 (some .int) ∈ TT := tt_mem 866 (by decide +kernel) (by decide +kernel)
theorem wm_RL_74 : Cond.methodLink RL 74 yX7_thrown ∈ TT := tt_mem 863 (by decide +kernel) (by decide +kernel)
theorem wn_X7_thrown : Cond.instanceMethod yX7_thrown ∈ TT := tt_mem 864 (by decide +kernel) (by decide +kernel)
theorem wv_X7_thrown : Cond.selects yX7_thrown.cls yX7_thrown yX7_thrown ∈ TT := tt_mem 865 (by decide +kernel) (by decide +kernel)
theorem wk_X7_cube : Cond.code yX7_cube cX7_cube 5 (some .int) ∈ TT := tt_mem 870 (by decide +kernel) (by decide +kernel)
theorem wm_RL_73 : Cond.methodLink RL 73 yX7_cube ∈ TT := tt_mem 867 (by decide +kernel) (by decide +kernel)
theorem wn_X7_cube : Cond.instanceMethod yX7_cube ∈ TT := tt_mem 868 (by decide +kernel) (by decide +kernel)
theorem wv_X7_cube : Cond.selects yX7_cube.cls yX7_cube yX7_cube ∈ TT := tt_mem 869 (by decide +kernel) (by decide +kernel)
theorem wm_RL_68 : Cond.methodLink RL 68 yL_cube ∈ TT := tt_mem 259 (by decide +kernel) (by decide +kernel)
theorem ws_L_cube : Cond.static yL_cube ∈ TT := tt_mem 260 (by decide +kernel) (by decide +kernel)
theorem wi_RL : Cond.initialized RL ∈ TT := tt_mem 33 (by decide +kernel) (by decide +kernel)
theorem wk_L_cube : Cond.codeWith yL_cube cL_cube 6 (some .int) [(0, 12, 15, 13), (0, 12, 19, 15)] ∈ TT := tt_mem 261 (by decide +kernel) (by decide +kernel)
theorem wk_X7_mirror : Cond.code yX7_mirror cX7_mirror 3 none ∈ TT := tt_mem 883 (by decide +kernel) (by decide +kernel)
theorem wm_RL_81 : Cond.methodLink RL 81 yX7_mirror ∈ TT := tt_mem 880 (by decide +kernel) (by decide +kernel)
theorem wn_X7_mirror : Cond.instanceMethod yX7_mirror ∈ TT := tt_mem 881 (by decide +kernel) (by decide +kernel)
theorem wv_X7_mirror : Cond.selects yX7_mirror.cls yX7_mirror yX7_mirror ∈ TT := tt_mem 882 (by decide +kernel) (by decide +kernel)
theorem wm_RL_78 : Cond.methodLink RL 78 yL_mirror ∈ TT := tt_mem 382 (by decide +kernel) (by decide +kernel)
theorem ws_L_mirror : Cond.static yL_mirror ∈ TT := tt_mem 383 (by decide +kernel) (by decide +kernel)
theorem wk_L_mirror : Cond.codeWith yL_mirror cL_mirror 4 (some .int) [(0, 6, 9, 13)] ∈ TT := tt_mem 384 (by decide +kernel) (by decide +kernel)
theorem wk_X7_shapes : Cond.code yX7_shapes cX7_shapes 2 (some .int) ∈ TT := tt_mem 891 (by decide +kernel) (by decide +kernel)
theorem wm_RL_85 : Cond.methodLink RL 85 yX7_shapes ∈ TT := tt_mem 888 (by decide +kernel) (by decide +kernel)
theorem wn_X7_shapes : Cond.instanceMethod yX7_shapes ∈ TT := tt_mem 889 (by decide +kernel) (by decide +kernel)
theorem wv_X7_shapes : Cond.selects yX7_shapes.cls yX7_shapes yX7_shapes ∈ TT := tt_mem 890 (by decide +kernel) (by decide +kernel)
theorem wm_RL_82 : Cond.methodLink RL 82 yL_shapes ∈ TT := tt_mem 393 (by decide +kernel) (by decide +kernel)
theorem ws_L_shapes : Cond.static yL_shapes ∈ TT := tt_mem 394 (by decide +kernel) (by decide +kernel)
theorem wk_L_shapes : Cond.codeWith yL_shapes cL_shapes 4 (some .int) [(0, 9, 12, 13)] ∈ TT := tt_mem 395 (by decide +kernel) (by decide +kernel)
theorem wk_X7_shape : Cond.code yX7_shape cX7_shape 3 (some .long) ∈ TT := tt_mem 918 (by decide +kernel) (by decide +kernel)
theorem wm_RL_89 : Cond.methodLink RL 89 yX7_shape ∈ TT := tt_mem 915 (by decide +kernel) (by decide +kernel)
theorem wn_X7_shape : Cond.instanceMethod yX7_shape ∈ TT := tt_mem 916 (by decide +kernel) (by decide +kernel)
theorem wv_X7_shape : Cond.selects yX7_shape.cls yX7_shape yX7_shape ∈ TT := tt_mem 917 (by decide +kernel) (by decide +kernel)
theorem wm_RL_86 : Cond.methodLink RL 86 yL_shape ∈ TT := tt_mem 455 (by decide +kernel) (by decide +kernel)
theorem ws_L_shape : Cond.static yL_shape ∈ TT := tt_mem 456 (by decide +kernel) (by decide +kernel)
theorem wk_L_shape : Cond.codeWith yL_shape cL_shape 5 (some .int) [(0, 9, 12, 13), (0, 9, 16, 29)] ∈ TT := tt_mem 457 (by decide +kernel) (by decide +kernel)
theorem wk_X7_target : Cond.code yX7_target cX7_target 3 none ∈ TT := tt_mem 922 (by decide +kernel) (by decide +kernel)
theorem wm_RL_93 : Cond.methodLink RL 93 yX7_target ∈ TT := tt_mem 919 (by decide +kernel) (by decide +kernel)
theorem wn_X7_target : Cond.instanceMethod yX7_target ∈ TT := tt_mem 920 (by decide +kernel) (by decide +kernel)
theorem wv_X7_target : Cond.selects yX7_target.cls yX7_target yX7_target ∈ TT := tt_mem 921 (by decide +kernel) (by decide +kernel)
theorem wm_RL_90 : Cond.methodLink RL 90 yL_target ∈ TT := tt_mem 483 (by decide +kernel) (by decide +kernel)
theorem ws_L_target : Cond.static yL_target ∈ TT := tt_mem 484 (by decide +kernel) (by decide +kernel)
theorem wk_L_target : Cond.codeWith yL_target cL_target 4 (some .int) [(0, 6, 9, 13)] ∈ TT := tt_mem 485 (by decide +kernel) (by decide +kernel)
theorem wk_X7_places : Cond.code yX7_places cX7_places 2 (some .int) ∈ TT := tt_mem 926 (by decide +kernel) (by decide +kernel)
theorem wm_RL_96 : Cond.methodLink RL 96 yX7_places ∈ TT := tt_mem 923 (by decide +kernel) (by decide +kernel)
theorem wn_X7_places : Cond.instanceMethod yX7_places ∈ TT := tt_mem 924 (by decide +kernel) (by decide +kernel)
theorem wv_X7_places : Cond.selects yX7_places.cls yX7_places yX7_places ∈ TT := tt_mem 925 (by decide +kernel) (by decide +kernel)
theorem wm_RL_94 : Cond.methodLink RL 94 yL_places ∈ TT := tt_mem 492 (by decide +kernel) (by decide +kernel)
theorem ws_L_places : Cond.static yL_places ∈ TT := tt_mem 493 (by decide +kernel) (by decide +kernel)
theorem wk_L_places : Cond.codeWith yL_places cL_places 4 (some .int) [(0, 9, 12, 13)] ∈ TT := tt_mem 494 (by decide +kernel) (by decide +kernel)
theorem wk_X7_pack : Cond.code yX7_pack cX7_pack 3 (some .int) ∈ TT := tt_mem 937 (by decide +kernel) (by decide +kernel)
theorem wm_RL_99 : Cond.methodLink RL 99 yX7_pack ∈ TT := tt_mem 934 (by decide +kernel) (by decide +kernel)
theorem wn_X7_pack : Cond.instanceMethod yX7_pack ∈ TT := tt_mem 935 (by decide +kernel) (by decide +kernel)
theorem wv_X7_pack : Cond.selects yX7_pack.cls yX7_pack yX7_pack ∈ TT := tt_mem 936 (by decide +kernel) (by decide +kernel)
theorem wm_RL_97 : Cond.methodLink RL 97 yL_pack ∈ TT := tt_mem 527 (by decide +kernel) (by decide +kernel)
theorem ws_L_pack : Cond.static yL_pack ∈ TT := tt_mem 528 (by decide +kernel) (by decide +kernel)
theorem wk_L_pack : Cond.codeWith yL_pack cL_pack 4 (some .int) [(0, 9, 12, 13)] ∈ TT := tt_mem 529 (by decide +kernel) (by decide +kernel)
theorem wk_X7_tries : Cond.code yX7_tries cX7_tries 1 (some .int) ∈ TT := tt_mem 951 (by decide +kernel) (by decide +kernel)
theorem wm_RL_103 : Cond.methodLink RL 103 yX7_tries ∈ TT := tt_mem 948 (by decide +kernel) (by decide +kernel)
theorem wn_X7_tries : Cond.instanceMethod yX7_tries ∈ TT := tt_mem 949 (by decide +kernel) (by decide +kernel)
theorem wv_X7_tries : Cond.selects yX7_tries.cls yX7_tries yX7_tries ∈ TT := tt_mem 950 (by decide +kernel) (by decide +kernel)
theorem wk_X6_tries : Cond.code yX6_tries cX6_tries 1 (some .int) ∈ TT := tt_mem 242 (by decide +kernel) (by decide +kernel)
theorem wm_RL_100 : Cond.methodLink RL 100 yX6_tries ∈ TT := tt_mem 239 (by decide +kernel) (by decide +kernel)
theorem wn_X6_tries : Cond.instanceMethod yX6_tries ∈ TT := tt_mem 240 (by decide +kernel) (by decide +kernel)
theorem wv_X6_tries : Cond.selects yX6_tries.cls yX6_tries yX6_tries ∈ TT := tt_mem 241 (by decide +kernel) (by decide +kernel)
theorem wk_X7_assemble : Cond.code yX7_assemble cX7_assemble 5 (some .boolean) ∈ TT := tt_mem 955 (by decide +kernel) (by decide +kernel)
theorem wm_RL_106 : Cond.methodLink RL 106 yX7_assemble ∈ TT := tt_mem 952 (by decide +kernel) (by decide +kernel)
theorem wn_X7_assemble : Cond.instanceMethod yX7_assemble ∈ TT := tt_mem 953 (by decide +kernel) (by decide +kernel)
theorem wv_X7_assemble : Cond.selects yX7_assemble.cls yX7_assemble yX7_assemble ∈ TT := tt_mem 954 (by decide +kernel) (by decide +kernel)
theorem wm_RL_104 : Cond.methodLink RL 104 yL_assemble ∈ TT := tt_mem 583 (by decide +kernel) (by decide +kernel)
theorem ws_L_assemble : Cond.static yL_assemble ∈ TT := tt_mem 584 (by decide +kernel) (by decide +kernel)
theorem wk_L_assemble : Cond.codeWith yL_assemble cL_assemble 5 (some .int) [(0, 17, 20, 13)] ∈ TT := tt_mem 585 (by decide +kernel) (by decide +kernel)
theorem wc_RL_107 : Cond.constantLong RL 107 (4294967295) ∈ TT := tt_mem 1010 (by decide +kernel) (by decide +kernel)
theorem wk_X7_put : Cond.code yX7_put cX7_put 7 none ∈ TT := tt_mem 959 (by decide +kernel) (by decide +kernel)
theorem wm_RL_112 : Cond.methodLink RL 112 yX7_put ∈ TT := tt_mem 956 (by decide +kernel) (by decide +kernel)
theorem wn_X7_put : Cond.instanceMethod yX7_put ∈ TT := tt_mem 957 (by decide +kernel) (by decide +kernel)
theorem wv_X7_put : Cond.selects yX7_put.cls yX7_put yX7_put ∈ TT := tt_mem 958 (by decide +kernel) (by decide +kernel)
theorem wm_RL_109 : Cond.methodLink RL 109 yL_put ∈ TT := tt_mem 599 (by decide +kernel) (by decide +kernel)
theorem ws_L_put : Cond.static yL_put ∈ TT := tt_mem 600 (by decide +kernel) (by decide +kernel)
theorem wk_L_put : Cond.codeWith yL_put cL_put 5 (some .int) [(0, 6, 9, 13), (0, 6, 13, 15)] ∈ TT := tt_mem 601 (by decide +kernel) (by decide +kernel)
theorem wk_X7_take : Cond.code yX7_take cX7_take 2 none ∈ TT := tt_mem 963 (by decide +kernel) (by decide +kernel)
theorem wm_RL_116 : Cond.methodLink RL 116 yX7_take ∈ TT := tt_mem 960 (by decide +kernel) (by decide +kernel)
theorem wn_X7_take : Cond.instanceMethod yX7_take ∈ TT := tt_mem 961 (by decide +kernel) (by decide +kernel)
theorem wv_X7_take : Cond.selects yX7_take.cls yX7_take yX7_take ∈ TT := tt_mem 962 (by decide +kernel) (by decide +kernel)
theorem wm_RL_113 : Cond.methodLink RL 113 yL_take ∈ TT := tt_mem 614 (by decide +kernel) (by decide +kernel)
theorem ws_L_take : Cond.static yL_take ∈ TT := tt_mem 615 (by decide +kernel) (by decide +kernel)
theorem wk_L_take : Cond.codeWith yL_take cL_take 3 (some .int) [(0, 5, 8, 13), (0, 5, 11, 15)] ∈ TT := tt_mem 616 (by decide +kernel) (by decide +kernel)
theorem wk_X7_cells : Cond.code yX7_cells cX7_cells 2 (some .long) ∈ TT := tt_mem 967 (by decide +kernel) (by decide +kernel)
theorem wm_RL_119 : Cond.methodLink RL 119 yX7_cells ∈ TT := tt_mem 964 (by decide +kernel) (by decide +kernel)
theorem wn_X7_cells : Cond.instanceMethod yX7_cells ∈ TT := tt_mem 965 (by decide +kernel) (by decide +kernel)
theorem wv_X7_cells : Cond.selects yX7_cells.cls yX7_cells yX7_cells ∈ TT := tt_mem 966 (by decide +kernel) (by decide +kernel)
theorem wm_RL_117 : Cond.methodLink RL 117 yL_cells ∈ TT := tt_mem 622 (by decide +kernel) (by decide +kernel)
theorem ws_L_cells : Cond.static yL_cells ∈ TT := tt_mem 623 (by decide +kernel) (by decide +kernel)
theorem wk_L_cells : Cond.codeWith yL_cells cL_cells 4 (some .int) [(0, 8, 11, 13)] ∈ TT := tt_mem 624 (by decide +kernel) (by decide +kernel)
theorem wk_X7_plan : Cond.code yX7_plan cX7_plan 9 (some .int) ∈ TT := tt_mem 971 (by decide +kernel) (by decide +kernel)
theorem wm_RL_122 : Cond.methodLink RL 122 yX7_plan ∈ TT := tt_mem 968 (by decide +kernel) (by decide +kernel)
theorem wn_X7_plan : Cond.instanceMethod yX7_plan ∈ TT := tt_mem 969 (by decide +kernel) (by decide +kernel)
theorem wv_X7_plan : Cond.selects yX7_plan.cls yX7_plan yX7_plan ∈ TT := tt_mem 970 (by decide +kernel) (by decide +kernel)
theorem wm_RL_120 : Cond.methodLink RL 120 yL_plan ∈ TT := tt_mem 629 (by decide +kernel) (by decide +kernel)
theorem ws_L_plan : Cond.static yL_plan ∈ TT := tt_mem 630 (by decide +kernel) (by decide +kernel)
theorem wk_L_plan : Cond.codeWith yL_plan cL_plan 5 (some .int) [(0, 10, 13, 13)] ∈ TT := tt_mem 631 (by decide +kernel) (by decide +kernel)
theorem wk_X7_states : Cond.code yX7_states cX7_states 1 (some .int) ∈ TT := tt_mem 1005 (by decide +kernel) (by decide +kernel)
theorem wm_RL_126 : Cond.methodLink RL 126 yX7_states ∈ TT := tt_mem 1002 (by decide +kernel) (by decide +kernel)
theorem wn_X7_states : Cond.instanceMethod yX7_states ∈ TT := tt_mem 1003 (by decide +kernel) (by decide +kernel)
theorem wv_X7_states : Cond.selects yX7_states.cls yX7_states yX7_states ∈ TT := tt_mem 1004 (by decide +kernel) (by decide +kernel)
theorem wk_X6_states : Cond.code yX6_states cX6_states 1 (some .int) ∈ TT := tt_mem 250 (by decide +kernel) (by decide +kernel)
theorem wm_RL_123 : Cond.methodLink RL 123 yX6_states ∈ TT := tt_mem 247 (by decide +kernel) (by decide +kernel)
theorem wn_X6_states : Cond.instanceMethod yX6_states ∈ TT := tt_mem 248 (by decide +kernel) (by decide +kernel)
theorem wv_X6_states : Cond.selects yX6_states.cls yX6_states yX6_states ∈ TT := tt_mem 249 (by decide +kernel) (by decide +kernel)
theorem wk_X7_move : Cond.code yX7_move cX7_move 2 (some .int) ∈ TT := tt_mem 1009 (by decide +kernel) (by decide +kernel)
theorem wm_RL_129 : Cond.methodLink RL 129 yX7_move ∈ TT := tt_mem 1006 (by decide +kernel) (by decide +kernel)
theorem wn_X7_move : Cond.instanceMethod yX7_move ∈ TT := tt_mem 1007 (by decide +kernel) (by decide +kernel)
theorem wv_X7_move : Cond.selects yX7_move.cls yX7_move yX7_move ∈ TT := tt_mem 1008 (by decide +kernel) (by decide +kernel)
theorem wm_RL_127 : Cond.methodLink RL 127 yL_move ∈ TT := tt_mem 761 (by decide +kernel) (by decide +kernel)
theorem ws_L_move : Cond.static yL_move ∈ TT := tt_mem 762 (by decide +kernel) (by decide +kernel)
theorem wk_L_move : Cond.codeWith yL_move cL_move 4 (some .int) [(0, 9, 12, 29)] ∈ TT := tt_mem 763 (by decide +kernel) (by decide +kernel)
def f_L_law_23 (xs : Nat → Int32) (L : Nat) : Nat → Int32 → (Nat → Nat → Int64) → (Nat → Nat → Int64) → (Nat → Nat → Int64) → (Nat → Nat → Int64) → (Nat → Int64) → (Nat → Int32) → (Nat → Int32) → (Nat → Int32) → (Nat → Int64) → (Nat → Int32) → (Nat → Int32) → (Nat → Int64) → Int64 → Int32 → Int32 → Int32 → Int32 → Int32 → Int32 → (Nat → Int64) → (Nat → Int32) → (Nat → Int32) → (Nat → Int32) → (Nat → Int32) → (Nat → Int32) → (Nat → Int32) → Int32 → (Nat → Int64) → (Nat → Nat → Int32) → (Nat → Nat → Int32) → (Nat → Int32) → (Nat → Int32) → (Nat → Int32) → Int32 → (Nat → Int32) → (Nat → Int32) → Int32 → (Nat → Int32) → (Nat → Int32) → Int32 → Int32 → Int32 → Int64 → Int64 → Int32 → (Nat → Int64) → (Nat → Int32) → (Nat → Int32) → (Nat → Int32) → (Nat → Int64) → (Nat → Int32) → (Nat → Int64) → Int32 → (Nat → Int64) → (Nat → Int64) → (Nat → Int32) → (Nat → Int32) → (Nat → Int32) → (Nat → Int32) → (Nat → Int64) → (Nat → Int32) → (Nat → Int32) → Int32 → (Nat → Int32) → (Nat → Int32) → (Nat → Int32) → (Nat → Int32) → (Nat → Int32) → Int32 → (Nat → Int32) → (Nat → Int64) → Option Int32
  | 0, _, _, _, _, _, _, _, _, _, _, _, _, _, _, _, _, _, _, _, _, _, _, _, _, _, _, _, _, _, _, _, _, _, _, _, _, _, _, _, _, _, _, _, _, _, _, _, _, _, _, _, _, _, _, _, _, _, _, _, _, _, _, _, _, _, _, _, _, _, _, _, _ => none
  | fu + 1, l4, pss, pps, phv, poo, pcu, pmm, psk, ppk, pkw, psc, ppn, asm, sur, bud, wan, tri, fou, en, eh, cho, at', pa, mo, le, hd, nt, ct, sts6, blo, bhi, bem, glo, ghi, gem, rlo, rhi, rem, rom, fnd, fc, prt, lim, su, op, m_th, m_set, m_mir, m_tgt, m_shs, m_shp, m_pls, m_pl, m_tri, m_asm, m_tak, m_pld, m_cel, m_pie, m_nxt, m_cho, m_cbs, m_cub, m_sts, m_stt, m_frm, m_by, m_wrk, m_oth, m_mvs, m_mov, out => (if ((nI L) - (4 : Int32)) < l4 then some (1 : Int32) else (if inB l4 L = true then (if ((xs l4.toNatClampNeg) &&& (15 : Int32)) = (0 : Int32) then (if inB (l4 + (1 : Int32)) L = true then (if inB (l4 + (2 : Int32)) L = true then (if inB (l4 + (3 : Int32)) L = true then ((f_L_cube pcu psk ppk asm out (xs (l4 + (1 : Int32)).toNatClampNeg) (xs (l4 + (2 : Int32)).toNatClampNeg) (if (xs (l4 + (3 : Int32)).toNatClampNeg) = 0 then (0 : Int32) else (1 : Int32))).bind fun q6 => (if inB (l4 + (1 : Int32)) L = true then (if inB (l4 + (2 : Int32)) L = true then (if inB (l4 + (3 : Int32)) L = true then ((f_X7_cube fu m_set m_asm (xs (l4 + (1 : Int32)).toNatClampNeg) (xs (l4 + (2 : Int32)).toNatClampNeg) (if (xs (l4 + (3 : Int32)).toNatClampNeg) = 0 then (0 : Int32) else (1 : Int32))).bind fun q10 => ((f_X7_thrown q10.2.1).bind fun q11 => (if q11 = q6.1 then (if q6.1 = 0 then (if inB (0 : Int32) 1 = true then (if (q6.2.2.2.2.2 (0 : Int32).toNatClampNeg) = q10.1.toInt64 then f_L_law_23 xs L fu (l4 + (4 : Int32)) pss pps phv poo q6.2.1 pmm q6.2.2.1 q6.2.2.2.1 pkw psc ppn q6.2.2.2.2.1 sur bud wan tri fou en eh cho at' pa mo le hd nt ct sts6 blo bhi bem glo ghi gem rlo rhi rem rom fnd fc prt lim su op q10.2.1 q10.2.2.1 m_mir m_tgt m_shs m_shp m_pls m_pl m_tri q10.2.2.2 m_tak m_pld m_cel m_pie m_nxt m_cho m_cbs m_cub m_sts m_stt m_frm m_by m_wrk m_oth m_mvs m_mov q6.2.2.2.2.2 else some (0 : Int32)) else none) else f_L_law_23 xs L fu (l4 + (4 : Int32)) pss pps phv poo q6.2.1 pmm q6.2.2.1 q6.2.2.2.1 pkw psc ppn q6.2.2.2.2.1 sur bud wan tri fou en eh cho at' pa mo le hd nt ct sts6 blo bhi bem glo ghi gem rlo rhi rem rom fnd fc prt lim su op q10.2.1 q10.2.2.1 m_mir m_tgt m_shs m_shp m_pls m_pl m_tri q10.2.2.2 m_tak m_pld m_cel m_pie m_nxt m_cho m_cbs m_cub m_sts m_stt m_frm m_by m_wrk m_oth m_mvs m_mov q6.2.2.2.2.2) else some (0 : Int32)))) else none) else none) else none)) else none) else none) else none) else (if ((xs l4.toNatClampNeg) &&& (15 : Int32)) = (1 : Int32) then (if inB (l4 + (1 : Int32)) L = true then (if inB (l4 + (2 : Int32)) L = true then ((f_L_mirror pmm psk ppk (xs (l4 + (1 : Int32)).toNatClampNeg) (if (xs (l4 + (2 : Int32)).toNatClampNeg) = 0 then (0 : Int32) else (1 : Int32))).bind fun q22 => (if inB (l4 + (1 : Int32)) L = true then (if inB (l4 + (2 : Int32)) L = true then ((f_X7_mirror m_mir (xs (l4 + (1 : Int32)).toNatClampNeg) (if (xs (l4 + (2 : Int32)).toNatClampNeg) = 0 then (0 : Int32) else (1 : Int32))).bind fun q25 => ((f_X7_thrown q25.1).bind fun q26 => (if q26 = q22.1 then f_L_law_23 xs L fu (l4 + (4 : Int32)) pss pps phv poo pcu q22.2.1 q22.2.2.1 q22.2.2.2 pkw psc ppn asm sur bud wan tri fou en eh cho at' pa mo le hd nt ct sts6 blo bhi bem glo ghi gem rlo rhi rem rom fnd fc prt lim su op q25.1 m_set q25.2 m_tgt m_shs m_shp m_pls m_pl m_tri m_asm m_tak m_pld m_cel m_pie m_nxt m_cho m_cbs m_cub m_sts m_stt m_frm m_by m_wrk m_oth m_mvs m_mov out else some (0 : Int32)))) else none) else none)) else none) else none) else (if ((xs l4.toNatClampNeg) &&& (15 : Int32)) = (2 : Int32) then (if inB (l4 + (1 : Int32)) L = true then ((f_L_shapes fu pss pcu pmm psk psc out (xs (l4 + (1 : Int32)).toNatClampNeg)).bind fun q33 => (if inB (l4 + (1 : Int32)) L = true then ((f_X7_shapes fu m_set m_mir m_shs m_shp (xs (l4 + (1 : Int32)).toNatClampNeg)).bind fun q35 => ((f_X7_thrown q35.2.1).bind fun q36 => (if q36 = q33.1 then (if q33.1 = 0 then (if inB (0 : Int32) 1 = true then (if (q33.2.2.2.2 (0 : Int32).toNatClampNeg) = q35.1.toInt64 then f_L_law_23 xs L fu (l4 + (4 : Int32)) q33.2.1 pps phv poo pcu pmm q33.2.2.1 ppk pkw q33.2.2.2.1 ppn asm sur bud wan tri fou en eh cho at' pa mo le hd nt ct sts6 blo bhi bem glo ghi gem rlo rhi rem rom fnd fc prt lim su op q35.2.1 m_set m_mir m_tgt q35.2.2.1 q35.2.2.2 m_pls m_pl m_tri m_asm m_tak m_pld m_cel m_pie m_nxt m_cho m_cbs m_cub m_sts m_stt m_frm m_by m_wrk m_oth m_mvs m_mov q33.2.2.2.2 else some (0 : Int32)) else none) else f_L_law_23 xs L fu (l4 + (4 : Int32)) q33.2.1 pps phv poo pcu pmm q33.2.2.1 ppk pkw q33.2.2.2.1 ppn asm sur bud wan tri fou en eh cho at' pa mo le hd nt ct sts6 blo bhi bem glo ghi gem rlo rhi rem rom fnd fc prt lim su op q35.2.1 m_set m_mir m_tgt q35.2.2.1 q35.2.2.2 m_pls m_pl m_tri m_asm m_tak m_pld m_cel m_pie m_nxt m_cho m_cbs m_cub m_sts m_stt m_frm m_by m_wrk m_oth m_mvs m_mov q33.2.2.2.2) else some (0 : Int32)))) else none)) else none) else (if ((xs l4.toNatClampNeg) &&& (15 : Int32)) = (3 : Int32) then (if inB (l4 + (1 : Int32)) L = true then (if inB (l4 + (2 : Int32)) L = true then ((f_L_shape fu pss pcu pmm psk psc out (xs (l4 + (1 : Int32)).toNatClampNeg) (xs (l4 + (2 : Int32)).toNatClampNeg)).bind fun q43 => (if inB (l4 + (1 : Int32)) L = true then (if inB (l4 + (2 : Int32)) L = true then ((f_X7_shape fu m_set m_mir m_shs m_shp (xs (l4 + (1 : Int32)).toNatClampNeg) (xs (l4 + (2 : Int32)).toNatClampNeg)).bind fun q46 => ((f_X7_thrown q46.2.1).bind fun q47 => (if q47 = q43.1 then (if q43.1 = 0 then (if inB (0 : Int32) 1 = true then (if (q43.2.2.2.2 (0 : Int32).toNatClampNeg) = q46.1 then f_L_law_23 xs L fu (l4 + (4 : Int32)) q43.2.1 pps phv poo pcu pmm q43.2.2.1 ppk pkw q43.2.2.2.1 ppn asm sur bud wan tri fou en eh cho at' pa mo le hd nt ct sts6 blo bhi bem glo ghi gem rlo rhi rem rom fnd fc prt lim su op q46.2.1 m_set m_mir m_tgt q46.2.2.1 q46.2.2.2 m_pls m_pl m_tri m_asm m_tak m_pld m_cel m_pie m_nxt m_cho m_cbs m_cub m_sts m_stt m_frm m_by m_wrk m_oth m_mvs m_mov q43.2.2.2.2 else some (0 : Int32)) else none) else f_L_law_23 xs L fu (l4 + (4 : Int32)) q43.2.1 pps phv poo pcu pmm q43.2.2.1 ppk pkw q43.2.2.2.1 ppn asm sur bud wan tri fou en eh cho at' pa mo le hd nt ct sts6 blo bhi bem glo ghi gem rlo rhi rem rom fnd fc prt lim su op q46.2.1 m_set m_mir m_tgt q46.2.2.1 q46.2.2.2 m_pls m_pl m_tri m_asm m_tak m_pld m_cel m_pie m_nxt m_cho m_cbs m_cub m_sts m_stt m_frm m_by m_wrk m_oth m_mvs m_mov q43.2.2.2.2) else some (0 : Int32)))) else none) else none)) else none) else none) else (if ((xs l4.toNatClampNeg) &&& (15 : Int32)) = (4 : Int32) then (if inB (l4 + (1 : Int32)) L = true then (if inB (l4 + (2 : Int32)) L = true then ((f_L_target su op (xs (l4 + (1 : Int32)).toNatClampNeg) (xs (l4 + (2 : Int32)).toNatClampNeg)).bind fun q54 => (if inB (l4 + (1 : Int32)) L = true then (if inB (l4 + (2 : Int32)) L = true then ((f_X7_target m_tgt (xs (l4 + (1 : Int32)).toNatClampNeg) (xs (l4 + (2 : Int32)).toNatClampNeg)).bind fun q57 => ((f_X7_thrown q57.1).bind fun q58 => (if q58 = q54.1 then f_L_law_23 xs L fu (l4 + (4 : Int32)) pss pps phv poo pcu pmm psk ppk pkw psc ppn asm sur bud wan tri fou en eh cho at' pa mo le hd nt ct sts6 blo bhi bem glo ghi gem rlo rhi rem rom fnd fc prt lim q54.2.1 q54.2.2 q57.1 m_set m_mir q57.2 m_shs m_shp m_pls m_pl m_tri m_asm m_tak m_pld m_cel m_pie m_nxt m_cho m_cbs m_cub m_sts m_stt m_frm m_by m_wrk m_oth m_mvs m_mov out else some (0 : Int32)))) else none) else none)) else none) else none) else (if ((xs l4.toNatClampNeg) &&& (15 : Int32)) = (5 : Int32) then (if inB (l4 + (1 : Int32)) L = true then ((f_L_places fu pss pps phv poo pcu pmm psk ppk pkw psc ppn su op out (xs (l4 + (1 : Int32)).toNatClampNeg)).bind fun q61 => (if inB (l4 + (1 : Int32)) L = true then ((f_X7_places fu m_set m_mir m_tgt m_shs m_shp m_pls m_pl (xs (l4 + (1 : Int32)).toNatClampNeg)).bind fun q63 => ((f_X7_thrown q63.2.1).bind fun q64 => (if q64 = q61.1 then (if q61.1 = 0 then (if inB (0 : Int32) 1 = true then (if (q61.2.2.2.2.2.2.2.2.2.2 (0 : Int32).toNatClampNeg) = q63.1.toInt64 then f_L_law_23 xs L fu (l4 + (4 : Int32)) q61.2.1 q61.2.2.1 q61.2.2.2.1 q61.2.2.2.2.1 pcu pmm q61.2.2.2.2.2.1 q61.2.2.2.2.2.2.1 q61.2.2.2.2.2.2.2.1 q61.2.2.2.2.2.2.2.2.1 q61.2.2.2.2.2.2.2.2.2.1 asm sur bud wan tri fou en eh cho at' pa mo le hd nt ct sts6 blo bhi bem glo ghi gem rlo rhi rem rom fnd fc prt lim su op q63.2.1 m_set m_mir m_tgt q63.2.2.1 q63.2.2.2.1 q63.2.2.2.2.1 q63.2.2.2.2.2 m_tri m_asm m_tak m_pld m_cel m_pie m_nxt m_cho m_cbs m_cub m_sts m_stt m_frm m_by m_wrk m_oth m_mvs m_mov q61.2.2.2.2.2.2.2.2.2.2 else some (0 : Int32)) else none) else f_L_law_23 xs L fu (l4 + (4 : Int32)) q61.2.1 q61.2.2.1 q61.2.2.2.1 q61.2.2.2.2.1 pcu pmm q61.2.2.2.2.2.1 q61.2.2.2.2.2.2.1 q61.2.2.2.2.2.2.2.1 q61.2.2.2.2.2.2.2.2.1 q61.2.2.2.2.2.2.2.2.2.1 asm sur bud wan tri fou en eh cho at' pa mo le hd nt ct sts6 blo bhi bem glo ghi gem rlo rhi rem rom fnd fc prt lim su op q63.2.1 m_set m_mir m_tgt q63.2.2.1 q63.2.2.2.1 q63.2.2.2.2.1 q63.2.2.2.2.2 m_tri m_asm m_tak m_pld m_cel m_pie m_nxt m_cho m_cbs m_cub m_sts m_stt m_frm m_by m_wrk m_oth m_mvs m_mov q61.2.2.2.2.2.2.2.2.2.2) else some (0 : Int32)))) else none)) else none) else (if ((xs l4.toNatClampNeg) &&& (15 : Int32)) = (6 : Int32) then (if inB (l4 + (1 : Int32)) L = true then ((f_L_pack fu pss pps phv poo pcu pmm psk ppk pkw psc ppn sur bud wan tri fou en eh cho su op out (xs (l4 + (1 : Int32)).toNatClampNeg)).bind fun q70 => (if inB (l4 + (1 : Int32)) L = true then ((f_X7_pack fu m_set m_mir m_tgt m_shs m_shp m_pls m_pl m_tri m_tak m_pld m_cel m_pie m_nxt m_cho (xs (l4 + (1 : Int32)).toNatClampNeg)).bind fun q72 => ((f_X7_thrown q72.2.1).bind fun q73 => (if q73 = q70.1 then (if q70.1 = 0 then (if inB (0 : Int32) 1 = true then (if (q70.2.2.2.2.2.2.2.2.2.2.2.2.2.2.2.2.2.2 (0 : Int32).toNatClampNeg) = q72.1.toInt64 then f_L_law_23 xs L fu (l4 + (4 : Int32)) q70.2.1 q70.2.2.1 q70.2.2.2.1 q70.2.2.2.2.1 pcu pmm q70.2.2.2.2.2.1 q70.2.2.2.2.2.2.1 q70.2.2.2.2.2.2.2.1 q70.2.2.2.2.2.2.2.2.1 q70.2.2.2.2.2.2.2.2.2.1 asm q70.2.2.2.2.2.2.2.2.2.2.1 q70.2.2.2.2.2.2.2.2.2.2.2.1 q70.2.2.2.2.2.2.2.2.2.2.2.2.1 q70.2.2.2.2.2.2.2.2.2.2.2.2.2.1 q70.2.2.2.2.2.2.2.2.2.2.2.2.2.2.1 q70.2.2.2.2.2.2.2.2.2.2.2.2.2.2.2.1 q70.2.2.2.2.2.2.2.2.2.2.2.2.2.2.2.2.1 q70.2.2.2.2.2.2.2.2.2.2.2.2.2.2.2.2.2.1 at' pa mo le hd nt ct sts6 blo bhi bem glo ghi gem rlo rhi rem rom fnd fc prt lim su op q72.2.1 m_set m_mir m_tgt q72.2.2.1 q72.2.2.2.1 q72.2.2.2.2.1 q72.2.2.2.2.2.1 q72.2.2.2.2.2.2.1 m_asm q72.2.2.2.2.2.2.2.1 q72.2.2.2.2.2.2.2.2.1 q72.2.2.2.2.2.2.2.2.2.1 q72.2.2.2.2.2.2.2.2.2.2.1 q72.2.2.2.2.2.2.2.2.2.2.2.1 q72.2.2.2.2.2.2.2.2.2.2.2.2 m_cbs m_cub m_sts m_stt m_frm m_by m_wrk m_oth m_mvs m_mov q70.2.2.2.2.2.2.2.2.2.2.2.2.2.2.2.2.2.2 else some (0 : Int32)) else none) else f_L_law_23 xs L fu (l4 + (4 : Int32)) q70.2.1 q70.2.2.1 q70.2.2.2.1 q70.2.2.2.2.1 pcu pmm q70.2.2.2.2.2.1 q70.2.2.2.2.2.2.1 q70.2.2.2.2.2.2.2.1 q70.2.2.2.2.2.2.2.2.1 q70.2.2.2.2.2.2.2.2.2.1 asm q70.2.2.2.2.2.2.2.2.2.2.1 q70.2.2.2.2.2.2.2.2.2.2.2.1 q70.2.2.2.2.2.2.2.2.2.2.2.2.1 q70.2.2.2.2.2.2.2.2.2.2.2.2.2.1 q70.2.2.2.2.2.2.2.2.2.2.2.2.2.2.1 q70.2.2.2.2.2.2.2.2.2.2.2.2.2.2.2.1 q70.2.2.2.2.2.2.2.2.2.2.2.2.2.2.2.2.1 q70.2.2.2.2.2.2.2.2.2.2.2.2.2.2.2.2.2.1 at' pa mo le hd nt ct sts6 blo bhi bem glo ghi gem rlo rhi rem rom fnd fc prt lim su op q72.2.1 m_set m_mir m_tgt q72.2.2.1 q72.2.2.2.1 q72.2.2.2.2.1 q72.2.2.2.2.2.1 q72.2.2.2.2.2.2.1 m_asm q72.2.2.2.2.2.2.2.1 q72.2.2.2.2.2.2.2.2.1 q72.2.2.2.2.2.2.2.2.2.1 q72.2.2.2.2.2.2.2.2.2.2.1 q72.2.2.2.2.2.2.2.2.2.2.2.1 q72.2.2.2.2.2.2.2.2.2.2.2.2 m_cbs m_cub m_sts m_stt m_frm m_by m_wrk m_oth m_mvs m_mov q70.2.2.2.2.2.2.2.2.2.2.2.2.2.2.2.2.2.2) else some (0 : Int32)))) else none)) else none) else (if ((xs l4.toNatClampNeg) &&& (15 : Int32)) = (7 : Int32) then ((f_X6_tries tri).bind fun q78 => ((f_X7_tries m_tri).bind fun q79 => (if q78 = q79.1 then f_L_law_23 xs L fu (l4 + (4 : Int32)) pss pps phv poo pcu pmm psk ppk pkw psc ppn asm sur bud wan tri fou en eh cho at' pa mo le hd nt ct sts6 blo bhi bem glo ghi gem rlo rhi rem rom fnd fc prt lim su op q79.2 m_set m_mir m_tgt m_shs m_shp m_pls m_pl m_tri m_asm m_tak m_pld m_cel m_pie m_nxt m_cho m_cbs m_cub m_sts m_stt m_frm m_by m_wrk m_oth m_mvs m_mov out else some (0 : Int32)))) else (if ((xs l4.toNatClampNeg) &&& (15 : Int32)) = (8 : Int32) then (if inB (l4 + (1 : Int32)) L = true then (if inB (l4 + (2 : Int32)) L = true then ((f_L_assemble fu pss pps phv poo pcu pmm psk ppk pkw psc ppn asm sur bud wan tri fou en eh cho su op out (xs (l4 + (1 : Int32)).toNatClampNeg) (xs (l4 + (2 : Int32)).toNatClampNeg)).bind fun q83 => (if inB (l4 + (1 : Int32)) L = true then (if inB (l4 + (2 : Int32)) L = true then ((f_X7_assemble fu m_set m_mir m_tgt m_shs m_shp m_pls m_pl m_tri m_asm m_tak m_pld m_cel m_pie m_nxt m_cho (xs (l4 + (1 : Int32)).toNatClampNeg) (xs (l4 + (2 : Int32)).toNatClampNeg)).bind fun q86 => ((f_X7_thrown q86.2.1).bind fun q87 => (if q87 = q83.1 then (if q83.1 = 0 then (if inB (0 : Int32) 1 = true then (if (q83.2.2.2.2.2.2.2.2.2.2.2.2.2.2.2.2.2.2.2 (0 : Int32).toNatClampNeg) = (if q86.1 = 0 then (0 : Int64) else (1 : Int64)) then f_L_law_23 xs L fu (l4 + (4 : Int32)) q83.2.1 q83.2.2.1 q83.2.2.2.1 q83.2.2.2.2.1 pcu pmm q83.2.2.2.2.2.1 q83.2.2.2.2.2.2.1 q83.2.2.2.2.2.2.2.1 q83.2.2.2.2.2.2.2.2.1 q83.2.2.2.2.2.2.2.2.2.1 q83.2.2.2.2.2.2.2.2.2.2.1 q83.2.2.2.2.2.2.2.2.2.2.2.1 q83.2.2.2.2.2.2.2.2.2.2.2.2.1 q83.2.2.2.2.2.2.2.2.2.2.2.2.2.1 q83.2.2.2.2.2.2.2.2.2.2.2.2.2.2.1 q83.2.2.2.2.2.2.2.2.2.2.2.2.2.2.2.1 q83.2.2.2.2.2.2.2.2.2.2.2.2.2.2.2.2.1 q83.2.2.2.2.2.2.2.2.2.2.2.2.2.2.2.2.2.1 q83.2.2.2.2.2.2.2.2.2.2.2.2.2.2.2.2.2.2.1 at' pa mo le hd nt ct sts6 blo bhi bem glo ghi gem rlo rhi rem rom fnd fc prt lim su op q86.2.1 m_set m_mir m_tgt q86.2.2.1 q86.2.2.2.1 q86.2.2.2.2.1 q86.2.2.2.2.2.1 q86.2.2.2.2.2.2.1 q86.2.2.2.2.2.2.2.1 q86.2.2.2.2.2.2.2.2.1 q86.2.2.2.2.2.2.2.2.2.1 q86.2.2.2.2.2.2.2.2.2.2.1 q86.2.2.2.2.2.2.2.2.2.2.2.1 q86.2.2.2.2.2.2.2.2.2.2.2.2.1 q86.2.2.2.2.2.2.2.2.2.2.2.2.2 m_cbs m_cub m_sts m_stt m_frm m_by m_wrk m_oth m_mvs m_mov q83.2.2.2.2.2.2.2.2.2.2.2.2.2.2.2.2.2.2.2 else some (0 : Int32)) else none) else f_L_law_23 xs L fu (l4 + (4 : Int32)) q83.2.1 q83.2.2.1 q83.2.2.2.1 q83.2.2.2.2.1 pcu pmm q83.2.2.2.2.2.1 q83.2.2.2.2.2.2.1 q83.2.2.2.2.2.2.2.1 q83.2.2.2.2.2.2.2.2.1 q83.2.2.2.2.2.2.2.2.2.1 q83.2.2.2.2.2.2.2.2.2.2.1 q83.2.2.2.2.2.2.2.2.2.2.2.1 q83.2.2.2.2.2.2.2.2.2.2.2.2.1 q83.2.2.2.2.2.2.2.2.2.2.2.2.2.1 q83.2.2.2.2.2.2.2.2.2.2.2.2.2.2.1 q83.2.2.2.2.2.2.2.2.2.2.2.2.2.2.2.1 q83.2.2.2.2.2.2.2.2.2.2.2.2.2.2.2.2.1 q83.2.2.2.2.2.2.2.2.2.2.2.2.2.2.2.2.2.1 q83.2.2.2.2.2.2.2.2.2.2.2.2.2.2.2.2.2.2.1 at' pa mo le hd nt ct sts6 blo bhi bem glo ghi gem rlo rhi rem rom fnd fc prt lim su op q86.2.1 m_set m_mir m_tgt q86.2.2.1 q86.2.2.2.1 q86.2.2.2.2.1 q86.2.2.2.2.2.1 q86.2.2.2.2.2.2.1 q86.2.2.2.2.2.2.2.1 q86.2.2.2.2.2.2.2.2.1 q86.2.2.2.2.2.2.2.2.2.1 q86.2.2.2.2.2.2.2.2.2.2.1 q86.2.2.2.2.2.2.2.2.2.2.2.1 q86.2.2.2.2.2.2.2.2.2.2.2.2.1 q86.2.2.2.2.2.2.2.2.2.2.2.2.2 m_cbs m_cub m_sts m_stt m_frm m_by m_wrk m_oth m_mvs m_mov q83.2.2.2.2.2.2.2.2.2.2.2.2.2.2.2.2.2.2.2) else some (0 : Int32)))) else none) else none)) else none) else none) else (if ((xs l4.toNatClampNeg) &&& (15 : Int32)) = (9 : Int32) then (if inB (l4 + (1 : Int32)) L = true then (if inB (l4 + (2 : Int32)) L = true then (if inB (l4 + (3 : Int32)) L = true then ((f_L_put fu pss pcu pmm psk psc asm (xs (l4 + (1 : Int32)).toNatClampNeg) ((((xs (l4 + (2 : Int32)).toNatClampNeg).toInt64) <<< ((32 : Int32).toInt64 &&& 63)) ||| (((xs (l4 + (3 : Int32)).toNatClampNeg).toInt64) &&& (4294967295 : Int64)))).bind fun q97 => (if inB (l4 + (1 : Int32)) L = true then (if inB (l4 + (2 : Int32)) L = true then (if inB (l4 + (3 : Int32)) L = true then ((f_X7_put fu m_set m_mir m_shs m_shp m_asm (xs (l4 + (1 : Int32)).toNatClampNeg) ((((xs (l4 + (2 : Int32)).toNatClampNeg).toInt64) <<< ((32 : Int32).toInt64 &&& 63)) ||| (((xs (l4 + (3 : Int32)).toNatClampNeg).toInt64) &&& (4294967295 : Int64)))).bind fun q101 => ((f_X7_thrown q101.1).bind fun q102 => (if q102 = q97.1 then f_L_law_23 xs L fu (l4 + (4 : Int32)) q97.2.1 pps phv poo pcu pmm q97.2.2.1 ppk pkw q97.2.2.2.1 ppn q97.2.2.2.2 sur bud wan tri fou en eh cho at' pa mo le hd nt ct sts6 blo bhi bem glo ghi gem rlo rhi rem rom fnd fc prt lim su op q101.1 m_set m_mir m_tgt q101.2.1 q101.2.2.1 m_pls m_pl m_tri q101.2.2.2 m_tak m_pld m_cel m_pie m_nxt m_cho m_cbs m_cub m_sts m_stt m_frm m_by m_wrk m_oth m_mvs m_mov out else some (0 : Int32)))) else none) else none) else none)) else none) else none) else none) else (if ((xs l4.toNatClampNeg) &&& (15 : Int32)) = (10 : Int32) then (if inB (l4 + (1 : Int32)) L = true then ((f_L_take asm (xs (l4 + (1 : Int32)).toNatClampNeg)).bind fun q105 => (if inB (l4 + (1 : Int32)) L = true then ((f_X7_take m_asm (xs (l4 + (1 : Int32)).toNatClampNeg)).bind fun q107 => ((f_X7_thrown q107.1).bind fun q108 => (if q108 = q105.1 then f_L_law_23 xs L fu (l4 + (4 : Int32)) pss pps phv poo pcu pmm psk ppk pkw psc ppn q105.2 sur bud wan tri fou en eh cho at' pa mo le hd nt ct sts6 blo bhi bem glo ghi gem rlo rhi rem rom fnd fc prt lim su op q107.1 m_set m_mir m_tgt m_shs m_shp m_pls m_pl m_tri q107.2 m_tak m_pld m_cel m_pie m_nxt m_cho m_cbs m_cub m_sts m_stt m_frm m_by m_wrk m_oth m_mvs m_mov out else some (0 : Int32)))) else none)) else none) else (if ((xs l4.toNatClampNeg) &&& (15 : Int32)) = (11 : Int32) then (if inB (l4 + (1 : Int32)) L = true then ((f_L_cells asm out (xs (l4 + (1 : Int32)).toNatClampNeg)).bind fun q111 => (if inB (l4 + (1 : Int32)) L = true then ((f_X7_cells m_asm (xs (l4 + (1 : Int32)).toNatClampNeg)).bind fun q113 => ((f_X7_thrown q113.2).bind fun q114 => (if q114 = q111.1 then (if q111.1 = 0 then (if inB (0 : Int32) 1 = true then (if (q111.2 (0 : Int32).toNatClampNeg) = q113.1 then f_L_law_23 xs L fu (l4 + (4 : Int32)) pss pps phv poo pcu pmm psk ppk pkw psc ppn asm sur bud wan tri fou en eh cho at' pa mo le hd nt ct sts6 blo bhi bem glo ghi gem rlo rhi rem rom fnd fc prt lim su op q113.2 m_set m_mir m_tgt m_shs m_shp m_pls m_pl m_tri m_asm m_tak m_pld m_cel m_pie m_nxt m_cho m_cbs m_cub m_sts m_stt m_frm m_by m_wrk m_oth m_mvs m_mov q111.2 else some (0 : Int32)) else none) else f_L_law_23 xs L fu (l4 + (4 : Int32)) pss pps phv poo pcu pmm psk ppk pkw psc ppn asm sur bud wan tri fou en eh cho at' pa mo le hd nt ct sts6 blo bhi bem glo ghi gem rlo rhi rem rom fnd fc prt lim su op q113.2 m_set m_mir m_tgt m_shs m_shp m_pls m_pl m_tri m_asm m_tak m_pld m_cel m_pie m_nxt m_cho m_cbs m_cub m_sts m_stt m_frm m_by m_wrk m_oth m_mvs m_mov q111.2) else some (0 : Int32)))) else none)) else none) else (if ((xs l4.toNatClampNeg) &&& (15 : Int32)) = (12 : Int32) then (if inB (l4 + (1 : Int32)) L = true then (if inB (l4 + (2 : Int32)) L = true then ((f_L_plan fu asm at' pa mo le hd nt ct sts6 blo bhi bem glo ghi gem rlo rhi rem rom fnd fc prt lim out (xs (l4 + (1 : Int32)).toNatClampNeg) (xs (l4 + (2 : Int32)).toNatClampNeg)).bind fun q121 => (if inB (l4 + (1 : Int32)) L = true then (if inB (l4 + (2 : Int32)) L = true then ((f_X7_plan fu m_asm m_cbs m_cub m_sts m_stt m_frm m_by m_wrk m_oth m_mvs m_mov (xs (l4 + (1 : Int32)).toNatClampNeg) (xs (l4 + (2 : Int32)).toNatClampNeg)).bind fun q124 => ((f_X7_thrown q124.2.1).bind fun q125 => (if q125 = q121.1 then (if q121.1 = 0 then (if inB (0 : Int32) 1 = true then (if (q121.2.2.2.2.2.2.2.2.2.2.2.2.2.2.2.2.2.2.2.2.2.2.2 (0 : Int32).toNatClampNeg) = q124.1.toInt64 then f_L_law_23 xs L fu (l4 + (4 : Int32)) pss pps phv poo pcu pmm psk ppk pkw psc ppn asm sur bud wan tri fou en eh cho q121.2.1 q121.2.2.1 q121.2.2.2.1 q121.2.2.2.2.1 q121.2.2.2.2.2.1 q121.2.2.2.2.2.2.1 q121.2.2.2.2.2.2.2.1 q121.2.2.2.2.2.2.2.2.1 q121.2.2.2.2.2.2.2.2.2.1 q121.2.2.2.2.2.2.2.2.2.2.1 q121.2.2.2.2.2.2.2.2.2.2.2.1 q121.2.2.2.2.2.2.2.2.2.2.2.2.1 q121.2.2.2.2.2.2.2.2.2.2.2.2.2.1 q121.2.2.2.2.2.2.2.2.2.2.2.2.2.2.1 q121.2.2.2.2.2.2.2.2.2.2.2.2.2.2.2.1 q121.2.2.2.2.2.2.2.2.2.2.2.2.2.2.2.2.1 q121.2.2.2.2.2.2.2.2.2.2.2.2.2.2.2.2.2.1 q121.2.2.2.2.2.2.2.2.2.2.2.2.2.2.2.2.2.2.1 q121.2.2.2.2.2.2.2.2.2.2.2.2.2.2.2.2.2.2.2.1 q121.2.2.2.2.2.2.2.2.2.2.2.2.2.2.2.2.2.2.2.2.1 q121.2.2.2.2.2.2.2.2.2.2.2.2.2.2.2.2.2.2.2.2.2.1 q121.2.2.2.2.2.2.2.2.2.2.2.2.2.2.2.2.2.2.2.2.2.2.1 su op q124.2.1 m_set m_mir m_tgt m_shs m_shp m_pls m_pl m_tri m_asm m_tak m_pld m_cel m_pie m_nxt m_cho q124.2.2.1 q124.2.2.2.1 q124.2.2.2.2.1 q124.2.2.2.2.2.1 q124.2.2.2.2.2.2.1 q124.2.2.2.2.2.2.2.1 q124.2.2.2.2.2.2.2.2.1 q124.2.2.2.2.2.2.2.2.2.1 q124.2.2.2.2.2.2.2.2.2.2.1 q124.2.2.2.2.2.2.2.2.2.2.2 q121.2.2.2.2.2.2.2.2.2.2.2.2.2.2.2.2.2.2.2.2.2.2.2 else some (0 : Int32)) else none) else f_L_law_23 xs L fu (l4 + (4 : Int32)) pss pps phv poo pcu pmm psk ppk pkw psc ppn asm sur bud wan tri fou en eh cho q121.2.1 q121.2.2.1 q121.2.2.2.1 q121.2.2.2.2.1 q121.2.2.2.2.2.1 q121.2.2.2.2.2.2.1 q121.2.2.2.2.2.2.2.1 q121.2.2.2.2.2.2.2.2.1 q121.2.2.2.2.2.2.2.2.2.1 q121.2.2.2.2.2.2.2.2.2.2.1 q121.2.2.2.2.2.2.2.2.2.2.2.1 q121.2.2.2.2.2.2.2.2.2.2.2.2.1 q121.2.2.2.2.2.2.2.2.2.2.2.2.2.1 q121.2.2.2.2.2.2.2.2.2.2.2.2.2.2.1 q121.2.2.2.2.2.2.2.2.2.2.2.2.2.2.2.1 q121.2.2.2.2.2.2.2.2.2.2.2.2.2.2.2.2.1 q121.2.2.2.2.2.2.2.2.2.2.2.2.2.2.2.2.2.1 q121.2.2.2.2.2.2.2.2.2.2.2.2.2.2.2.2.2.2.1 q121.2.2.2.2.2.2.2.2.2.2.2.2.2.2.2.2.2.2.2.1 q121.2.2.2.2.2.2.2.2.2.2.2.2.2.2.2.2.2.2.2.2.1 q121.2.2.2.2.2.2.2.2.2.2.2.2.2.2.2.2.2.2.2.2.2.1 q121.2.2.2.2.2.2.2.2.2.2.2.2.2.2.2.2.2.2.2.2.2.2.1 su op q124.2.1 m_set m_mir m_tgt m_shs m_shp m_pls m_pl m_tri m_asm m_tak m_pld m_cel m_pie m_nxt m_cho q124.2.2.1 q124.2.2.2.1 q124.2.2.2.2.1 q124.2.2.2.2.2.1 q124.2.2.2.2.2.2.1 q124.2.2.2.2.2.2.2.1 q124.2.2.2.2.2.2.2.2.1 q124.2.2.2.2.2.2.2.2.2.1 q124.2.2.2.2.2.2.2.2.2.2.1 q124.2.2.2.2.2.2.2.2.2.2.2 q121.2.2.2.2.2.2.2.2.2.2.2.2.2.2.2.2.2.2.2.2.2.2.2) else some (0 : Int32)))) else none) else none)) else none) else none) else (if ((xs l4.toNatClampNeg) &&& (15 : Int32)) = (13 : Int32) then ((f_X6_states ct).bind fun q130 => ((f_X7_states m_sts).bind fun q131 => (if q130 = q131.1 then f_L_law_23 xs L fu (l4 + (4 : Int32)) pss pps phv poo pcu pmm psk ppk pkw psc ppn asm sur bud wan tri fou en eh cho at' pa mo le hd nt ct sts6 blo bhi bem glo ghi gem rlo rhi rem rom fnd fc prt lim su op q131.2 m_set m_mir m_tgt m_shs m_shp m_pls m_pl m_tri m_asm m_tak m_pld m_cel m_pie m_nxt m_cho m_cbs m_cub m_sts m_stt m_frm m_by m_wrk m_oth m_mvs m_mov out else some (0 : Int32)))) else (if ((xs l4.toNatClampNeg) &&& (15 : Int32)) = (14 : Int32) then (if inB (l4 + (1 : Int32)) L = true then ((f_L_move fnd fc out (xs (l4 + (1 : Int32)).toNatClampNeg)).bind fun q134 => (if inB (l4 + (1 : Int32)) L = true then ((f_X7_move m_mvs m_mov (xs (l4 + (1 : Int32)).toNatClampNeg)).bind fun q136 => ((f_X7_thrown q136.2).bind fun q137 => (if q137 = q134.1 then (if q134.1 = 0 then (if inB (0 : Int32) 1 = true then (if (q134.2 (0 : Int32).toNatClampNeg) = q136.1.toInt64 then f_L_law_23 xs L fu (l4 + (4 : Int32)) pss pps phv poo pcu pmm psk ppk pkw psc ppn asm sur bud wan tri fou en eh cho at' pa mo le hd nt ct sts6 blo bhi bem glo ghi gem rlo rhi rem rom fnd fc prt lim su op q136.2 m_set m_mir m_tgt m_shs m_shp m_pls m_pl m_tri m_asm m_tak m_pld m_cel m_pie m_nxt m_cho m_cbs m_cub m_sts m_stt m_frm m_by m_wrk m_oth m_mvs m_mov q134.2 else some (0 : Int32)) else none) else f_L_law_23 xs L fu (l4 + (4 : Int32)) pss pps phv poo pcu pmm psk ppk pkw psc ppn asm sur bud wan tri fou en eh cho at' pa mo le hd nt ct sts6 blo bhi bem glo ghi gem rlo rhi rem rom fnd fc prt lim su op q136.2 m_set m_mir m_tgt m_shs m_shp m_pls m_pl m_tri m_asm m_tak m_pld m_cel m_pie m_nxt m_cho m_cbs m_cub m_sts m_stt m_frm m_by m_wrk m_oth m_mvs m_mov q134.2) else some (0 : Int32)))) else none)) else none) else f_L_law_23 xs L fu (l4 + (4 : Int32)) pss pps phv poo pcu pmm psk ppk pkw psc ppn asm sur bud wan tri fou en eh cho at' pa mo le hd nt ct sts6 blo bhi bem glo ghi gem rlo rhi rem rom fnd fc prt lim su op m_th m_set m_mir m_tgt m_shs m_shp m_pls m_pl m_tri m_asm m_tak m_pld m_cel m_pie m_nxt m_cho m_cbs m_cub m_sts m_stt m_frm m_by m_wrk m_oth m_mvs m_mov out))))))))))))))) else none))
set_option maxHeartbeats 8000000 in
set_option maxRecDepth 40000 in
theorem g_L_law_23 {K : KX} {nm : String} {n : Nat} {σ : AH} {x bs L : Nat} {xs : Nat → Int32} (C : Cx K RL nm cL_law (some .boolean)) (hKR : kR K = room_1) (hKN : kN K = 8) (hKL : KLaw K bs) (hl0 : (kL K).stackTraces = false) (hX : va_X bs L xs K.2.2.2.2.1 K.2.2.2.2.1.heap) (hbl : bs < K.2.2.2.2.1.heap.size) (hbA : ¬ xA (kE K) bs) (hL : L ≤ 2048) :
    ∀ (fu cells slots T : Nat) (l4 : Int32) (pss : Nat → Nat → Int64) (pps : Nat → Nat → Int64) (phv : Nat → Nat → Int64) (poo : Nat → Nat → Int64) (pcu : Nat → Int64) (pmm : Nat → Int32) (psk : Nat → Int32) (ppk : Nat → Int32) (pkw : Nat → Int64) (psc : Nat → Int32) (ppn : Nat → Int32) (asm : Nat → Int64) (sur : Int64) (bud : Int32) (wan : Int32) (tri : Int32) (fou : Int32) (en : Int32) (eh : Int32) (cho : Nat → Int64) (at' : Nat → Int32) (pa : Nat → Int32) (mo : Nat → Int32) (le : Nat → Int32) (hd : Nat → Int32) (nt : Nat → Int32) (ct : Int32) (sts6 : Nat → Int64) (blo : Nat → Nat → Int32) (bhi : Nat → Nat → Int32) (bem : Nat → Int32) (glo : Nat → Int32) (ghi : Nat → Int32) (gem : Int32) (rlo : Nat → Int32) (rhi : Nat → Int32) (rem : Int32) (rom : Nat → Int32) (fnd : Nat → Int32) (fc : Int32) (prt : Int32) (lim : Int32) (su : Int64) (op : Int64) (m_th : Int32) (m_set : Nat → Int64) (m_mir : Nat → Int32) (m_tgt : Nat → Int32) (m_shs : Nat → Int32) (m_shp : Nat → Int64) (m_pls : Nat → Int32) (m_pl : Nat → Int64) (m_tri : Int32) (m_asm : Nat → Int64) (m_tak : Nat → Int64) (m_pld : Nat → Int32) (m_cel : Nat → Int32) (m_pie : Nat → Int32) (m_nxt : Nat → Int32) (m_cho : Nat → Int64) (m_cbs : Nat → Int32) (m_cub : Nat → Int32) (m_sts : Int32) (m_stt : Nat → Int32) (m_frm : Nat → Int32) (m_by : Nat → Int32) (m_wrk : Nat → Int32) (m_oth : Nat → Int32) (m_mvs : Int32) (m_mov : Nat → Int32) (out : Nat → Int64), cells + 3 * T ≤ 601024 → slots + 18 * T ≤ 7293034 → Tinv L T l4 → f_L_law_23 xs L fu l4 pss pps phv poo pcu pmm psk ppk pkw psc ppn asm sur bud wan tri fou en eh cho at' pa mo le hd nt ct sts6 blo bhi bem glo ghi gem rlo rhi rem rom fnd fc prt lim su op m_th m_set m_mir m_tgt m_shs m_shp m_pls m_pl m_tri m_asm m_tak m_pld m_cel m_pie m_nxt m_cho m_cbs m_cub m_sts m_stt m_frm m_by m_wrk m_oth m_mvs m_mov out = some 1 → ∀ n : Nat, G K (cells) (slots) 23 [(0, .ref bs), (1, .ref x), (2, .ref (x + 71)), (3, .ref (x + 94)), (4, .int l4)] [] (wSh (wA (wMd σ (x + 71) m_th m_set m_mir m_tgt m_shs m_shp m_pls m_pl m_tri m_asm m_tak m_pld m_cel m_pie m_nxt m_cho m_cbs m_cub m_sts m_stt m_frm m_by m_wrk m_oth m_mvs m_mov) (x + 94) 1 out) x pss pps phv poo pcu pmm psk ppk pkw psc ppn asm sur bud wan tri fou en eh cho at' pa mo le hd nt ct sts6 blo bhi bem glo ghi gem rlo rhi rem rom fnd fc prt lim su op) n := by
  intro fu
  induction fu with
  | zero =>
    intro cells slots T l4 pss pps phv poo pcu pmm psk ppk pkw psc ppn asm sur bud wan tri fou en eh cho at' pa mo le hd nt ct sts6 blo bhi bem glo ghi gem rlo rhi rem rom fnd fc prt lim su op m_th m_set m_mir m_tgt m_shs m_shp m_pls m_pl m_tri m_asm m_tak m_pld m_cel m_pie m_nxt m_cho m_cbs m_cub m_sts m_stt m_frm m_by m_wrk m_oth m_mvs m_mov out hcl hsl hT hf n
    exact absurd hf (by simp [f_L_law_23])
  | succ fu ih =>
    intro cells slots T l4 pss pps phv poo pcu pmm psk ppk pkw psc ppn asm sur bud wan tri fou en eh cho at' pa mo le hd nt ct sts6 blo bhi bem glo ghi gem rlo rhi rem rom fnd fc prt lim su op m_th m_set m_mir m_tgt m_shs m_shp m_pls m_pl m_tri m_asm m_tak m_pld m_cel m_pie m_nxt m_cho m_cbs m_cub m_sts m_stt m_frm m_by m_wrk m_oth m_mvs m_mov out hcl hsl hT hf n
    rw [f_L_law_23] at hf
    refine g_iload C (q := 4) rfl dL_law_23 rfl ?_
    refine g_aload_n C rfl (q := 0) rfl dL_law_25 rfl ?_
    refine g_slen C hX hbl hbA dL_law_26 rfl ?_
    refine g_iconst (v := 4) C (by decide) dL_law_27 rfl ?_
    refine g_isub C dL_law_28 rfl ?_
    refine g_icmp_gt (tgt := 957) C dL_law_29 (by decide) rfl (fun c1 => ?_) (fun c1 => ?_)
    · replace hf := ift c1 hf
      refine g_iconst (v := 1) C (by decide) dL_law_957 rfl ?_
      exact g_lend C hKL (by omega) (by omega) dL_law_958
    · replace hf := iff' c1 hf
      obtain ⟨T9, rfl, hT9⟩ := law_T hL hT c1
      refine g_aload_n C rfl (q := 0) rfl dL_law_32 rfl ?_
      refine g_iload C (q := 4) rfl dL_law_33 rfl ?_
      obtain ⟨g2, hf⟩ := gd hf
      refine g_sld C hX hbl hbA (inB_in g2) dL_law_35 rfl ?_
      refine g_bipush (v := 15) C (by decide) dL_law_36 rfl ?_
      refine g_iand C dL_law_38 rfl ?_
      refine g_tsw (m := 15) C (fun j => ([112, 208, 272, 328, 395, 443, 499, 555, 568, 643, 723, 759, 814, 882, 895] : List Nat).getD j 0) 951 dL_law_39 rfl (by decide) (by intro j hj; match j, hj with | 0, _ => exact ⟨_, rfl, by decide⟩ | 1, _ => exact ⟨_, rfl, by decide⟩ | 2, _ => exact ⟨_, rfl, by decide⟩ | 3, _ => exact ⟨_, rfl, by decide⟩ | 4, _ => exact ⟨_, rfl, by decide⟩ | 5, _ => exact ⟨_, rfl, by decide⟩ | 6, _ => exact ⟨_, rfl, by decide⟩ | 7, _ => exact ⟨_, rfl, by decide⟩ | 8, _ => exact ⟨_, rfl, by decide⟩ | 9, _ => exact ⟨_, rfl, by decide⟩ | 10, _ => exact ⟨_, rfl, by decide⟩ | 11, _ => exact ⟨_, rfl, by decide⟩ | 12, _ => exact ⟨_, rfl, by decide⟩ | 13, _ => exact ⟨_, rfl, by decide⟩ | 14, _ => exact ⟨_, rfl, by decide⟩ | k + 15, h => exact absurd h (by omega)) (by decide) (fun j9 hj9 ex9 => ?_) (fun no9 => ?_)
      · match j9, hj9, ex9 with
        | 0, _, ex9 =>
          replace hf := ift (by rw [ex9]; decide) hf
          show G K (cells) (slots) 112 [(0, .ref bs), (1, .ref x), (2, .ref (x + 71)), (3, .ref (x + 94)), (4, .int l4)] [] (wSh (wA (wMd σ (x + 71) m_th m_set m_mir m_tgt m_shs m_shp m_pls m_pl m_tri m_asm m_tak m_pld m_cel m_pie m_nxt m_cho m_cbs m_cub m_sts m_stt m_frm m_by m_wrk m_oth m_mvs m_mov) (x + 94) 1 out) x pss pps phv poo pcu pmm psk ppk pkw psc ppn asm sur bud wan tri fou en eh cho at' pa mo le hd nt ct sts6 blo bhi bem glo ghi gem rlo rhi rem rom fnd fc prt lim su op) n
          refine g_aload_n C rfl (q := 1) rfl dL_law_112 rfl ?_
          refine g_aload_n C rfl (q := 0) rfl dL_law_113 rfl ?_
          refine g_iload C (q := 4) rfl dL_law_114 rfl ?_
          refine g_iconst (v := 1) C (by decide) dL_law_116 rfl ?_
          refine g_iadd C dL_law_117 rfl ?_
          obtain ⟨g3, hf⟩ := gd hf
          refine g_sld C hX hbl hbA (inB_in g3) dL_law_118 rfl ?_
          refine g_aload_n C rfl (q := 0) rfl dL_law_119 rfl ?_
          refine g_iload C (q := 4) rfl dL_law_120 rfl ?_
          refine g_iconst (v := 2) C (by decide) dL_law_122 rfl ?_
          refine g_iadd C dL_law_123 rfl ?_
          obtain ⟨g4, hf⟩ := gd hf
          refine g_sld C hX hbl hbA (inB_in g4) dL_law_124 rfl ?_
          refine g_aload_n C rfl (q := 0) rfl dL_law_125 rfl ?_
          refine g_iload C (q := 4) rfl dL_law_126 rfl ?_
          refine g_iconst (v := 3) C (by decide) dL_law_128 rfl ?_
          refine g_iadd C dL_law_129 rfl ?_
          obtain ⟨g5, hf⟩ := gd hf
          refine g_sld C hX hbl hbA (inB_in g5) dL_law_130 rfl ?_
          have j18 : G K (cells) (slots) 139 [(0, .ref bs), (1, .ref x), (2, .ref (x + 71)), (3, .ref (x + 94)), (4, .int l4)] [.int (if (xs (l4 + (3 : Int32)).toNatClampNeg) = 0 then (0 : Int32) else (1 : Int32)), .int (xs (l4 + (2 : Int32)).toNatClampNeg), .int (xs (l4 + (1 : Int32)).toNatClampNeg), .ref x] (wSh (wA (wMd σ (x + 71) m_th m_set m_mir m_tgt m_shs m_shp m_pls m_pl m_tri m_asm m_tak m_pld m_cel m_pie m_nxt m_cho m_cbs m_cub m_sts m_stt m_frm m_by m_wrk m_oth m_mvs m_mov) (x + 94) 1 out) x pss pps phv poo pcu pmm psk ppk pkw psc ppn asm sur bud wan tri fou en eh cho at' pa mo le hd nt ct sts6 blo bhi bem glo ghi gem rlo rhi rem rom fnd fc prt lim su op) n := by
            refine g_aload_n C rfl (q := 3) rfl dL_law_139 rfl ?_
            obtain ⟨q6, hq6, hf⟩ := bd hf
            refine g_callSE (st' := []) (as := [.ref x, .int (xs (l4 + (1 : Int32)).toNatClampNeg), .int (xs (l4 + (2 : Int32)).toNatClampNeg), .int (if (xs (l4 + (3 : Int32)).toNatClampNeg) = 0 then (0 : Int32) else (1 : Int32)), .ref (x + 94)]) (st2 := [.int q6.1]) (k := 5) (mc := 3) (ms := 18) C ⟨wm_RL_68, ws_L_cube, wi_RL, wk_L_cube, by decide +kernel⟩ (c_L_cube (l := kL K) (E := kE K) (σ := wMd σ (x + 71) m_th m_set m_mir m_tgt m_shs m_shp m_pls m_pl m_tri m_asm m_tak m_pld m_cel m_pie m_nxt m_cho m_cbs m_cub m_sts m_stt m_frm m_by m_wrk m_oth m_mvs m_mov) (x := x) (b := x + 94) (by omega) hl0 q6 hq6) (by rw [hKR]; exact ⟨rfl, rfl, ⟨by decide, by decide⟩, by show _ ≤ 601024; omega, by show _ ≤ 7293034; omega⟩) rfl rfl (by simp) rfl dL_law_140 rfl (fun n => ?_)
            refine g_istore (i := 5) (lv' := [(5, .int q6.1), (0, .ref bs), (1, .ref x), (2, .ref (x + 71)), (3, .ref (x + 94)), (4, .int l4)]) C dL_law_143 rfl (by rw [hKN]; decide) rfl ?_
            refine g_aload_n C rfl (q := 3) rfl dL_law_145 rfl ?_
            refine g_aload_n C rfl (q := 1) rfl dL_law_146 rfl ?_
            refine g_iload C (q := 5) rfl dL_law_147 rfl ?_
            refine g_iconst (v := 1) C (by decide) dL_law_149 rfl ?_
            refine g_iadd C dL_law_150 rfl ?_
            obtain ⟨g7, hf⟩ := gd hf
            refine g_sld C hX hbl hbA (inB_in g7) dL_law_151 rfl ?_
            refine g_aload_n C rfl (q := 1) rfl dL_law_152 rfl ?_
            refine g_iload C (q := 5) rfl dL_law_153 rfl ?_
            refine g_iconst (v := 2) C (by decide) dL_law_155 rfl ?_
            refine g_iadd C dL_law_156 rfl ?_
            obtain ⟨g8, hf⟩ := gd hf
            refine g_sld C hX hbl hbA (inB_in g8) dL_law_157 rfl ?_
            refine g_aload_n C rfl (q := 1) rfl dL_law_158 rfl ?_
            refine g_iload C (q := 5) rfl dL_law_159 rfl ?_
            refine g_iconst (v := 3) C (by decide) dL_law_161 rfl ?_
            refine g_iadd C dL_law_162 rfl ?_
            obtain ⟨g9, hf⟩ := gd hf
            refine g_sld C hX hbl hbA (inB_in g9) dL_law_163 rfl ?_
            have j16 : G K (cells + 3) (slots + 18) 172 [(5, .int q6.1), (0, .ref bs), (1, .ref x), (2, .ref (x + 71)), (3, .ref (x + 94)), (4, .int l4)] [.int (if (xs (l4 + (3 : Int32)).toNatClampNeg) = 0 then (0 : Int32) else (1 : Int32)), .int (xs (l4 + (2 : Int32)).toNatClampNeg), .int (xs (l4 + (1 : Int32)).toNatClampNeg), .ref (x + 71)] (wSh (wA (wMd σ (x + 71) m_th m_set m_mir m_tgt m_shs m_shp m_pls m_pl m_tri m_asm m_tak m_pld m_cel m_pie m_nxt m_cho m_cbs m_cub m_sts m_stt m_frm m_by m_wrk m_oth m_mvs m_mov) (x + 94) 1 q6.2.2.2.2.2) x pss pps phv poo q6.2.1 pmm q6.2.2.1 q6.2.2.2.1 pkw psc ppn q6.2.2.2.2.1 sur bud wan tri fou en eh cho at' pa mo le hd nt ct sts6 blo bhi bem glo ghi gem rlo rhi rem rom fnd fc prt lim su op) n := by
              obtain ⟨q10, hq10, hf⟩ := bd hf
              refine g_heap lw_md_s ?_
              refine g_callV0 (st' := []) (as := [.int (xs (l4 + (1 : Int32)).toNatClampNeg), .int (xs (l4 + (2 : Int32)).toNatClampNeg), .int (if (xs (l4 + (3 : Int32)).toNatClampNeg) = 0 then (0 : Int32) else (1 : Int32))]) (st2 := [.int q10.1]) (k := 3) C ⟨wm_RL_73, wn_X7_cube, wv_X7_cube, wi_RX7, wk_X7_cube, by decide +kernel⟩ rfl (wL_at0 rfl) (c_X7_cube (l := kL K) (E := kE K) (σ := (wSh (wA (wMd σ (x + 71) m_th m_set m_mir m_tgt m_shs m_shp m_pls m_pl m_tri m_asm m_tak m_pld m_cel m_pie m_nxt m_cho m_cbs m_cub m_sts m_stt m_frm m_by m_wrk m_oth m_mvs m_mov) (x + 94) 1 q6.2.2.2.2.2) x pss pps phv poo q6.2.1 pmm q6.2.2.1 q6.2.2.2.1 pkw psc ppn q6.2.2.2.2.1 sur bud wan tri fou en eh cho at' pa mo le hd nt ct sts6 blo bhi bem glo ghi gem rlo rhi rem rom fnd fc prt lim su op)) (a := x + 71) _ hq10) (by rw [hKR]; exact ⟨rfl, rfl, ⟨by decide, by decide⟩, by show _ ≤ 601024; omega, by show _ ≤ 7293034; omega⟩) rfl rfl (by simp) rfl dL_law_172 rfl ?_
              refine g_heap (h' := (wSh (wA (wMd σ (x + 71) q10.2.1 q10.2.2.1 m_mir m_tgt m_shs m_shp m_pls m_pl m_tri q10.2.2.2 m_tak m_pld m_cel m_pie m_nxt m_cho m_cbs m_cub m_sts m_stt m_frm m_by m_wrk m_oth m_mvs m_mov) (x + 94) 1 q6.2.2.2.2.2) x pss pps phv poo q6.2.1 pmm q6.2.2.1 q6.2.2.2.1 pkw psc ppn q6.2.2.2.2.1 sur bud wan tri fou en eh cho at' pa mo le hd nt ct sts6 blo bhi bem glo ghi gem rlo rhi rem rom fnd fc prt lim su op)) lw_md_r ?_
              refine g_istore (i := 6) (lv' := [(6, .int q10.1), (5, .int q6.1), (0, .ref bs), (1, .ref x), (2, .ref (x + 71)), (3, .ref (x + 94)), (4, .int l4)]) C dL_law_175 rfl (by rw [hKN]; decide) rfl ?_
              refine g_aload_n C rfl (q := 4) rfl dL_law_177 rfl ?_
              obtain ⟨q11, hq11, hf⟩ := bd hf
              refine g_heap lw_md_s ?_
              refine g_callV0 (st' := []) (as := []) (st2 := [.int q11]) (k := 0) C ⟨wm_RL_74, wn_X7_thrown, wv_X7_thrown, wi_RX7, wk_X7_thrown, by decide +kernel⟩ rfl (wL_at0 rfl) (c_X7_thrown (l := kL K) (E := kE K) (σ := (wSh (wA (wMd σ (x + 71) q10.2.1 q10.2.2.1 m_mir m_tgt m_shs m_shp m_pls m_pl m_tri q10.2.2.2 m_tak m_pld m_cel m_pie m_nxt m_cho m_cbs m_cub m_sts m_stt m_frm m_by m_wrk m_oth m_mvs m_mov) (x + 94) 1 q6.2.2.2.2.2) x pss pps phv poo q6.2.1 pmm q6.2.2.1 q6.2.2.2.1 pkw psc ppn q6.2.2.2.2.1 sur bud wan tri fou en eh cho at' pa mo le hd nt ct sts6 blo bhi bem glo ghi gem rlo rhi rem rom fnd fc prt lim su op)) (a := x + 71) _ hq11) (by rw [hKR]; exact ⟨rfl, rfl, ⟨by decide, by decide⟩, by show _ ≤ 601024; omega, by show _ ≤ 7293034; omega⟩) rfl rfl (by simp) rfl dL_law_178 rfl ?_
              refine g_heap (h' := (wSh (wA (wMd σ (x + 71) q10.2.1 q10.2.2.1 m_mir m_tgt m_shs m_shp m_pls m_pl m_tri q10.2.2.2 m_tak m_pld m_cel m_pie m_nxt m_cho m_cbs m_cub m_sts m_stt m_frm m_by m_wrk m_oth m_mvs m_mov) (x + 94) 1 q6.2.2.2.2.2) x pss pps phv poo q6.2.1 pmm q6.2.2.1 q6.2.2.2.1 pkw psc ppn q6.2.2.2.2.1 sur bud wan tri fou en eh cho at' pa mo le hd nt ct sts6 blo bhi bem glo ghi gem rlo rhi rem rom fnd fc prt lim su op)) lw_md_r ?_
              refine g_iload C (q := 1) rfl dL_law_181 rfl ?_
              refine g_icmp_eq (tgt := 188) C dL_law_183 (by decide) rfl (fun c12 => ?_) (fun c12 => ?_)
              · replace hf := ift c12 hf
                refine g_iload C (q := 1) rfl dL_law_188 rfl ?_
                refine g_if_ne (tgt := 205) C dL_law_190 (by decide) rfl (fun c13 => ?_) (fun c13 => ?_)
                · replace hf := iff' c13 hf
                  refine g_goto (pc' := 951) C dL_law_205 (by decide) ?_
                  refine g_iinc (v := l4 + (4 : Int32)) (lv' := [(4, .int (l4 + (4 : Int32))), (6, .int q10.1), (5, .int q6.1), (0, .ref bs), (1, .ref x), (2, .ref (x + 71)), (3, .ref (x + 94))]) (q := 6) C dL_law_951 rfl rfl rfl (by rw [hKN]; decide) rfl ?_
                  refine g_goto (pc' := 23) C dL_law_954 (by decide) ?_
                  refine g_sub (lv' := [(0, .ref bs), (1, .ref x), (2, .ref (x + 71)), (3, .ref (x + 94)), (4, .int (l4 + (4 : Int32)))]) [3, 4, 5, 6, 0] rfl ?_
                  exact ih _ _ _ _ _ _ _ _ _ _ _ _ _ _ _ _ _ _ _ _ _ _ _ _ _ _ _ _ _ _ _ _ _ _ _ _ _ _ _ _ _ _ _ _ _ _ _ _ _ _ _ _ _ _ _ _ _ _ _ _ _ _ _ _ _ _ _ _ _ _ _ _ _ _ _ (by omega) (by omega) hT9 hf _
                · replace hf := ift c13 hf
                  refine g_aload_n C rfl (q := 5) rfl dL_law_193 rfl ?_
                  refine g_iconst (v := 0) C (by decide) dL_law_194 rfl ?_
                  obtain ⟨g14, hf⟩ := gd hf
                  refine g_lald C ((wL_out (by show _ ∨ _ + 71 ≤ _; omega)).trans (wL_at0 rfl)) (inB_in g14) dL_law_195 rfl ?_
                  refine g_iload C (q := 0) rfl dL_law_196 rfl ?_
                  refine g_i2l C dL_law_198 rfl ?_
                  refine g_lif_eq (tgt := 205) C dL_law_199 rfl dL_law_200 (by decide) rfl (fun c15 => ?_) (fun c15 => ?_)
                  · replace hf := ift c15 hf
                    refine g_goto (pc' := 951) C dL_law_205 (by decide) ?_
                    refine g_iinc (v := l4 + (4 : Int32)) (lv' := [(4, .int (l4 + (4 : Int32))), (6, .int q10.1), (5, .int q6.1), (0, .ref bs), (1, .ref x), (2, .ref (x + 71)), (3, .ref (x + 94))]) (q := 6) C dL_law_951 rfl rfl rfl (by rw [hKN]; decide) rfl ?_
                    refine g_goto (pc' := 23) C dL_law_954 (by decide) ?_
                    refine g_sub (lv' := [(0, .ref bs), (1, .ref x), (2, .ref (x + 71)), (3, .ref (x + 94)), (4, .int (l4 + (4 : Int32)))]) [3, 4, 5, 6, 0] rfl ?_
                    exact ih _ _ _ _ _ _ _ _ _ _ _ _ _ _ _ _ _ _ _ _ _ _ _ _ _ _ _ _ _ _ _ _ _ _ _ _ _ _ _ _ _ _ _ _ _ _ _ _ _ _ _ _ _ _ _ _ _ _ _ _ _ _ _ _ _ _ _ _ _ _ _ _ _ _ _ (by omega) (by omega) hT9 hf _
                  · replace hf := iff' c15 hf
                    refine g_iconst (v := 0) C (by decide) dL_law_203 rfl ?_
                    exact absurd hf (by decide)
              · replace hf := iff' c12 hf
                refine g_iconst (v := 0) C (by decide) dL_law_186 rfl ?_
                exact absurd hf (by decide)
            refine g_if_eq (tgt := 171) C dL_law_164 (by decide) rfl (fun c17 => ?_) (fun c17 => ?_)
            · refine g_iconst (v := 0) C (by decide) dL_law_171 rfl ?_
              exact g_topI (by rw [if_pos c17]) j16
            · refine g_iconst (v := 1) C (by decide) dL_law_167 rfl ?_
              refine g_goto (pc' := 172) C dL_law_168 (by decide) ?_
              exact g_topI (by rw [if_neg c17]) j16
          refine g_if_eq (tgt := 138) C dL_law_131 (by decide) rfl (fun c19 => ?_) (fun c19 => ?_)
          · refine g_iconst (v := 0) C (by decide) dL_law_138 rfl ?_
            exact g_topI (by rw [if_pos c19]) j18
          · refine g_iconst (v := 1) C (by decide) dL_law_134 rfl ?_
            refine g_goto (pc' := 139) C dL_law_135 (by decide) ?_
            exact g_topI (by rw [if_neg c19]) j18
        | 1, _, ex9 =>
          replace hf := iff' (by rw [ex9]; decide) hf
          replace hf := ift (by rw [ex9]; decide) hf
          show G K (cells) (slots) 208 [(0, .ref bs), (1, .ref x), (2, .ref (x + 71)), (3, .ref (x + 94)), (4, .int l4)] [] (wSh (wA (wMd σ (x + 71) m_th m_set m_mir m_tgt m_shs m_shp m_pls m_pl m_tri m_asm m_tak m_pld m_cel m_pie m_nxt m_cho m_cbs m_cub m_sts m_stt m_frm m_by m_wrk m_oth m_mvs m_mov) (x + 94) 1 out) x pss pps phv poo pcu pmm psk ppk pkw psc ppn asm sur bud wan tri fou en eh cho at' pa mo le hd nt ct sts6 blo bhi bem glo ghi gem rlo rhi rem rom fnd fc prt lim su op) n
          refine g_aload_n C rfl (q := 1) rfl dL_law_208 rfl ?_
          refine g_aload_n C rfl (q := 0) rfl dL_law_209 rfl ?_
          refine g_iload C (q := 4) rfl dL_law_210 rfl ?_
          refine g_iconst (v := 1) C (by decide) dL_law_212 rfl ?_
          refine g_iadd C dL_law_213 rfl ?_
          obtain ⟨g20, hf⟩ := gd hf
          refine g_sld C hX hbl hbA (inB_in g20) dL_law_214 rfl ?_
          refine g_aload_n C rfl (q := 0) rfl dL_law_215 rfl ?_
          refine g_iload C (q := 4) rfl dL_law_216 rfl ?_
          refine g_iconst (v := 2) C (by decide) dL_law_218 rfl ?_
          refine g_iadd C dL_law_219 rfl ?_
          obtain ⟨g21, hf⟩ := gd hf
          refine g_sld C hX hbl hbA (inB_in g21) dL_law_220 rfl ?_
          have j30 : G K (cells) (slots) 229 [(0, .ref bs), (1, .ref x), (2, .ref (x + 71)), (3, .ref (x + 94)), (4, .int l4)] [.int (if (xs (l4 + (2 : Int32)).toNatClampNeg) = 0 then (0 : Int32) else (1 : Int32)), .int (xs (l4 + (1 : Int32)).toNatClampNeg), .ref x] (wSh (wA (wMd σ (x + 71) m_th m_set m_mir m_tgt m_shs m_shp m_pls m_pl m_tri m_asm m_tak m_pld m_cel m_pie m_nxt m_cho m_cbs m_cub m_sts m_stt m_frm m_by m_wrk m_oth m_mvs m_mov) (x + 94) 1 out) x pss pps phv poo pcu pmm psk ppk pkw psc ppn asm sur bud wan tri fou en eh cho at' pa mo le hd nt ct sts6 blo bhi bem glo ghi gem rlo rhi rem rom fnd fc prt lim su op) n := by
            obtain ⟨q22, hq22, hf⟩ := bd hf
            refine g_callSE (st' := []) (as := [.ref x, .int (xs (l4 + (1 : Int32)).toNatClampNeg), .int (if (xs (l4 + (2 : Int32)).toNatClampNeg) = 0 then (0 : Int32) else (1 : Int32))]) (st2 := [.int q22.1]) (k := 3) (mc := 2) (ms := 12) C ⟨wm_RL_78, ws_L_mirror, wi_RL, wk_L_mirror, by decide +kernel⟩ (c_L_mirror (l := kL K) (E := kE K) (σ := wMd σ (x + 71) m_th m_set m_mir m_tgt m_shs m_shp m_pls m_pl m_tri m_asm m_tak m_pld m_cel m_pie m_nxt m_cho m_cbs m_cub m_sts m_stt m_frm m_by m_wrk m_oth m_mvs m_mov) (x := x) (b := x + 94) (by omega) hl0 q22 hq22) (by rw [hKR]; exact ⟨rfl, rfl, ⟨by decide, by decide⟩, by show _ ≤ 601024; omega, by show _ ≤ 7293034; omega⟩) rfl rfl (by simp) rfl dL_law_229 rfl (fun n => ?_)
            refine g_istore (i := 5) (lv' := [(5, .int q22.1), (0, .ref bs), (1, .ref x), (2, .ref (x + 71)), (3, .ref (x + 94)), (4, .int l4)]) C dL_law_232 rfl (by rw [hKN]; decide) rfl ?_
            refine g_aload_n C rfl (q := 3) rfl dL_law_234 rfl ?_
            refine g_aload_n C rfl (q := 1) rfl dL_law_235 rfl ?_
            refine g_iload C (q := 5) rfl dL_law_236 rfl ?_
            refine g_iconst (v := 1) C (by decide) dL_law_238 rfl ?_
            refine g_iadd C dL_law_239 rfl ?_
            obtain ⟨g23, hf⟩ := gd hf
            refine g_sld C hX hbl hbA (inB_in g23) dL_law_240 rfl ?_
            refine g_aload_n C rfl (q := 1) rfl dL_law_241 rfl ?_
            refine g_iload C (q := 5) rfl dL_law_242 rfl ?_
            refine g_iconst (v := 2) C (by decide) dL_law_244 rfl ?_
            refine g_iadd C dL_law_245 rfl ?_
            obtain ⟨g24, hf⟩ := gd hf
            refine g_sld C hX hbl hbA (inB_in g24) dL_law_246 rfl ?_
            have j28 : G K (cells + 2) (slots + 12) 255 [(5, .int q22.1), (0, .ref bs), (1, .ref x), (2, .ref (x + 71)), (3, .ref (x + 94)), (4, .int l4)] [.int (if (xs (l4 + (2 : Int32)).toNatClampNeg) = 0 then (0 : Int32) else (1 : Int32)), .int (xs (l4 + (1 : Int32)).toNatClampNeg), .ref (x + 71)] (wSh (wA (wMd σ (x + 71) m_th m_set m_mir m_tgt m_shs m_shp m_pls m_pl m_tri m_asm m_tak m_pld m_cel m_pie m_nxt m_cho m_cbs m_cub m_sts m_stt m_frm m_by m_wrk m_oth m_mvs m_mov) (x + 94) 1 out) x pss pps phv poo pcu q22.2.1 q22.2.2.1 q22.2.2.2 pkw psc ppn asm sur bud wan tri fou en eh cho at' pa mo le hd nt ct sts6 blo bhi bem glo ghi gem rlo rhi rem rom fnd fc prt lim su op) n := by
              obtain ⟨q25, hq25, hf⟩ := bd hf
              refine g_heap lw_md_s ?_
              refine g_callV0 (st' := []) (as := [.int (xs (l4 + (1 : Int32)).toNatClampNeg), .int (if (xs (l4 + (2 : Int32)).toNatClampNeg) = 0 then (0 : Int32) else (1 : Int32))]) (st2 := []) (k := 2) C ⟨wm_RL_81, wn_X7_mirror, wv_X7_mirror, wi_RX7, wk_X7_mirror, by decide +kernel⟩ rfl (wL_at0 rfl) (c_X7_mirror (l := kL K) (E := kE K) (σ := (wSh (wA (wMd σ (x + 71) m_th m_set m_mir m_tgt m_shs m_shp m_pls m_pl m_tri m_asm m_tak m_pld m_cel m_pie m_nxt m_cho m_cbs m_cub m_sts m_stt m_frm m_by m_wrk m_oth m_mvs m_mov) (x + 94) 1 out) x pss pps phv poo pcu q22.2.1 q22.2.2.1 q22.2.2.2 pkw psc ppn asm sur bud wan tri fou en eh cho at' pa mo le hd nt ct sts6 blo bhi bem glo ghi gem rlo rhi rem rom fnd fc prt lim su op)) (a := x + 71) _ hq25) (by rw [hKR]; exact ⟨rfl, rfl, ⟨by decide, by decide⟩, by show _ ≤ 601024; omega, by show _ ≤ 7293034; omega⟩) rfl rfl (by simp) rfl dL_law_255 rfl ?_
              refine g_heap (h' := (wSh (wA (wMd σ (x + 71) q25.1 m_set q25.2 m_tgt m_shs m_shp m_pls m_pl m_tri m_asm m_tak m_pld m_cel m_pie m_nxt m_cho m_cbs m_cub m_sts m_stt m_frm m_by m_wrk m_oth m_mvs m_mov) (x + 94) 1 out) x pss pps phv poo pcu q22.2.1 q22.2.2.1 q22.2.2.2 pkw psc ppn asm sur bud wan tri fou en eh cho at' pa mo le hd nt ct sts6 blo bhi bem glo ghi gem rlo rhi rem rom fnd fc prt lim su op)) lw_md_r ?_
              refine g_aload_n C rfl (q := 3) rfl dL_law_258 rfl ?_
              obtain ⟨q26, hq26, hf⟩ := bd hf
              refine g_heap lw_md_s ?_
              refine g_callV0 (st' := []) (as := []) (st2 := [.int q26]) (k := 0) C ⟨wm_RL_74, wn_X7_thrown, wv_X7_thrown, wi_RX7, wk_X7_thrown, by decide +kernel⟩ rfl (wL_at0 rfl) (c_X7_thrown (l := kL K) (E := kE K) (σ := (wSh (wA (wMd σ (x + 71) q25.1 m_set q25.2 m_tgt m_shs m_shp m_pls m_pl m_tri m_asm m_tak m_pld m_cel m_pie m_nxt m_cho m_cbs m_cub m_sts m_stt m_frm m_by m_wrk m_oth m_mvs m_mov) (x + 94) 1 out) x pss pps phv poo pcu q22.2.1 q22.2.2.1 q22.2.2.2 pkw psc ppn asm sur bud wan tri fou en eh cho at' pa mo le hd nt ct sts6 blo bhi bem glo ghi gem rlo rhi rem rom fnd fc prt lim su op)) (a := x + 71) _ hq26) (by rw [hKR]; exact ⟨rfl, rfl, ⟨by decide, by decide⟩, by show _ ≤ 601024; omega, by show _ ≤ 7293034; omega⟩) rfl rfl (by simp) rfl dL_law_259 rfl ?_
              refine g_heap (h' := (wSh (wA (wMd σ (x + 71) q25.1 m_set q25.2 m_tgt m_shs m_shp m_pls m_pl m_tri m_asm m_tak m_pld m_cel m_pie m_nxt m_cho m_cbs m_cub m_sts m_stt m_frm m_by m_wrk m_oth m_mvs m_mov) (x + 94) 1 out) x pss pps phv poo pcu q22.2.1 q22.2.2.1 q22.2.2.2 pkw psc ppn asm sur bud wan tri fou en eh cho at' pa mo le hd nt ct sts6 blo bhi bem glo ghi gem rlo rhi rem rom fnd fc prt lim su op)) lw_md_r ?_
              refine g_iload C (q := 0) rfl dL_law_262 rfl ?_
              refine g_icmp_eq (tgt := 269) C dL_law_264 (by decide) rfl (fun c27 => ?_) (fun c27 => ?_)
              · replace hf := ift c27 hf
                refine g_goto (pc' := 951) C dL_law_269 (by decide) ?_
                refine g_iinc (v := l4 + (4 : Int32)) (lv' := [(4, .int (l4 + (4 : Int32))), (5, .int q22.1), (0, .ref bs), (1, .ref x), (2, .ref (x + 71)), (3, .ref (x + 94))]) (q := 5) C dL_law_951 rfl rfl rfl (by rw [hKN]; decide) rfl ?_
                refine g_goto (pc' := 23) C dL_law_954 (by decide) ?_
                refine g_sub (lv' := [(0, .ref bs), (1, .ref x), (2, .ref (x + 71)), (3, .ref (x + 94)), (4, .int (l4 + (4 : Int32)))]) [2, 3, 4, 5, 0] rfl ?_
                exact ih _ _ _ _ _ _ _ _ _ _ _ _ _ _ _ _ _ _ _ _ _ _ _ _ _ _ _ _ _ _ _ _ _ _ _ _ _ _ _ _ _ _ _ _ _ _ _ _ _ _ _ _ _ _ _ _ _ _ _ _ _ _ _ _ _ _ _ _ _ _ _ _ _ _ _ (by omega) (by omega) hT9 hf _
              · replace hf := iff' c27 hf
                refine g_iconst (v := 0) C (by decide) dL_law_267 rfl ?_
                exact absurd hf (by decide)
            refine g_if_eq (tgt := 254) C dL_law_247 (by decide) rfl (fun c29 => ?_) (fun c29 => ?_)
            · refine g_iconst (v := 0) C (by decide) dL_law_254 rfl ?_
              exact g_topI (by rw [if_pos c29]) j28
            · refine g_iconst (v := 1) C (by decide) dL_law_250 rfl ?_
              refine g_goto (pc' := 255) C dL_law_251 (by decide) ?_
              exact g_topI (by rw [if_neg c29]) j28
          refine g_if_eq (tgt := 228) C dL_law_221 (by decide) rfl (fun c31 => ?_) (fun c31 => ?_)
          · refine g_iconst (v := 0) C (by decide) dL_law_228 rfl ?_
            exact g_topI (by rw [if_pos c31]) j30
          · refine g_iconst (v := 1) C (by decide) dL_law_224 rfl ?_
            refine g_goto (pc' := 229) C dL_law_225 (by decide) ?_
            exact g_topI (by rw [if_neg c31]) j30
        | 2, _, ex9 =>
          replace hf := iff' (by rw [ex9]; decide) hf
          replace hf := iff' (by rw [ex9]; decide) hf
          replace hf := ift (by rw [ex9]; decide) hf
          show G K (cells) (slots) 272 [(0, .ref bs), (1, .ref x), (2, .ref (x + 71)), (3, .ref (x + 94)), (4, .int l4)] [] (wSh (wA (wMd σ (x + 71) m_th m_set m_mir m_tgt m_shs m_shp m_pls m_pl m_tri m_asm m_tak m_pld m_cel m_pie m_nxt m_cho m_cbs m_cub m_sts m_stt m_frm m_by m_wrk m_oth m_mvs m_mov) (x + 94) 1 out) x pss pps phv poo pcu pmm psk ppk pkw psc ppn asm sur bud wan tri fou en eh cho at' pa mo le hd nt ct sts6 blo bhi bem glo ghi gem rlo rhi rem rom fnd fc prt lim su op) n
          refine g_aload_n C rfl (q := 1) rfl dL_law_272 rfl ?_
          refine g_aload_n C rfl (q := 0) rfl dL_law_273 rfl ?_
          refine g_iload C (q := 4) rfl dL_law_274 rfl ?_
          refine g_iconst (v := 1) C (by decide) dL_law_276 rfl ?_
          refine g_iadd C dL_law_277 rfl ?_
          obtain ⟨g32, hf⟩ := gd hf
          refine g_sld C hX hbl hbA (inB_in g32) dL_law_278 rfl ?_
          refine g_aload_n C rfl (q := 3) rfl dL_law_279 rfl ?_
          obtain ⟨q33, hq33, hf⟩ := bd hf
          refine g_callSE (st' := []) (as := [.ref x, .int (xs (l4 + (1 : Int32)).toNatClampNeg), .ref (x + 94)]) (st2 := [.int q33.1]) (k := 3) (mc := 2) (ms := 12) C ⟨wm_RL_82, ws_L_shapes, wi_RL, wk_L_shapes, by decide +kernel⟩ (c_L_shapes (l := kL K) (E := kE K) (σ := wMd σ (x + 71) m_th m_set m_mir m_tgt m_shs m_shp m_pls m_pl m_tri m_asm m_tak m_pld m_cel m_pie m_nxt m_cho m_cbs m_cub m_sts m_stt m_frm m_by m_wrk m_oth m_mvs m_mov) (x := x) (b := x + 94) (by omega) hl0 q33 hq33) (by rw [hKR]; exact ⟨rfl, rfl, ⟨by decide, by decide⟩, by show _ ≤ 601024; omega, by show _ ≤ 7293034; omega⟩) rfl rfl (by simp) rfl dL_law_280 rfl (fun n => ?_)
          refine g_istore (i := 5) (lv' := [(5, .int q33.1), (0, .ref bs), (1, .ref x), (2, .ref (x + 71)), (3, .ref (x + 94)), (4, .int l4)]) C dL_law_283 rfl (by rw [hKN]; decide) rfl ?_
          refine g_aload_n C rfl (q := 3) rfl dL_law_285 rfl ?_
          refine g_aload_n C rfl (q := 1) rfl dL_law_286 rfl ?_
          refine g_iload C (q := 5) rfl dL_law_287 rfl ?_
          refine g_iconst (v := 1) C (by decide) dL_law_289 rfl ?_
          refine g_iadd C dL_law_290 rfl ?_
          obtain ⟨g34, hf⟩ := gd hf
          refine g_sld C hX hbl hbA (inB_in g34) dL_law_291 rfl ?_
          obtain ⟨q35, hq35, hf⟩ := bd hf
          refine g_heap lw_md_s ?_
          refine g_callV0 (st' := []) (as := [.int (xs (l4 + (1 : Int32)).toNatClampNeg)]) (st2 := [.int q35.1]) (k := 1) C ⟨wm_RL_85, wn_X7_shapes, wv_X7_shapes, wi_RX7, wk_X7_shapes, by decide +kernel⟩ rfl (wL_at0 rfl) (c_X7_shapes (l := kL K) (E := kE K) (σ := (wSh (wA (wMd σ (x + 71) m_th m_set m_mir m_tgt m_shs m_shp m_pls m_pl m_tri m_asm m_tak m_pld m_cel m_pie m_nxt m_cho m_cbs m_cub m_sts m_stt m_frm m_by m_wrk m_oth m_mvs m_mov) (x + 94) 1 q33.2.2.2.2) x q33.2.1 pps phv poo pcu pmm q33.2.2.1 ppk pkw q33.2.2.2.1 ppn asm sur bud wan tri fou en eh cho at' pa mo le hd nt ct sts6 blo bhi bem glo ghi gem rlo rhi rem rom fnd fc prt lim su op)) (a := x + 71) _ hq35) (by rw [hKR]; exact ⟨rfl, rfl, ⟨by decide, by decide⟩, by show _ ≤ 601024; omega, by show _ ≤ 7293034; omega⟩) rfl rfl (by simp) rfl dL_law_292 rfl ?_
          refine g_heap (h' := (wSh (wA (wMd σ (x + 71) q35.2.1 m_set m_mir m_tgt q35.2.2.1 q35.2.2.2 m_pls m_pl m_tri m_asm m_tak m_pld m_cel m_pie m_nxt m_cho m_cbs m_cub m_sts m_stt m_frm m_by m_wrk m_oth m_mvs m_mov) (x + 94) 1 q33.2.2.2.2) x q33.2.1 pps phv poo pcu pmm q33.2.2.1 ppk pkw q33.2.2.2.1 ppn asm sur bud wan tri fou en eh cho at' pa mo le hd nt ct sts6 blo bhi bem glo ghi gem rlo rhi rem rom fnd fc prt lim su op)) lw_md_r ?_
          refine g_istore (i := 6) (lv' := [(6, .int q35.1), (5, .int q33.1), (0, .ref bs), (1, .ref x), (2, .ref (x + 71)), (3, .ref (x + 94)), (4, .int l4)]) C dL_law_295 rfl (by rw [hKN]; decide) rfl ?_
          refine g_aload_n C rfl (q := 4) rfl dL_law_297 rfl ?_
          obtain ⟨q36, hq36, hf⟩ := bd hf
          refine g_heap lw_md_s ?_
          refine g_callV0 (st' := []) (as := []) (st2 := [.int q36]) (k := 0) C ⟨wm_RL_74, wn_X7_thrown, wv_X7_thrown, wi_RX7, wk_X7_thrown, by decide +kernel⟩ rfl (wL_at0 rfl) (c_X7_thrown (l := kL K) (E := kE K) (σ := (wSh (wA (wMd σ (x + 71) q35.2.1 m_set m_mir m_tgt q35.2.2.1 q35.2.2.2 m_pls m_pl m_tri m_asm m_tak m_pld m_cel m_pie m_nxt m_cho m_cbs m_cub m_sts m_stt m_frm m_by m_wrk m_oth m_mvs m_mov) (x + 94) 1 q33.2.2.2.2) x q33.2.1 pps phv poo pcu pmm q33.2.2.1 ppk pkw q33.2.2.2.1 ppn asm sur bud wan tri fou en eh cho at' pa mo le hd nt ct sts6 blo bhi bem glo ghi gem rlo rhi rem rom fnd fc prt lim su op)) (a := x + 71) _ hq36) (by rw [hKR]; exact ⟨rfl, rfl, ⟨by decide, by decide⟩, by show _ ≤ 601024; omega, by show _ ≤ 7293034; omega⟩) rfl rfl (by simp) rfl dL_law_298 rfl ?_
          refine g_heap (h' := (wSh (wA (wMd σ (x + 71) q35.2.1 m_set m_mir m_tgt q35.2.2.1 q35.2.2.2 m_pls m_pl m_tri m_asm m_tak m_pld m_cel m_pie m_nxt m_cho m_cbs m_cub m_sts m_stt m_frm m_by m_wrk m_oth m_mvs m_mov) (x + 94) 1 q33.2.2.2.2) x q33.2.1 pps phv poo pcu pmm q33.2.2.1 ppk pkw q33.2.2.2.1 ppn asm sur bud wan tri fou en eh cho at' pa mo le hd nt ct sts6 blo bhi bem glo ghi gem rlo rhi rem rom fnd fc prt lim su op)) lw_md_r ?_
          refine g_iload C (q := 1) rfl dL_law_301 rfl ?_
          refine g_icmp_eq (tgt := 308) C dL_law_303 (by decide) rfl (fun c37 => ?_) (fun c37 => ?_)
          · replace hf := ift c37 hf
            refine g_iload C (q := 1) rfl dL_law_308 rfl ?_
            refine g_if_ne (tgt := 325) C dL_law_310 (by decide) rfl (fun c38 => ?_) (fun c38 => ?_)
            · replace hf := iff' c38 hf
              refine g_goto (pc' := 951) C dL_law_325 (by decide) ?_
              refine g_iinc (v := l4 + (4 : Int32)) (lv' := [(4, .int (l4 + (4 : Int32))), (6, .int q35.1), (5, .int q33.1), (0, .ref bs), (1, .ref x), (2, .ref (x + 71)), (3, .ref (x + 94))]) (q := 6) C dL_law_951 rfl rfl rfl (by rw [hKN]; decide) rfl ?_
              refine g_goto (pc' := 23) C dL_law_954 (by decide) ?_
              refine g_sub (lv' := [(0, .ref bs), (1, .ref x), (2, .ref (x + 71)), (3, .ref (x + 94)), (4, .int (l4 + (4 : Int32)))]) [3, 4, 5, 6, 0] rfl ?_
              exact ih _ _ _ _ _ _ _ _ _ _ _ _ _ _ _ _ _ _ _ _ _ _ _ _ _ _ _ _ _ _ _ _ _ _ _ _ _ _ _ _ _ _ _ _ _ _ _ _ _ _ _ _ _ _ _ _ _ _ _ _ _ _ _ _ _ _ _ _ _ _ _ _ _ _ _ (by omega) (by omega) hT9 hf _
            · replace hf := ift c38 hf
              refine g_aload_n C rfl (q := 5) rfl dL_law_313 rfl ?_
              refine g_iconst (v := 0) C (by decide) dL_law_314 rfl ?_
              obtain ⟨g39, hf⟩ := gd hf
              refine g_lald C ((wL_out (by show _ ∨ _ + 71 ≤ _; omega)).trans (wL_at0 rfl)) (inB_in g39) dL_law_315 rfl ?_
              refine g_iload C (q := 0) rfl dL_law_316 rfl ?_
              refine g_i2l C dL_law_318 rfl ?_
              refine g_lif_eq (tgt := 325) C dL_law_319 rfl dL_law_320 (by decide) rfl (fun c40 => ?_) (fun c40 => ?_)
              · replace hf := ift c40 hf
                refine g_goto (pc' := 951) C dL_law_325 (by decide) ?_
                refine g_iinc (v := l4 + (4 : Int32)) (lv' := [(4, .int (l4 + (4 : Int32))), (6, .int q35.1), (5, .int q33.1), (0, .ref bs), (1, .ref x), (2, .ref (x + 71)), (3, .ref (x + 94))]) (q := 6) C dL_law_951 rfl rfl rfl (by rw [hKN]; decide) rfl ?_
                refine g_goto (pc' := 23) C dL_law_954 (by decide) ?_
                refine g_sub (lv' := [(0, .ref bs), (1, .ref x), (2, .ref (x + 71)), (3, .ref (x + 94)), (4, .int (l4 + (4 : Int32)))]) [3, 4, 5, 6, 0] rfl ?_
                exact ih _ _ _ _ _ _ _ _ _ _ _ _ _ _ _ _ _ _ _ _ _ _ _ _ _ _ _ _ _ _ _ _ _ _ _ _ _ _ _ _ _ _ _ _ _ _ _ _ _ _ _ _ _ _ _ _ _ _ _ _ _ _ _ _ _ _ _ _ _ _ _ _ _ _ _ (by omega) (by omega) hT9 hf _
              · replace hf := iff' c40 hf
                refine g_iconst (v := 0) C (by decide) dL_law_323 rfl ?_
                exact absurd hf (by decide)
          · replace hf := iff' c37 hf
            refine g_iconst (v := 0) C (by decide) dL_law_306 rfl ?_
            exact absurd hf (by decide)
        | 3, _, ex9 =>
          replace hf := iff' (by rw [ex9]; decide) hf
          replace hf := iff' (by rw [ex9]; decide) hf
          replace hf := iff' (by rw [ex9]; decide) hf
          replace hf := ift (by rw [ex9]; decide) hf
          show G K (cells) (slots) 328 [(0, .ref bs), (1, .ref x), (2, .ref (x + 71)), (3, .ref (x + 94)), (4, .int l4)] [] (wSh (wA (wMd σ (x + 71) m_th m_set m_mir m_tgt m_shs m_shp m_pls m_pl m_tri m_asm m_tak m_pld m_cel m_pie m_nxt m_cho m_cbs m_cub m_sts m_stt m_frm m_by m_wrk m_oth m_mvs m_mov) (x + 94) 1 out) x pss pps phv poo pcu pmm psk ppk pkw psc ppn asm sur bud wan tri fou en eh cho at' pa mo le hd nt ct sts6 blo bhi bem glo ghi gem rlo rhi rem rom fnd fc prt lim su op) n
          refine g_aload_n C rfl (q := 1) rfl dL_law_328 rfl ?_
          refine g_aload_n C rfl (q := 0) rfl dL_law_329 rfl ?_
          refine g_iload C (q := 4) rfl dL_law_330 rfl ?_
          refine g_iconst (v := 1) C (by decide) dL_law_332 rfl ?_
          refine g_iadd C dL_law_333 rfl ?_
          obtain ⟨g41, hf⟩ := gd hf
          refine g_sld C hX hbl hbA (inB_in g41) dL_law_334 rfl ?_
          refine g_aload_n C rfl (q := 0) rfl dL_law_335 rfl ?_
          refine g_iload C (q := 4) rfl dL_law_336 rfl ?_
          refine g_iconst (v := 2) C (by decide) dL_law_338 rfl ?_
          refine g_iadd C dL_law_339 rfl ?_
          obtain ⟨g42, hf⟩ := gd hf
          refine g_sld C hX hbl hbA (inB_in g42) dL_law_340 rfl ?_
          refine g_aload_n C rfl (q := 3) rfl dL_law_341 rfl ?_
          obtain ⟨q43, hq43, hf⟩ := bd hf
          refine g_callSE (st' := []) (as := [.ref x, .int (xs (l4 + (1 : Int32)).toNatClampNeg), .int (xs (l4 + (2 : Int32)).toNatClampNeg), .ref (x + 94)]) (st2 := [.int q43.1]) (k := 4) (mc := 2) (ms := 12) C ⟨wm_RL_86, ws_L_shape, wi_RL, wk_L_shape, by decide +kernel⟩ (c_L_shape (l := kL K) (E := kE K) (σ := wMd σ (x + 71) m_th m_set m_mir m_tgt m_shs m_shp m_pls m_pl m_tri m_asm m_tak m_pld m_cel m_pie m_nxt m_cho m_cbs m_cub m_sts m_stt m_frm m_by m_wrk m_oth m_mvs m_mov) (x := x) (b := x + 94) (by omega) hl0 q43 hq43) (by rw [hKR]; exact ⟨rfl, rfl, ⟨by decide, by decide⟩, by show _ ≤ 601024; omega, by show _ ≤ 7293034; omega⟩) rfl rfl (by simp) rfl dL_law_342 rfl (fun n => ?_)
          refine g_istore (i := 5) (lv' := [(5, .int q43.1), (0, .ref bs), (1, .ref x), (2, .ref (x + 71)), (3, .ref (x + 94)), (4, .int l4)]) C dL_law_345 rfl (by rw [hKN]; decide) rfl ?_
          refine g_aload_n C rfl (q := 3) rfl dL_law_347 rfl ?_
          refine g_aload_n C rfl (q := 1) rfl dL_law_348 rfl ?_
          refine g_iload C (q := 5) rfl dL_law_349 rfl ?_
          refine g_iconst (v := 1) C (by decide) dL_law_351 rfl ?_
          refine g_iadd C dL_law_352 rfl ?_
          obtain ⟨g44, hf⟩ := gd hf
          refine g_sld C hX hbl hbA (inB_in g44) dL_law_353 rfl ?_
          refine g_aload_n C rfl (q := 1) rfl dL_law_354 rfl ?_
          refine g_iload C (q := 5) rfl dL_law_355 rfl ?_
          refine g_iconst (v := 2) C (by decide) dL_law_357 rfl ?_
          refine g_iadd C dL_law_358 rfl ?_
          obtain ⟨g45, hf⟩ := gd hf
          refine g_sld C hX hbl hbA (inB_in g45) dL_law_359 rfl ?_
          obtain ⟨q46, hq46, hf⟩ := bd hf
          refine g_heap lw_md_s ?_
          refine g_callV0 (st' := []) (as := [.int (xs (l4 + (1 : Int32)).toNatClampNeg), .int (xs (l4 + (2 : Int32)).toNatClampNeg)]) (st2 := [.long q46.1]) (k := 2) C ⟨wm_RL_89, wn_X7_shape, wv_X7_shape, wi_RX7, wk_X7_shape, by decide +kernel⟩ rfl (wL_at0 rfl) (c_X7_shape (l := kL K) (E := kE K) (σ := (wSh (wA (wMd σ (x + 71) m_th m_set m_mir m_tgt m_shs m_shp m_pls m_pl m_tri m_asm m_tak m_pld m_cel m_pie m_nxt m_cho m_cbs m_cub m_sts m_stt m_frm m_by m_wrk m_oth m_mvs m_mov) (x + 94) 1 q43.2.2.2.2) x q43.2.1 pps phv poo pcu pmm q43.2.2.1 ppk pkw q43.2.2.2.1 ppn asm sur bud wan tri fou en eh cho at' pa mo le hd nt ct sts6 blo bhi bem glo ghi gem rlo rhi rem rom fnd fc prt lim su op)) (a := x + 71) _ hq46) (by rw [hKR]; exact ⟨rfl, rfl, ⟨by decide, by decide⟩, by show _ ≤ 601024; omega, by show _ ≤ 7293034; omega⟩) rfl rfl (by simp) rfl dL_law_360 rfl ?_
          refine g_heap (h' := (wSh (wA (wMd σ (x + 71) q46.2.1 m_set m_mir m_tgt q46.2.2.1 q46.2.2.2 m_pls m_pl m_tri m_asm m_tak m_pld m_cel m_pie m_nxt m_cho m_cbs m_cub m_sts m_stt m_frm m_by m_wrk m_oth m_mvs m_mov) (x + 94) 1 q43.2.2.2.2) x q43.2.1 pps phv poo pcu pmm q43.2.2.1 ppk pkw q43.2.2.2.1 ppn asm sur bud wan tri fou en eh cho at' pa mo le hd nt ct sts6 blo bhi bem glo ghi gem rlo rhi rem rom fnd fc prt lim su op)) lw_md_r ?_
          refine g_lstore (i := 6) (lv' := [(6, .long q46.1), (5, .int q43.1), (0, .ref bs), (1, .ref x), (2, .ref (x + 71)), (3, .ref (x + 94)), (4, .int l4)]) C dL_law_363 rfl (by rw [hKN]; decide) rfl ?_
          refine g_aload_n C rfl (q := 4) rfl dL_law_365 rfl ?_
          obtain ⟨q47, hq47, hf⟩ := bd hf
          refine g_heap lw_md_s ?_
          refine g_callV0 (st' := []) (as := []) (st2 := [.int q47]) (k := 0) C ⟨wm_RL_74, wn_X7_thrown, wv_X7_thrown, wi_RX7, wk_X7_thrown, by decide +kernel⟩ rfl (wL_at0 rfl) (c_X7_thrown (l := kL K) (E := kE K) (σ := (wSh (wA (wMd σ (x + 71) q46.2.1 m_set m_mir m_tgt q46.2.2.1 q46.2.2.2 m_pls m_pl m_tri m_asm m_tak m_pld m_cel m_pie m_nxt m_cho m_cbs m_cub m_sts m_stt m_frm m_by m_wrk m_oth m_mvs m_mov) (x + 94) 1 q43.2.2.2.2) x q43.2.1 pps phv poo pcu pmm q43.2.2.1 ppk pkw q43.2.2.2.1 ppn asm sur bud wan tri fou en eh cho at' pa mo le hd nt ct sts6 blo bhi bem glo ghi gem rlo rhi rem rom fnd fc prt lim su op)) (a := x + 71) _ hq47) (by rw [hKR]; exact ⟨rfl, rfl, ⟨by decide, by decide⟩, by show _ ≤ 601024; omega, by show _ ≤ 7293034; omega⟩) rfl rfl (by simp) rfl dL_law_366 rfl ?_
          refine g_heap (h' := (wSh (wA (wMd σ (x + 71) q46.2.1 m_set m_mir m_tgt q46.2.2.1 q46.2.2.2 m_pls m_pl m_tri m_asm m_tak m_pld m_cel m_pie m_nxt m_cho m_cbs m_cub m_sts m_stt m_frm m_by m_wrk m_oth m_mvs m_mov) (x + 94) 1 q43.2.2.2.2) x q43.2.1 pps phv poo pcu pmm q43.2.2.1 ppk pkw q43.2.2.2.1 ppn asm sur bud wan tri fou en eh cho at' pa mo le hd nt ct sts6 blo bhi bem glo ghi gem rlo rhi rem rom fnd fc prt lim su op)) lw_md_r ?_
          refine g_iload C (q := 1) rfl dL_law_369 rfl ?_
          refine g_icmp_eq (tgt := 376) C dL_law_371 (by decide) rfl (fun c48 => ?_) (fun c48 => ?_)
          · replace hf := ift c48 hf
            refine g_iload C (q := 1) rfl dL_law_376 rfl ?_
            refine g_if_ne (tgt := 392) C dL_law_378 (by decide) rfl (fun c49 => ?_) (fun c49 => ?_)
            · replace hf := iff' c49 hf
              refine g_goto (pc' := 951) C dL_law_392 (by decide) ?_
              refine g_iinc (v := l4 + (4 : Int32)) (lv' := [(4, .int (l4 + (4 : Int32))), (6, .long q46.1), (5, .int q43.1), (0, .ref bs), (1, .ref x), (2, .ref (x + 71)), (3, .ref (x + 94))]) (q := 6) C dL_law_951 rfl rfl rfl (by rw [hKN]; decide) rfl ?_
              refine g_goto (pc' := 23) C dL_law_954 (by decide) ?_
              refine g_sub (lv' := [(0, .ref bs), (1, .ref x), (2, .ref (x + 71)), (3, .ref (x + 94)), (4, .int (l4 + (4 : Int32)))]) [3, 4, 5, 6, 0] rfl ?_
              exact ih _ _ _ _ _ _ _ _ _ _ _ _ _ _ _ _ _ _ _ _ _ _ _ _ _ _ _ _ _ _ _ _ _ _ _ _ _ _ _ _ _ _ _ _ _ _ _ _ _ _ _ _ _ _ _ _ _ _ _ _ _ _ _ _ _ _ _ _ _ _ _ _ _ _ _ (by omega) (by omega) hT9 hf _
            · replace hf := ift c49 hf
              refine g_aload_n C rfl (q := 5) rfl dL_law_381 rfl ?_
              refine g_iconst (v := 0) C (by decide) dL_law_382 rfl ?_
              obtain ⟨g50, hf⟩ := gd hf
              refine g_lald C ((wL_out (by show _ ∨ _ + 71 ≤ _; omega)).trans (wL_at0 rfl)) (inB_in g50) dL_law_383 rfl ?_
              refine g_lload C (q := 0) rfl dL_law_384 rfl ?_
              refine g_lif_eq (tgt := 392) C dL_law_386 rfl dL_law_387 (by decide) rfl (fun c51 => ?_) (fun c51 => ?_)
              · replace hf := ift c51 hf
                refine g_goto (pc' := 951) C dL_law_392 (by decide) ?_
                refine g_iinc (v := l4 + (4 : Int32)) (lv' := [(4, .int (l4 + (4 : Int32))), (6, .long q46.1), (5, .int q43.1), (0, .ref bs), (1, .ref x), (2, .ref (x + 71)), (3, .ref (x + 94))]) (q := 6) C dL_law_951 rfl rfl rfl (by rw [hKN]; decide) rfl ?_
                refine g_goto (pc' := 23) C dL_law_954 (by decide) ?_
                refine g_sub (lv' := [(0, .ref bs), (1, .ref x), (2, .ref (x + 71)), (3, .ref (x + 94)), (4, .int (l4 + (4 : Int32)))]) [3, 4, 5, 6, 0] rfl ?_
                exact ih _ _ _ _ _ _ _ _ _ _ _ _ _ _ _ _ _ _ _ _ _ _ _ _ _ _ _ _ _ _ _ _ _ _ _ _ _ _ _ _ _ _ _ _ _ _ _ _ _ _ _ _ _ _ _ _ _ _ _ _ _ _ _ _ _ _ _ _ _ _ _ _ _ _ _ (by omega) (by omega) hT9 hf _
              · replace hf := iff' c51 hf
                refine g_iconst (v := 0) C (by decide) dL_law_390 rfl ?_
                exact absurd hf (by decide)
          · replace hf := iff' c48 hf
            refine g_iconst (v := 0) C (by decide) dL_law_374 rfl ?_
            exact absurd hf (by decide)
        | 4, _, ex9 =>
          replace hf := iff' (by rw [ex9]; decide) hf
          replace hf := iff' (by rw [ex9]; decide) hf
          replace hf := iff' (by rw [ex9]; decide) hf
          replace hf := iff' (by rw [ex9]; decide) hf
          replace hf := ift (by rw [ex9]; decide) hf
          show G K (cells) (slots) 395 [(0, .ref bs), (1, .ref x), (2, .ref (x + 71)), (3, .ref (x + 94)), (4, .int l4)] [] (wSh (wA (wMd σ (x + 71) m_th m_set m_mir m_tgt m_shs m_shp m_pls m_pl m_tri m_asm m_tak m_pld m_cel m_pie m_nxt m_cho m_cbs m_cub m_sts m_stt m_frm m_by m_wrk m_oth m_mvs m_mov) (x + 94) 1 out) x pss pps phv poo pcu pmm psk ppk pkw psc ppn asm sur bud wan tri fou en eh cho at' pa mo le hd nt ct sts6 blo bhi bem glo ghi gem rlo rhi rem rom fnd fc prt lim su op) n
          refine g_aload_n C rfl (q := 1) rfl dL_law_395 rfl ?_
          refine g_aload_n C rfl (q := 0) rfl dL_law_396 rfl ?_
          refine g_iload C (q := 4) rfl dL_law_397 rfl ?_
          refine g_iconst (v := 1) C (by decide) dL_law_399 rfl ?_
          refine g_iadd C dL_law_400 rfl ?_
          obtain ⟨g52, hf⟩ := gd hf
          refine g_sld C hX hbl hbA (inB_in g52) dL_law_401 rfl ?_
          refine g_aload_n C rfl (q := 0) rfl dL_law_402 rfl ?_
          refine g_iload C (q := 4) rfl dL_law_403 rfl ?_
          refine g_iconst (v := 2) C (by decide) dL_law_405 rfl ?_
          refine g_iadd C dL_law_406 rfl ?_
          obtain ⟨g53, hf⟩ := gd hf
          refine g_sld C hX hbl hbA (inB_in g53) dL_law_407 rfl ?_
          obtain ⟨q54, hq54, hf⟩ := bd hf
          refine g_callSE (st' := []) (as := [.ref x, .int (xs (l4 + (1 : Int32)).toNatClampNeg), .int (xs (l4 + (2 : Int32)).toNatClampNeg)]) (st2 := [.int q54.1]) (k := 3) (mc := 2) (ms := 12) C ⟨wm_RL_90, ws_L_target, wi_RL, wk_L_target, by decide +kernel⟩ (c_L_target (l := kL K) (E := kE K) (σ := wMd σ (x + 71) m_th m_set m_mir m_tgt m_shs m_shp m_pls m_pl m_tri m_asm m_tak m_pld m_cel m_pie m_nxt m_cho m_cbs m_cub m_sts m_stt m_frm m_by m_wrk m_oth m_mvs m_mov) (x := x) (b := x + 94) (by omega) hl0 q54 hq54) (by rw [hKR]; exact ⟨rfl, rfl, ⟨by decide, by decide⟩, by show _ ≤ 601024; omega, by show _ ≤ 7293034; omega⟩) rfl rfl (by simp) rfl dL_law_408 rfl (fun n => ?_)
          refine g_istore (i := 5) (lv' := [(5, .int q54.1), (0, .ref bs), (1, .ref x), (2, .ref (x + 71)), (3, .ref (x + 94)), (4, .int l4)]) C dL_law_411 rfl (by rw [hKN]; decide) rfl ?_
          refine g_aload_n C rfl (q := 3) rfl dL_law_413 rfl ?_
          refine g_aload_n C rfl (q := 1) rfl dL_law_414 rfl ?_
          refine g_iload C (q := 5) rfl dL_law_415 rfl ?_
          refine g_iconst (v := 1) C (by decide) dL_law_417 rfl ?_
          refine g_iadd C dL_law_418 rfl ?_
          obtain ⟨g55, hf⟩ := gd hf
          refine g_sld C hX hbl hbA (inB_in g55) dL_law_419 rfl ?_
          refine g_aload_n C rfl (q := 1) rfl dL_law_420 rfl ?_
          refine g_iload C (q := 5) rfl dL_law_421 rfl ?_
          refine g_iconst (v := 2) C (by decide) dL_law_423 rfl ?_
          refine g_iadd C dL_law_424 rfl ?_
          obtain ⟨g56, hf⟩ := gd hf
          refine g_sld C hX hbl hbA (inB_in g56) dL_law_425 rfl ?_
          obtain ⟨q57, hq57, hf⟩ := bd hf
          refine g_heap lw_md_s ?_
          refine g_callV0 (st' := []) (as := [.int (xs (l4 + (1 : Int32)).toNatClampNeg), .int (xs (l4 + (2 : Int32)).toNatClampNeg)]) (st2 := []) (k := 2) C ⟨wm_RL_93, wn_X7_target, wv_X7_target, wi_RX7, wk_X7_target, by decide +kernel⟩ rfl (wL_at0 rfl) (c_X7_target (l := kL K) (E := kE K) (σ := (wSh (wA (wMd σ (x + 71) m_th m_set m_mir m_tgt m_shs m_shp m_pls m_pl m_tri m_asm m_tak m_pld m_cel m_pie m_nxt m_cho m_cbs m_cub m_sts m_stt m_frm m_by m_wrk m_oth m_mvs m_mov) (x + 94) 1 out) x pss pps phv poo pcu pmm psk ppk pkw psc ppn asm sur bud wan tri fou en eh cho at' pa mo le hd nt ct sts6 blo bhi bem glo ghi gem rlo rhi rem rom fnd fc prt lim q54.2.1 q54.2.2)) (a := x + 71) _ hq57) (by rw [hKR]; exact ⟨rfl, rfl, ⟨by decide, by decide⟩, by show _ ≤ 601024; omega, by show _ ≤ 7293034; omega⟩) rfl rfl (by simp) rfl dL_law_426 rfl ?_
          refine g_heap (h' := (wSh (wA (wMd σ (x + 71) q57.1 m_set m_mir q57.2 m_shs m_shp m_pls m_pl m_tri m_asm m_tak m_pld m_cel m_pie m_nxt m_cho m_cbs m_cub m_sts m_stt m_frm m_by m_wrk m_oth m_mvs m_mov) (x + 94) 1 out) x pss pps phv poo pcu pmm psk ppk pkw psc ppn asm sur bud wan tri fou en eh cho at' pa mo le hd nt ct sts6 blo bhi bem glo ghi gem rlo rhi rem rom fnd fc prt lim q54.2.1 q54.2.2)) lw_md_r ?_
          refine g_aload_n C rfl (q := 3) rfl dL_law_429 rfl ?_
          obtain ⟨q58, hq58, hf⟩ := bd hf
          refine g_heap lw_md_s ?_
          refine g_callV0 (st' := []) (as := []) (st2 := [.int q58]) (k := 0) C ⟨wm_RL_74, wn_X7_thrown, wv_X7_thrown, wi_RX7, wk_X7_thrown, by decide +kernel⟩ rfl (wL_at0 rfl) (c_X7_thrown (l := kL K) (E := kE K) (σ := (wSh (wA (wMd σ (x + 71) q57.1 m_set m_mir q57.2 m_shs m_shp m_pls m_pl m_tri m_asm m_tak m_pld m_cel m_pie m_nxt m_cho m_cbs m_cub m_sts m_stt m_frm m_by m_wrk m_oth m_mvs m_mov) (x + 94) 1 out) x pss pps phv poo pcu pmm psk ppk pkw psc ppn asm sur bud wan tri fou en eh cho at' pa mo le hd nt ct sts6 blo bhi bem glo ghi gem rlo rhi rem rom fnd fc prt lim q54.2.1 q54.2.2)) (a := x + 71) _ hq58) (by rw [hKR]; exact ⟨rfl, rfl, ⟨by decide, by decide⟩, by show _ ≤ 601024; omega, by show _ ≤ 7293034; omega⟩) rfl rfl (by simp) rfl dL_law_430 rfl ?_
          refine g_heap (h' := (wSh (wA (wMd σ (x + 71) q57.1 m_set m_mir q57.2 m_shs m_shp m_pls m_pl m_tri m_asm m_tak m_pld m_cel m_pie m_nxt m_cho m_cbs m_cub m_sts m_stt m_frm m_by m_wrk m_oth m_mvs m_mov) (x + 94) 1 out) x pss pps phv poo pcu pmm psk ppk pkw psc ppn asm sur bud wan tri fou en eh cho at' pa mo le hd nt ct sts6 blo bhi bem glo ghi gem rlo rhi rem rom fnd fc prt lim q54.2.1 q54.2.2)) lw_md_r ?_
          refine g_iload C (q := 0) rfl dL_law_433 rfl ?_
          refine g_icmp_eq (tgt := 440) C dL_law_435 (by decide) rfl (fun c59 => ?_) (fun c59 => ?_)
          · replace hf := ift c59 hf
            refine g_goto (pc' := 951) C dL_law_440 (by decide) ?_
            refine g_iinc (v := l4 + (4 : Int32)) (lv' := [(4, .int (l4 + (4 : Int32))), (5, .int q54.1), (0, .ref bs), (1, .ref x), (2, .ref (x + 71)), (3, .ref (x + 94))]) (q := 5) C dL_law_951 rfl rfl rfl (by rw [hKN]; decide) rfl ?_
            refine g_goto (pc' := 23) C dL_law_954 (by decide) ?_
            refine g_sub (lv' := [(0, .ref bs), (1, .ref x), (2, .ref (x + 71)), (3, .ref (x + 94)), (4, .int (l4 + (4 : Int32)))]) [2, 3, 4, 5, 0] rfl ?_
            exact ih _ _ _ _ _ _ _ _ _ _ _ _ _ _ _ _ _ _ _ _ _ _ _ _ _ _ _ _ _ _ _ _ _ _ _ _ _ _ _ _ _ _ _ _ _ _ _ _ _ _ _ _ _ _ _ _ _ _ _ _ _ _ _ _ _ _ _ _ _ _ _ _ _ _ _ (by omega) (by omega) hT9 hf _
          · replace hf := iff' c59 hf
            refine g_iconst (v := 0) C (by decide) dL_law_438 rfl ?_
            exact absurd hf (by decide)
        | 5, _, ex9 =>
          replace hf := iff' (by rw [ex9]; decide) hf
          replace hf := iff' (by rw [ex9]; decide) hf
          replace hf := iff' (by rw [ex9]; decide) hf
          replace hf := iff' (by rw [ex9]; decide) hf
          replace hf := iff' (by rw [ex9]; decide) hf
          replace hf := ift (by rw [ex9]; decide) hf
          show G K (cells) (slots) 443 [(0, .ref bs), (1, .ref x), (2, .ref (x + 71)), (3, .ref (x + 94)), (4, .int l4)] [] (wSh (wA (wMd σ (x + 71) m_th m_set m_mir m_tgt m_shs m_shp m_pls m_pl m_tri m_asm m_tak m_pld m_cel m_pie m_nxt m_cho m_cbs m_cub m_sts m_stt m_frm m_by m_wrk m_oth m_mvs m_mov) (x + 94) 1 out) x pss pps phv poo pcu pmm psk ppk pkw psc ppn asm sur bud wan tri fou en eh cho at' pa mo le hd nt ct sts6 blo bhi bem glo ghi gem rlo rhi rem rom fnd fc prt lim su op) n
          refine g_aload_n C rfl (q := 1) rfl dL_law_443 rfl ?_
          refine g_aload_n C rfl (q := 0) rfl dL_law_444 rfl ?_
          refine g_iload C (q := 4) rfl dL_law_445 rfl ?_
          refine g_iconst (v := 1) C (by decide) dL_law_447 rfl ?_
          refine g_iadd C dL_law_448 rfl ?_
          obtain ⟨g60, hf⟩ := gd hf
          refine g_sld C hX hbl hbA (inB_in g60) dL_law_449 rfl ?_
          refine g_aload_n C rfl (q := 3) rfl dL_law_450 rfl ?_
          obtain ⟨q61, hq61, hf⟩ := bd hf
          refine g_callSE (st' := []) (as := [.ref x, .int (xs (l4 + (1 : Int32)).toNatClampNeg), .ref (x + 94)]) (st2 := [.int q61.1]) (k := 3) (mc := 2) (ms := 12) C ⟨wm_RL_94, ws_L_places, wi_RL, wk_L_places, by decide +kernel⟩ (c_L_places (l := kL K) (E := kE K) (σ := wMd σ (x + 71) m_th m_set m_mir m_tgt m_shs m_shp m_pls m_pl m_tri m_asm m_tak m_pld m_cel m_pie m_nxt m_cho m_cbs m_cub m_sts m_stt m_frm m_by m_wrk m_oth m_mvs m_mov) (x := x) (b := x + 94) (by omega) hl0 q61 hq61) (by rw [hKR]; exact ⟨rfl, rfl, ⟨by decide, by decide⟩, by show _ ≤ 601024; omega, by show _ ≤ 7293034; omega⟩) rfl rfl (by simp) rfl dL_law_451 rfl (fun n => ?_)
          refine g_istore (i := 5) (lv' := [(5, .int q61.1), (0, .ref bs), (1, .ref x), (2, .ref (x + 71)), (3, .ref (x + 94)), (4, .int l4)]) C dL_law_454 rfl (by rw [hKN]; decide) rfl ?_
          refine g_aload_n C rfl (q := 3) rfl dL_law_456 rfl ?_
          refine g_aload_n C rfl (q := 1) rfl dL_law_457 rfl ?_
          refine g_iload C (q := 5) rfl dL_law_458 rfl ?_
          refine g_iconst (v := 1) C (by decide) dL_law_460 rfl ?_
          refine g_iadd C dL_law_461 rfl ?_
          obtain ⟨g62, hf⟩ := gd hf
          refine g_sld C hX hbl hbA (inB_in g62) dL_law_462 rfl ?_
          obtain ⟨q63, hq63, hf⟩ := bd hf
          refine g_heap lw_md_s ?_
          refine g_callV0 (st' := []) (as := [.int (xs (l4 + (1 : Int32)).toNatClampNeg)]) (st2 := [.int q63.1]) (k := 1) C ⟨wm_RL_96, wn_X7_places, wv_X7_places, wi_RX7, wk_X7_places, by decide +kernel⟩ rfl (wL_at0 rfl) (c_X7_places (l := kL K) (E := kE K) (σ := (wSh (wA (wMd σ (x + 71) m_th m_set m_mir m_tgt m_shs m_shp m_pls m_pl m_tri m_asm m_tak m_pld m_cel m_pie m_nxt m_cho m_cbs m_cub m_sts m_stt m_frm m_by m_wrk m_oth m_mvs m_mov) (x + 94) 1 q61.2.2.2.2.2.2.2.2.2.2) x q61.2.1 q61.2.2.1 q61.2.2.2.1 q61.2.2.2.2.1 pcu pmm q61.2.2.2.2.2.1 q61.2.2.2.2.2.2.1 q61.2.2.2.2.2.2.2.1 q61.2.2.2.2.2.2.2.2.1 q61.2.2.2.2.2.2.2.2.2.1 asm sur bud wan tri fou en eh cho at' pa mo le hd nt ct sts6 blo bhi bem glo ghi gem rlo rhi rem rom fnd fc prt lim su op)) (a := x + 71) _ hq63) (by rw [hKR]; exact ⟨rfl, rfl, ⟨by decide, by decide⟩, by show _ ≤ 601024; omega, by show _ ≤ 7293034; omega⟩) rfl rfl (by simp) rfl dL_law_463 rfl ?_
          refine g_heap (h' := (wSh (wA (wMd σ (x + 71) q63.2.1 m_set m_mir m_tgt q63.2.2.1 q63.2.2.2.1 q63.2.2.2.2.1 q63.2.2.2.2.2 m_tri m_asm m_tak m_pld m_cel m_pie m_nxt m_cho m_cbs m_cub m_sts m_stt m_frm m_by m_wrk m_oth m_mvs m_mov) (x + 94) 1 q61.2.2.2.2.2.2.2.2.2.2) x q61.2.1 q61.2.2.1 q61.2.2.2.1 q61.2.2.2.2.1 pcu pmm q61.2.2.2.2.2.1 q61.2.2.2.2.2.2.1 q61.2.2.2.2.2.2.2.1 q61.2.2.2.2.2.2.2.2.1 q61.2.2.2.2.2.2.2.2.2.1 asm sur bud wan tri fou en eh cho at' pa mo le hd nt ct sts6 blo bhi bem glo ghi gem rlo rhi rem rom fnd fc prt lim su op)) lw_md_r ?_
          refine g_istore (i := 6) (lv' := [(6, .int q63.1), (5, .int q61.1), (0, .ref bs), (1, .ref x), (2, .ref (x + 71)), (3, .ref (x + 94)), (4, .int l4)]) C dL_law_466 rfl (by rw [hKN]; decide) rfl ?_
          refine g_aload_n C rfl (q := 4) rfl dL_law_468 rfl ?_
          obtain ⟨q64, hq64, hf⟩ := bd hf
          refine g_heap lw_md_s ?_
          refine g_callV0 (st' := []) (as := []) (st2 := [.int q64]) (k := 0) C ⟨wm_RL_74, wn_X7_thrown, wv_X7_thrown, wi_RX7, wk_X7_thrown, by decide +kernel⟩ rfl (wL_at0 rfl) (c_X7_thrown (l := kL K) (E := kE K) (σ := (wSh (wA (wMd σ (x + 71) q63.2.1 m_set m_mir m_tgt q63.2.2.1 q63.2.2.2.1 q63.2.2.2.2.1 q63.2.2.2.2.2 m_tri m_asm m_tak m_pld m_cel m_pie m_nxt m_cho m_cbs m_cub m_sts m_stt m_frm m_by m_wrk m_oth m_mvs m_mov) (x + 94) 1 q61.2.2.2.2.2.2.2.2.2.2) x q61.2.1 q61.2.2.1 q61.2.2.2.1 q61.2.2.2.2.1 pcu pmm q61.2.2.2.2.2.1 q61.2.2.2.2.2.2.1 q61.2.2.2.2.2.2.2.1 q61.2.2.2.2.2.2.2.2.1 q61.2.2.2.2.2.2.2.2.2.1 asm sur bud wan tri fou en eh cho at' pa mo le hd nt ct sts6 blo bhi bem glo ghi gem rlo rhi rem rom fnd fc prt lim su op)) (a := x + 71) _ hq64) (by rw [hKR]; exact ⟨rfl, rfl, ⟨by decide, by decide⟩, by show _ ≤ 601024; omega, by show _ ≤ 7293034; omega⟩) rfl rfl (by simp) rfl dL_law_469 rfl ?_
          refine g_heap (h' := (wSh (wA (wMd σ (x + 71) q63.2.1 m_set m_mir m_tgt q63.2.2.1 q63.2.2.2.1 q63.2.2.2.2.1 q63.2.2.2.2.2 m_tri m_asm m_tak m_pld m_cel m_pie m_nxt m_cho m_cbs m_cub m_sts m_stt m_frm m_by m_wrk m_oth m_mvs m_mov) (x + 94) 1 q61.2.2.2.2.2.2.2.2.2.2) x q61.2.1 q61.2.2.1 q61.2.2.2.1 q61.2.2.2.2.1 pcu pmm q61.2.2.2.2.2.1 q61.2.2.2.2.2.2.1 q61.2.2.2.2.2.2.2.1 q61.2.2.2.2.2.2.2.2.1 q61.2.2.2.2.2.2.2.2.2.1 asm sur bud wan tri fou en eh cho at' pa mo le hd nt ct sts6 blo bhi bem glo ghi gem rlo rhi rem rom fnd fc prt lim su op)) lw_md_r ?_
          refine g_iload C (q := 1) rfl dL_law_472 rfl ?_
          refine g_icmp_eq (tgt := 479) C dL_law_474 (by decide) rfl (fun c65 => ?_) (fun c65 => ?_)
          · replace hf := ift c65 hf
            refine g_iload C (q := 1) rfl dL_law_479 rfl ?_
            refine g_if_ne (tgt := 496) C dL_law_481 (by decide) rfl (fun c66 => ?_) (fun c66 => ?_)
            · replace hf := iff' c66 hf
              refine g_goto (pc' := 951) C dL_law_496 (by decide) ?_
              refine g_iinc (v := l4 + (4 : Int32)) (lv' := [(4, .int (l4 + (4 : Int32))), (6, .int q63.1), (5, .int q61.1), (0, .ref bs), (1, .ref x), (2, .ref (x + 71)), (3, .ref (x + 94))]) (q := 6) C dL_law_951 rfl rfl rfl (by rw [hKN]; decide) rfl ?_
              refine g_goto (pc' := 23) C dL_law_954 (by decide) ?_
              refine g_sub (lv' := [(0, .ref bs), (1, .ref x), (2, .ref (x + 71)), (3, .ref (x + 94)), (4, .int (l4 + (4 : Int32)))]) [3, 4, 5, 6, 0] rfl ?_
              exact ih _ _ _ _ _ _ _ _ _ _ _ _ _ _ _ _ _ _ _ _ _ _ _ _ _ _ _ _ _ _ _ _ _ _ _ _ _ _ _ _ _ _ _ _ _ _ _ _ _ _ _ _ _ _ _ _ _ _ _ _ _ _ _ _ _ _ _ _ _ _ _ _ _ _ _ (by omega) (by omega) hT9 hf _
            · replace hf := ift c66 hf
              refine g_aload_n C rfl (q := 5) rfl dL_law_484 rfl ?_
              refine g_iconst (v := 0) C (by decide) dL_law_485 rfl ?_
              obtain ⟨g67, hf⟩ := gd hf
              refine g_lald C ((wL_out (by show _ ∨ _ + 71 ≤ _; omega)).trans (wL_at0 rfl)) (inB_in g67) dL_law_486 rfl ?_
              refine g_iload C (q := 0) rfl dL_law_487 rfl ?_
              refine g_i2l C dL_law_489 rfl ?_
              refine g_lif_eq (tgt := 496) C dL_law_490 rfl dL_law_491 (by decide) rfl (fun c68 => ?_) (fun c68 => ?_)
              · replace hf := ift c68 hf
                refine g_goto (pc' := 951) C dL_law_496 (by decide) ?_
                refine g_iinc (v := l4 + (4 : Int32)) (lv' := [(4, .int (l4 + (4 : Int32))), (6, .int q63.1), (5, .int q61.1), (0, .ref bs), (1, .ref x), (2, .ref (x + 71)), (3, .ref (x + 94))]) (q := 6) C dL_law_951 rfl rfl rfl (by rw [hKN]; decide) rfl ?_
                refine g_goto (pc' := 23) C dL_law_954 (by decide) ?_
                refine g_sub (lv' := [(0, .ref bs), (1, .ref x), (2, .ref (x + 71)), (3, .ref (x + 94)), (4, .int (l4 + (4 : Int32)))]) [3, 4, 5, 6, 0] rfl ?_
                exact ih _ _ _ _ _ _ _ _ _ _ _ _ _ _ _ _ _ _ _ _ _ _ _ _ _ _ _ _ _ _ _ _ _ _ _ _ _ _ _ _ _ _ _ _ _ _ _ _ _ _ _ _ _ _ _ _ _ _ _ _ _ _ _ _ _ _ _ _ _ _ _ _ _ _ _ (by omega) (by omega) hT9 hf _
              · replace hf := iff' c68 hf
                refine g_iconst (v := 0) C (by decide) dL_law_494 rfl ?_
                exact absurd hf (by decide)
          · replace hf := iff' c65 hf
            refine g_iconst (v := 0) C (by decide) dL_law_477 rfl ?_
            exact absurd hf (by decide)
        | 6, _, ex9 =>
          replace hf := iff' (by rw [ex9]; decide) hf
          replace hf := iff' (by rw [ex9]; decide) hf
          replace hf := iff' (by rw [ex9]; decide) hf
          replace hf := iff' (by rw [ex9]; decide) hf
          replace hf := iff' (by rw [ex9]; decide) hf
          replace hf := iff' (by rw [ex9]; decide) hf
          replace hf := ift (by rw [ex9]; decide) hf
          show G K (cells) (slots) 499 [(0, .ref bs), (1, .ref x), (2, .ref (x + 71)), (3, .ref (x + 94)), (4, .int l4)] [] (wSh (wA (wMd σ (x + 71) m_th m_set m_mir m_tgt m_shs m_shp m_pls m_pl m_tri m_asm m_tak m_pld m_cel m_pie m_nxt m_cho m_cbs m_cub m_sts m_stt m_frm m_by m_wrk m_oth m_mvs m_mov) (x + 94) 1 out) x pss pps phv poo pcu pmm psk ppk pkw psc ppn asm sur bud wan tri fou en eh cho at' pa mo le hd nt ct sts6 blo bhi bem glo ghi gem rlo rhi rem rom fnd fc prt lim su op) n
          refine g_aload_n C rfl (q := 1) rfl dL_law_499 rfl ?_
          refine g_aload_n C rfl (q := 0) rfl dL_law_500 rfl ?_
          refine g_iload C (q := 4) rfl dL_law_501 rfl ?_
          refine g_iconst (v := 1) C (by decide) dL_law_503 rfl ?_
          refine g_iadd C dL_law_504 rfl ?_
          obtain ⟨g69, hf⟩ := gd hf
          refine g_sld C hX hbl hbA (inB_in g69) dL_law_505 rfl ?_
          refine g_aload_n C rfl (q := 3) rfl dL_law_506 rfl ?_
          obtain ⟨q70, hq70, hf⟩ := bd hf
          refine g_callSE (st' := []) (as := [.ref x, .int (xs (l4 + (1 : Int32)).toNatClampNeg), .ref (x + 94)]) (st2 := [.int q70.1]) (k := 3) (mc := 2) (ms := 12) C ⟨wm_RL_97, ws_L_pack, wi_RL, wk_L_pack, by decide +kernel⟩ (c_L_pack (l := kL K) (E := kE K) (σ := wMd σ (x + 71) m_th m_set m_mir m_tgt m_shs m_shp m_pls m_pl m_tri m_asm m_tak m_pld m_cel m_pie m_nxt m_cho m_cbs m_cub m_sts m_stt m_frm m_by m_wrk m_oth m_mvs m_mov) (x := x) (b := x + 94) (by omega) hl0 q70 hq70) (by rw [hKR]; exact ⟨rfl, rfl, ⟨by decide, by decide⟩, by show _ ≤ 601024; omega, by show _ ≤ 7293034; omega⟩) rfl rfl (by simp) rfl dL_law_507 rfl (fun n => ?_)
          refine g_istore (i := 5) (lv' := [(5, .int q70.1), (0, .ref bs), (1, .ref x), (2, .ref (x + 71)), (3, .ref (x + 94)), (4, .int l4)]) C dL_law_510 rfl (by rw [hKN]; decide) rfl ?_
          refine g_aload_n C rfl (q := 3) rfl dL_law_512 rfl ?_
          refine g_aload_n C rfl (q := 1) rfl dL_law_513 rfl ?_
          refine g_iload C (q := 5) rfl dL_law_514 rfl ?_
          refine g_iconst (v := 1) C (by decide) dL_law_516 rfl ?_
          refine g_iadd C dL_law_517 rfl ?_
          obtain ⟨g71, hf⟩ := gd hf
          refine g_sld C hX hbl hbA (inB_in g71) dL_law_518 rfl ?_
          obtain ⟨q72, hq72, hf⟩ := bd hf
          refine g_heap lw_md_s ?_
          refine g_callV0 (st' := []) (as := [.int (xs (l4 + (1 : Int32)).toNatClampNeg)]) (st2 := [.int q72.1]) (k := 1) C ⟨wm_RL_99, wn_X7_pack, wv_X7_pack, wi_RX7, wk_X7_pack, by decide +kernel⟩ rfl (wL_at0 rfl) (c_X7_pack (l := kL K) (E := kE K) (σ := (wSh (wA (wMd σ (x + 71) m_th m_set m_mir m_tgt m_shs m_shp m_pls m_pl m_tri m_asm m_tak m_pld m_cel m_pie m_nxt m_cho m_cbs m_cub m_sts m_stt m_frm m_by m_wrk m_oth m_mvs m_mov) (x + 94) 1 q70.2.2.2.2.2.2.2.2.2.2.2.2.2.2.2.2.2.2) x q70.2.1 q70.2.2.1 q70.2.2.2.1 q70.2.2.2.2.1 pcu pmm q70.2.2.2.2.2.1 q70.2.2.2.2.2.2.1 q70.2.2.2.2.2.2.2.1 q70.2.2.2.2.2.2.2.2.1 q70.2.2.2.2.2.2.2.2.2.1 asm q70.2.2.2.2.2.2.2.2.2.2.1 q70.2.2.2.2.2.2.2.2.2.2.2.1 q70.2.2.2.2.2.2.2.2.2.2.2.2.1 q70.2.2.2.2.2.2.2.2.2.2.2.2.2.1 q70.2.2.2.2.2.2.2.2.2.2.2.2.2.2.1 q70.2.2.2.2.2.2.2.2.2.2.2.2.2.2.2.1 q70.2.2.2.2.2.2.2.2.2.2.2.2.2.2.2.2.1 q70.2.2.2.2.2.2.2.2.2.2.2.2.2.2.2.2.2.1 at' pa mo le hd nt ct sts6 blo bhi bem glo ghi gem rlo rhi rem rom fnd fc prt lim su op)) (a := x + 71) _ hq72) (by rw [hKR]; exact ⟨rfl, rfl, ⟨by decide, by decide⟩, by show _ ≤ 601024; omega, by show _ ≤ 7293034; omega⟩) rfl rfl (by simp) rfl dL_law_519 rfl ?_
          refine g_heap (h' := (wSh (wA (wMd σ (x + 71) q72.2.1 m_set m_mir m_tgt q72.2.2.1 q72.2.2.2.1 q72.2.2.2.2.1 q72.2.2.2.2.2.1 q72.2.2.2.2.2.2.1 m_asm q72.2.2.2.2.2.2.2.1 q72.2.2.2.2.2.2.2.2.1 q72.2.2.2.2.2.2.2.2.2.1 q72.2.2.2.2.2.2.2.2.2.2.1 q72.2.2.2.2.2.2.2.2.2.2.2.1 q72.2.2.2.2.2.2.2.2.2.2.2.2 m_cbs m_cub m_sts m_stt m_frm m_by m_wrk m_oth m_mvs m_mov) (x + 94) 1 q70.2.2.2.2.2.2.2.2.2.2.2.2.2.2.2.2.2.2) x q70.2.1 q70.2.2.1 q70.2.2.2.1 q70.2.2.2.2.1 pcu pmm q70.2.2.2.2.2.1 q70.2.2.2.2.2.2.1 q70.2.2.2.2.2.2.2.1 q70.2.2.2.2.2.2.2.2.1 q70.2.2.2.2.2.2.2.2.2.1 asm q70.2.2.2.2.2.2.2.2.2.2.1 q70.2.2.2.2.2.2.2.2.2.2.2.1 q70.2.2.2.2.2.2.2.2.2.2.2.2.1 q70.2.2.2.2.2.2.2.2.2.2.2.2.2.1 q70.2.2.2.2.2.2.2.2.2.2.2.2.2.2.1 q70.2.2.2.2.2.2.2.2.2.2.2.2.2.2.2.1 q70.2.2.2.2.2.2.2.2.2.2.2.2.2.2.2.2.1 q70.2.2.2.2.2.2.2.2.2.2.2.2.2.2.2.2.2.1 at' pa mo le hd nt ct sts6 blo bhi bem glo ghi gem rlo rhi rem rom fnd fc prt lim su op)) lw_md_r ?_
          refine g_istore (i := 6) (lv' := [(6, .int q72.1), (5, .int q70.1), (0, .ref bs), (1, .ref x), (2, .ref (x + 71)), (3, .ref (x + 94)), (4, .int l4)]) C dL_law_522 rfl (by rw [hKN]; decide) rfl ?_
          refine g_aload_n C rfl (q := 4) rfl dL_law_524 rfl ?_
          obtain ⟨q73, hq73, hf⟩ := bd hf
          refine g_heap lw_md_s ?_
          refine g_callV0 (st' := []) (as := []) (st2 := [.int q73]) (k := 0) C ⟨wm_RL_74, wn_X7_thrown, wv_X7_thrown, wi_RX7, wk_X7_thrown, by decide +kernel⟩ rfl (wL_at0 rfl) (c_X7_thrown (l := kL K) (E := kE K) (σ := (wSh (wA (wMd σ (x + 71) q72.2.1 m_set m_mir m_tgt q72.2.2.1 q72.2.2.2.1 q72.2.2.2.2.1 q72.2.2.2.2.2.1 q72.2.2.2.2.2.2.1 m_asm q72.2.2.2.2.2.2.2.1 q72.2.2.2.2.2.2.2.2.1 q72.2.2.2.2.2.2.2.2.2.1 q72.2.2.2.2.2.2.2.2.2.2.1 q72.2.2.2.2.2.2.2.2.2.2.2.1 q72.2.2.2.2.2.2.2.2.2.2.2.2 m_cbs m_cub m_sts m_stt m_frm m_by m_wrk m_oth m_mvs m_mov) (x + 94) 1 q70.2.2.2.2.2.2.2.2.2.2.2.2.2.2.2.2.2.2) x q70.2.1 q70.2.2.1 q70.2.2.2.1 q70.2.2.2.2.1 pcu pmm q70.2.2.2.2.2.1 q70.2.2.2.2.2.2.1 q70.2.2.2.2.2.2.2.1 q70.2.2.2.2.2.2.2.2.1 q70.2.2.2.2.2.2.2.2.2.1 asm q70.2.2.2.2.2.2.2.2.2.2.1 q70.2.2.2.2.2.2.2.2.2.2.2.1 q70.2.2.2.2.2.2.2.2.2.2.2.2.1 q70.2.2.2.2.2.2.2.2.2.2.2.2.2.1 q70.2.2.2.2.2.2.2.2.2.2.2.2.2.2.1 q70.2.2.2.2.2.2.2.2.2.2.2.2.2.2.2.1 q70.2.2.2.2.2.2.2.2.2.2.2.2.2.2.2.2.1 q70.2.2.2.2.2.2.2.2.2.2.2.2.2.2.2.2.2.1 at' pa mo le hd nt ct sts6 blo bhi bem glo ghi gem rlo rhi rem rom fnd fc prt lim su op)) (a := x + 71) _ hq73) (by rw [hKR]; exact ⟨rfl, rfl, ⟨by decide, by decide⟩, by show _ ≤ 601024; omega, by show _ ≤ 7293034; omega⟩) rfl rfl (by simp) rfl dL_law_525 rfl ?_
          refine g_heap (h' := (wSh (wA (wMd σ (x + 71) q72.2.1 m_set m_mir m_tgt q72.2.2.1 q72.2.2.2.1 q72.2.2.2.2.1 q72.2.2.2.2.2.1 q72.2.2.2.2.2.2.1 m_asm q72.2.2.2.2.2.2.2.1 q72.2.2.2.2.2.2.2.2.1 q72.2.2.2.2.2.2.2.2.2.1 q72.2.2.2.2.2.2.2.2.2.2.1 q72.2.2.2.2.2.2.2.2.2.2.2.1 q72.2.2.2.2.2.2.2.2.2.2.2.2 m_cbs m_cub m_sts m_stt m_frm m_by m_wrk m_oth m_mvs m_mov) (x + 94) 1 q70.2.2.2.2.2.2.2.2.2.2.2.2.2.2.2.2.2.2) x q70.2.1 q70.2.2.1 q70.2.2.2.1 q70.2.2.2.2.1 pcu pmm q70.2.2.2.2.2.1 q70.2.2.2.2.2.2.1 q70.2.2.2.2.2.2.2.1 q70.2.2.2.2.2.2.2.2.1 q70.2.2.2.2.2.2.2.2.2.1 asm q70.2.2.2.2.2.2.2.2.2.2.1 q70.2.2.2.2.2.2.2.2.2.2.2.1 q70.2.2.2.2.2.2.2.2.2.2.2.2.1 q70.2.2.2.2.2.2.2.2.2.2.2.2.2.1 q70.2.2.2.2.2.2.2.2.2.2.2.2.2.2.1 q70.2.2.2.2.2.2.2.2.2.2.2.2.2.2.2.1 q70.2.2.2.2.2.2.2.2.2.2.2.2.2.2.2.2.1 q70.2.2.2.2.2.2.2.2.2.2.2.2.2.2.2.2.2.1 at' pa mo le hd nt ct sts6 blo bhi bem glo ghi gem rlo rhi rem rom fnd fc prt lim su op)) lw_md_r ?_
          refine g_iload C (q := 1) rfl dL_law_528 rfl ?_
          refine g_icmp_eq (tgt := 535) C dL_law_530 (by decide) rfl (fun c74 => ?_) (fun c74 => ?_)
          · replace hf := ift c74 hf
            refine g_iload C (q := 1) rfl dL_law_535 rfl ?_
            refine g_if_ne (tgt := 552) C dL_law_537 (by decide) rfl (fun c75 => ?_) (fun c75 => ?_)
            · replace hf := iff' c75 hf
              refine g_goto (pc' := 951) C dL_law_552 (by decide) ?_
              refine g_iinc (v := l4 + (4 : Int32)) (lv' := [(4, .int (l4 + (4 : Int32))), (6, .int q72.1), (5, .int q70.1), (0, .ref bs), (1, .ref x), (2, .ref (x + 71)), (3, .ref (x + 94))]) (q := 6) C dL_law_951 rfl rfl rfl (by rw [hKN]; decide) rfl ?_
              refine g_goto (pc' := 23) C dL_law_954 (by decide) ?_
              refine g_sub (lv' := [(0, .ref bs), (1, .ref x), (2, .ref (x + 71)), (3, .ref (x + 94)), (4, .int (l4 + (4 : Int32)))]) [3, 4, 5, 6, 0] rfl ?_
              exact ih _ _ _ _ _ _ _ _ _ _ _ _ _ _ _ _ _ _ _ _ _ _ _ _ _ _ _ _ _ _ _ _ _ _ _ _ _ _ _ _ _ _ _ _ _ _ _ _ _ _ _ _ _ _ _ _ _ _ _ _ _ _ _ _ _ _ _ _ _ _ _ _ _ _ _ (by omega) (by omega) hT9 hf _
            · replace hf := ift c75 hf
              refine g_aload_n C rfl (q := 5) rfl dL_law_540 rfl ?_
              refine g_iconst (v := 0) C (by decide) dL_law_541 rfl ?_
              obtain ⟨g76, hf⟩ := gd hf
              refine g_lald C ((wL_out (by show _ ∨ _ + 71 ≤ _; omega)).trans (wL_at0 rfl)) (inB_in g76) dL_law_542 rfl ?_
              refine g_iload C (q := 0) rfl dL_law_543 rfl ?_
              refine g_i2l C dL_law_545 rfl ?_
              refine g_lif_eq (tgt := 552) C dL_law_546 rfl dL_law_547 (by decide) rfl (fun c77 => ?_) (fun c77 => ?_)
              · replace hf := ift c77 hf
                refine g_goto (pc' := 951) C dL_law_552 (by decide) ?_
                refine g_iinc (v := l4 + (4 : Int32)) (lv' := [(4, .int (l4 + (4 : Int32))), (6, .int q72.1), (5, .int q70.1), (0, .ref bs), (1, .ref x), (2, .ref (x + 71)), (3, .ref (x + 94))]) (q := 6) C dL_law_951 rfl rfl rfl (by rw [hKN]; decide) rfl ?_
                refine g_goto (pc' := 23) C dL_law_954 (by decide) ?_
                refine g_sub (lv' := [(0, .ref bs), (1, .ref x), (2, .ref (x + 71)), (3, .ref (x + 94)), (4, .int (l4 + (4 : Int32)))]) [3, 4, 5, 6, 0] rfl ?_
                exact ih _ _ _ _ _ _ _ _ _ _ _ _ _ _ _ _ _ _ _ _ _ _ _ _ _ _ _ _ _ _ _ _ _ _ _ _ _ _ _ _ _ _ _ _ _ _ _ _ _ _ _ _ _ _ _ _ _ _ _ _ _ _ _ _ _ _ _ _ _ _ _ _ _ _ _ (by omega) (by omega) hT9 hf _
              · replace hf := iff' c77 hf
                refine g_iconst (v := 0) C (by decide) dL_law_550 rfl ?_
                exact absurd hf (by decide)
          · replace hf := iff' c74 hf
            refine g_iconst (v := 0) C (by decide) dL_law_533 rfl ?_
            exact absurd hf (by decide)
        | 7, _, ex9 =>
          replace hf := iff' (by rw [ex9]; decide) hf
          replace hf := iff' (by rw [ex9]; decide) hf
          replace hf := iff' (by rw [ex9]; decide) hf
          replace hf := iff' (by rw [ex9]; decide) hf
          replace hf := iff' (by rw [ex9]; decide) hf
          replace hf := iff' (by rw [ex9]; decide) hf
          replace hf := iff' (by rw [ex9]; decide) hf
          replace hf := ift (by rw [ex9]; decide) hf
          show G K (cells) (slots) 555 [(0, .ref bs), (1, .ref x), (2, .ref (x + 71)), (3, .ref (x + 94)), (4, .int l4)] [] (wSh (wA (wMd σ (x + 71) m_th m_set m_mir m_tgt m_shs m_shp m_pls m_pl m_tri m_asm m_tak m_pld m_cel m_pie m_nxt m_cho m_cbs m_cub m_sts m_stt m_frm m_by m_wrk m_oth m_mvs m_mov) (x + 94) 1 out) x pss pps phv poo pcu pmm psk ppk pkw psc ppn asm sur bud wan tri fou en eh cho at' pa mo le hd nt ct sts6 blo bhi bem glo ghi gem rlo rhi rem rom fnd fc prt lim su op) n
          refine g_aload_n C rfl (q := 1) rfl dL_law_555 rfl ?_
          obtain ⟨q78, hq78, hf⟩ := bd hf
          refine g_heap rfl ?_
          refine g_callV0 (st' := []) (as := []) (st2 := [.int q78]) (k := 0) C ⟨wm_RL_100, wn_X6_tries, wv_X6_tries, wi_RX6, wk_X6_tries, by decide +kernel⟩ rfl (wL_at0 rfl) (c_X6_tries (l := kL K) (E := kE K) (σ := wA (wMd σ (x + 71) m_th m_set m_mir m_tgt m_shs m_shp m_pls m_pl m_tri m_asm m_tak m_pld m_cel m_pie m_nxt m_cho m_cbs m_cub m_sts m_stt m_frm m_by m_wrk m_oth m_mvs m_mov) (x + 94) 1 out) (x := x) _ hq78) (by rw [hKR]; exact ⟨rfl, rfl, ⟨by decide, by decide⟩, by show _ ≤ 601024; omega, by show _ ≤ 7293034; omega⟩) rfl rfl (by simp) rfl dL_law_556 rfl ?_
          refine g_heap (h' := (wSh (wA (wMd σ (x + 71) m_th m_set m_mir m_tgt m_shs m_shp m_pls m_pl m_tri m_asm m_tak m_pld m_cel m_pie m_nxt m_cho m_cbs m_cub m_sts m_stt m_frm m_by m_wrk m_oth m_mvs m_mov) (x + 94) 1 out) x pss pps phv poo pcu pmm psk ppk pkw psc ppn asm sur bud wan tri fou en eh cho at' pa mo le hd nt ct sts6 blo bhi bem glo ghi gem rlo rhi rem rom fnd fc prt lim su op)) rfl ?_
          refine g_aload_n C rfl (q := 2) rfl dL_law_559 rfl ?_
          obtain ⟨q79, hq79, hf⟩ := bd hf
          refine g_heap lw_md_s ?_
          refine g_callV0 (st' := [.int q78]) (as := []) (st2 := [.int q79.1, .int q78]) (k := 0) C ⟨wm_RL_103, wn_X7_tries, wv_X7_tries, wi_RX7, wk_X7_tries, by decide +kernel⟩ rfl (wL_at0 rfl) (c_X7_tries (l := kL K) (E := kE K) (σ := (wSh (wA (wMd σ (x + 71) m_th m_set m_mir m_tgt m_shs m_shp m_pls m_pl m_tri m_asm m_tak m_pld m_cel m_pie m_nxt m_cho m_cbs m_cub m_sts m_stt m_frm m_by m_wrk m_oth m_mvs m_mov) (x + 94) 1 out) x pss pps phv poo pcu pmm psk ppk pkw psc ppn asm sur bud wan tri fou en eh cho at' pa mo le hd nt ct sts6 blo bhi bem glo ghi gem rlo rhi rem rom fnd fc prt lim su op)) (a := x + 71) _ hq79) (by rw [hKR]; exact ⟨rfl, rfl, ⟨by decide, by decide⟩, by show _ ≤ 601024; omega, by show _ ≤ 7293034; omega⟩) rfl rfl (by simp [Value.category]) rfl dL_law_560 rfl ?_
          refine g_heap (h' := (wSh (wA (wMd σ (x + 71) q79.2 m_set m_mir m_tgt m_shs m_shp m_pls m_pl m_tri m_asm m_tak m_pld m_cel m_pie m_nxt m_cho m_cbs m_cub m_sts m_stt m_frm m_by m_wrk m_oth m_mvs m_mov) (x + 94) 1 out) x pss pps phv poo pcu pmm psk ppk pkw psc ppn asm sur bud wan tri fou en eh cho at' pa mo le hd nt ct sts6 blo bhi bem glo ghi gem rlo rhi rem rom fnd fc prt lim su op)) lw_md_r ?_
          refine g_icmp_eq (tgt := 951) C dL_law_563 (by decide) rfl (fun c80 => ?_) (fun c80 => ?_)
          · replace hf := ift c80 hf
            refine g_iinc (v := l4 + (4 : Int32)) (lv' := [(4, .int (l4 + (4 : Int32))), (0, .ref bs), (1, .ref x), (2, .ref (x + 71)), (3, .ref (x + 94))]) (q := 4) C dL_law_951 rfl rfl rfl (by rw [hKN]; decide) rfl ?_
            refine g_goto (pc' := 23) C dL_law_954 (by decide) ?_
            refine g_sub (lv' := [(0, .ref bs), (1, .ref x), (2, .ref (x + 71)), (3, .ref (x + 94)), (4, .int (l4 + (4 : Int32)))]) [1, 2, 3, 4, 0] rfl ?_
            exact ih _ _ _ _ _ _ _ _ _ _ _ _ _ _ _ _ _ _ _ _ _ _ _ _ _ _ _ _ _ _ _ _ _ _ _ _ _ _ _ _ _ _ _ _ _ _ _ _ _ _ _ _ _ _ _ _ _ _ _ _ _ _ _ _ _ _ _ _ _ _ _ _ _ _ _ (by omega) (by omega) hT9 hf _
          · replace hf := iff' c80 hf
            refine g_iconst (v := 0) C (by decide) dL_law_566 rfl ?_
            exact absurd hf (by decide)
        | 8, _, ex9 =>
          replace hf := iff' (by rw [ex9]; decide) hf
          replace hf := iff' (by rw [ex9]; decide) hf
          replace hf := iff' (by rw [ex9]; decide) hf
          replace hf := iff' (by rw [ex9]; decide) hf
          replace hf := iff' (by rw [ex9]; decide) hf
          replace hf := iff' (by rw [ex9]; decide) hf
          replace hf := iff' (by rw [ex9]; decide) hf
          replace hf := iff' (by rw [ex9]; decide) hf
          replace hf := ift (by rw [ex9]; decide) hf
          show G K (cells) (slots) 568 [(0, .ref bs), (1, .ref x), (2, .ref (x + 71)), (3, .ref (x + 94)), (4, .int l4)] [] (wSh (wA (wMd σ (x + 71) m_th m_set m_mir m_tgt m_shs m_shp m_pls m_pl m_tri m_asm m_tak m_pld m_cel m_pie m_nxt m_cho m_cbs m_cub m_sts m_stt m_frm m_by m_wrk m_oth m_mvs m_mov) (x + 94) 1 out) x pss pps phv poo pcu pmm psk ppk pkw psc ppn asm sur bud wan tri fou en eh cho at' pa mo le hd nt ct sts6 blo bhi bem glo ghi gem rlo rhi rem rom fnd fc prt lim su op) n
          refine g_aload_n C rfl (q := 1) rfl dL_law_568 rfl ?_
          refine g_aload_n C rfl (q := 0) rfl dL_law_569 rfl ?_
          refine g_iload C (q := 4) rfl dL_law_570 rfl ?_
          refine g_iconst (v := 1) C (by decide) dL_law_572 rfl ?_
          refine g_iadd C dL_law_573 rfl ?_
          obtain ⟨g81, hf⟩ := gd hf
          refine g_sld C hX hbl hbA (inB_in g81) dL_law_574 rfl ?_
          refine g_aload_n C rfl (q := 0) rfl dL_law_575 rfl ?_
          refine g_iload C (q := 4) rfl dL_law_576 rfl ?_
          refine g_iconst (v := 2) C (by decide) dL_law_578 rfl ?_
          refine g_iadd C dL_law_579 rfl ?_
          obtain ⟨g82, hf⟩ := gd hf
          refine g_sld C hX hbl hbA (inB_in g82) dL_law_580 rfl ?_
          refine g_aload_n C rfl (q := 3) rfl dL_law_581 rfl ?_
          obtain ⟨q83, hq83, hf⟩ := bd hf
          refine g_callSE (st' := []) (as := [.ref x, .int (xs (l4 + (1 : Int32)).toNatClampNeg), .int (xs (l4 + (2 : Int32)).toNatClampNeg), .ref (x + 94)]) (st2 := [.int q83.1]) (k := 4) (mc := 2) (ms := 12) C ⟨wm_RL_104, ws_L_assemble, wi_RL, wk_L_assemble, by decide +kernel⟩ (c_L_assemble (l := kL K) (E := kE K) (σ := wMd σ (x + 71) m_th m_set m_mir m_tgt m_shs m_shp m_pls m_pl m_tri m_asm m_tak m_pld m_cel m_pie m_nxt m_cho m_cbs m_cub m_sts m_stt m_frm m_by m_wrk m_oth m_mvs m_mov) (x := x) (b := x + 94) (by omega) hl0 q83 hq83) (by rw [hKR]; exact ⟨rfl, rfl, ⟨by decide, by decide⟩, by show _ ≤ 601024; omega, by show _ ≤ 7293034; omega⟩) rfl rfl (by simp) rfl dL_law_582 rfl (fun n => ?_)
          refine g_istore (i := 5) (lv' := [(5, .int q83.1), (0, .ref bs), (1, .ref x), (2, .ref (x + 71)), (3, .ref (x + 94)), (4, .int l4)]) C dL_law_585 rfl (by rw [hKN]; decide) rfl ?_
          refine g_aload_n C rfl (q := 3) rfl dL_law_587 rfl ?_
          refine g_aload_n C rfl (q := 1) rfl dL_law_588 rfl ?_
          refine g_iload C (q := 5) rfl dL_law_589 rfl ?_
          refine g_iconst (v := 1) C (by decide) dL_law_591 rfl ?_
          refine g_iadd C dL_law_592 rfl ?_
          obtain ⟨g84, hf⟩ := gd hf
          refine g_sld C hX hbl hbA (inB_in g84) dL_law_593 rfl ?_
          refine g_aload_n C rfl (q := 1) rfl dL_law_594 rfl ?_
          refine g_iload C (q := 5) rfl dL_law_595 rfl ?_
          refine g_iconst (v := 2) C (by decide) dL_law_597 rfl ?_
          refine g_iadd C dL_law_598 rfl ?_
          obtain ⟨g85, hf⟩ := gd hf
          refine g_sld C hX hbl hbA (inB_in g85) dL_law_599 rfl ?_
          obtain ⟨q86, hq86, hf⟩ := bd hf
          refine g_heap lw_md_s ?_
          refine g_callV0 (st' := []) (as := [.int (xs (l4 + (1 : Int32)).toNatClampNeg), .int (xs (l4 + (2 : Int32)).toNatClampNeg)]) (st2 := [.int q86.1]) (k := 2) C ⟨wm_RL_106, wn_X7_assemble, wv_X7_assemble, wi_RX7, wk_X7_assemble, by decide +kernel⟩ rfl (wL_at0 rfl) (c_X7_assemble (l := kL K) (E := kE K) (σ := (wSh (wA (wMd σ (x + 71) m_th m_set m_mir m_tgt m_shs m_shp m_pls m_pl m_tri m_asm m_tak m_pld m_cel m_pie m_nxt m_cho m_cbs m_cub m_sts m_stt m_frm m_by m_wrk m_oth m_mvs m_mov) (x + 94) 1 q83.2.2.2.2.2.2.2.2.2.2.2.2.2.2.2.2.2.2.2) x q83.2.1 q83.2.2.1 q83.2.2.2.1 q83.2.2.2.2.1 pcu pmm q83.2.2.2.2.2.1 q83.2.2.2.2.2.2.1 q83.2.2.2.2.2.2.2.1 q83.2.2.2.2.2.2.2.2.1 q83.2.2.2.2.2.2.2.2.2.1 q83.2.2.2.2.2.2.2.2.2.2.1 q83.2.2.2.2.2.2.2.2.2.2.2.1 q83.2.2.2.2.2.2.2.2.2.2.2.2.1 q83.2.2.2.2.2.2.2.2.2.2.2.2.2.1 q83.2.2.2.2.2.2.2.2.2.2.2.2.2.2.1 q83.2.2.2.2.2.2.2.2.2.2.2.2.2.2.2.1 q83.2.2.2.2.2.2.2.2.2.2.2.2.2.2.2.2.1 q83.2.2.2.2.2.2.2.2.2.2.2.2.2.2.2.2.2.1 q83.2.2.2.2.2.2.2.2.2.2.2.2.2.2.2.2.2.2.1 at' pa mo le hd nt ct sts6 blo bhi bem glo ghi gem rlo rhi rem rom fnd fc prt lim su op)) (a := x + 71) _ hq86) (by rw [hKR]; exact ⟨rfl, rfl, ⟨by decide, by decide⟩, by show _ ≤ 601024; omega, by show _ ≤ 7293034; omega⟩) rfl rfl (by simp) rfl dL_law_600 rfl ?_
          refine g_heap (h' := (wSh (wA (wMd σ (x + 71) q86.2.1 m_set m_mir m_tgt q86.2.2.1 q86.2.2.2.1 q86.2.2.2.2.1 q86.2.2.2.2.2.1 q86.2.2.2.2.2.2.1 q86.2.2.2.2.2.2.2.1 q86.2.2.2.2.2.2.2.2.1 q86.2.2.2.2.2.2.2.2.2.1 q86.2.2.2.2.2.2.2.2.2.2.1 q86.2.2.2.2.2.2.2.2.2.2.2.1 q86.2.2.2.2.2.2.2.2.2.2.2.2.1 q86.2.2.2.2.2.2.2.2.2.2.2.2.2 m_cbs m_cub m_sts m_stt m_frm m_by m_wrk m_oth m_mvs m_mov) (x + 94) 1 q83.2.2.2.2.2.2.2.2.2.2.2.2.2.2.2.2.2.2.2) x q83.2.1 q83.2.2.1 q83.2.2.2.1 q83.2.2.2.2.1 pcu pmm q83.2.2.2.2.2.1 q83.2.2.2.2.2.2.1 q83.2.2.2.2.2.2.2.1 q83.2.2.2.2.2.2.2.2.1 q83.2.2.2.2.2.2.2.2.2.1 q83.2.2.2.2.2.2.2.2.2.2.1 q83.2.2.2.2.2.2.2.2.2.2.2.1 q83.2.2.2.2.2.2.2.2.2.2.2.2.1 q83.2.2.2.2.2.2.2.2.2.2.2.2.2.1 q83.2.2.2.2.2.2.2.2.2.2.2.2.2.2.1 q83.2.2.2.2.2.2.2.2.2.2.2.2.2.2.2.1 q83.2.2.2.2.2.2.2.2.2.2.2.2.2.2.2.2.1 q83.2.2.2.2.2.2.2.2.2.2.2.2.2.2.2.2.2.1 q83.2.2.2.2.2.2.2.2.2.2.2.2.2.2.2.2.2.2.1 at' pa mo le hd nt ct sts6 blo bhi bem glo ghi gem rlo rhi rem rom fnd fc prt lim su op)) lw_md_r ?_
          refine g_istore (i := 6) (lv' := [(6, .int q86.1), (5, .int q83.1), (0, .ref bs), (1, .ref x), (2, .ref (x + 71)), (3, .ref (x + 94)), (4, .int l4)]) C dL_law_603 rfl (by rw [hKN]; decide) rfl ?_
          refine g_aload_n C rfl (q := 4) rfl dL_law_605 rfl ?_
          obtain ⟨q87, hq87, hf⟩ := bd hf
          refine g_heap lw_md_s ?_
          refine g_callV0 (st' := []) (as := []) (st2 := [.int q87]) (k := 0) C ⟨wm_RL_74, wn_X7_thrown, wv_X7_thrown, wi_RX7, wk_X7_thrown, by decide +kernel⟩ rfl (wL_at0 rfl) (c_X7_thrown (l := kL K) (E := kE K) (σ := (wSh (wA (wMd σ (x + 71) q86.2.1 m_set m_mir m_tgt q86.2.2.1 q86.2.2.2.1 q86.2.2.2.2.1 q86.2.2.2.2.2.1 q86.2.2.2.2.2.2.1 q86.2.2.2.2.2.2.2.1 q86.2.2.2.2.2.2.2.2.1 q86.2.2.2.2.2.2.2.2.2.1 q86.2.2.2.2.2.2.2.2.2.2.1 q86.2.2.2.2.2.2.2.2.2.2.2.1 q86.2.2.2.2.2.2.2.2.2.2.2.2.1 q86.2.2.2.2.2.2.2.2.2.2.2.2.2 m_cbs m_cub m_sts m_stt m_frm m_by m_wrk m_oth m_mvs m_mov) (x + 94) 1 q83.2.2.2.2.2.2.2.2.2.2.2.2.2.2.2.2.2.2.2) x q83.2.1 q83.2.2.1 q83.2.2.2.1 q83.2.2.2.2.1 pcu pmm q83.2.2.2.2.2.1 q83.2.2.2.2.2.2.1 q83.2.2.2.2.2.2.2.1 q83.2.2.2.2.2.2.2.2.1 q83.2.2.2.2.2.2.2.2.2.1 q83.2.2.2.2.2.2.2.2.2.2.1 q83.2.2.2.2.2.2.2.2.2.2.2.1 q83.2.2.2.2.2.2.2.2.2.2.2.2.1 q83.2.2.2.2.2.2.2.2.2.2.2.2.2.1 q83.2.2.2.2.2.2.2.2.2.2.2.2.2.2.1 q83.2.2.2.2.2.2.2.2.2.2.2.2.2.2.2.1 q83.2.2.2.2.2.2.2.2.2.2.2.2.2.2.2.2.1 q83.2.2.2.2.2.2.2.2.2.2.2.2.2.2.2.2.2.1 q83.2.2.2.2.2.2.2.2.2.2.2.2.2.2.2.2.2.2.1 at' pa mo le hd nt ct sts6 blo bhi bem glo ghi gem rlo rhi rem rom fnd fc prt lim su op)) (a := x + 71) _ hq87) (by rw [hKR]; exact ⟨rfl, rfl, ⟨by decide, by decide⟩, by show _ ≤ 601024; omega, by show _ ≤ 7293034; omega⟩) rfl rfl (by simp) rfl dL_law_606 rfl ?_
          refine g_heap (h' := (wSh (wA (wMd σ (x + 71) q86.2.1 m_set m_mir m_tgt q86.2.2.1 q86.2.2.2.1 q86.2.2.2.2.1 q86.2.2.2.2.2.1 q86.2.2.2.2.2.2.1 q86.2.2.2.2.2.2.2.1 q86.2.2.2.2.2.2.2.2.1 q86.2.2.2.2.2.2.2.2.2.1 q86.2.2.2.2.2.2.2.2.2.2.1 q86.2.2.2.2.2.2.2.2.2.2.2.1 q86.2.2.2.2.2.2.2.2.2.2.2.2.1 q86.2.2.2.2.2.2.2.2.2.2.2.2.2 m_cbs m_cub m_sts m_stt m_frm m_by m_wrk m_oth m_mvs m_mov) (x + 94) 1 q83.2.2.2.2.2.2.2.2.2.2.2.2.2.2.2.2.2.2.2) x q83.2.1 q83.2.2.1 q83.2.2.2.1 q83.2.2.2.2.1 pcu pmm q83.2.2.2.2.2.1 q83.2.2.2.2.2.2.1 q83.2.2.2.2.2.2.2.1 q83.2.2.2.2.2.2.2.2.1 q83.2.2.2.2.2.2.2.2.2.1 q83.2.2.2.2.2.2.2.2.2.2.1 q83.2.2.2.2.2.2.2.2.2.2.2.1 q83.2.2.2.2.2.2.2.2.2.2.2.2.1 q83.2.2.2.2.2.2.2.2.2.2.2.2.2.1 q83.2.2.2.2.2.2.2.2.2.2.2.2.2.2.1 q83.2.2.2.2.2.2.2.2.2.2.2.2.2.2.2.1 q83.2.2.2.2.2.2.2.2.2.2.2.2.2.2.2.2.1 q83.2.2.2.2.2.2.2.2.2.2.2.2.2.2.2.2.2.1 q83.2.2.2.2.2.2.2.2.2.2.2.2.2.2.2.2.2.2.1 at' pa mo le hd nt ct sts6 blo bhi bem glo ghi gem rlo rhi rem rom fnd fc prt lim su op)) lw_md_r ?_
          refine g_iload C (q := 1) rfl dL_law_609 rfl ?_
          refine g_icmp_eq (tgt := 616) C dL_law_611 (by decide) rfl (fun c88 => ?_) (fun c88 => ?_)
          · replace hf := ift c88 hf
            refine g_iload C (q := 1) rfl dL_law_616 rfl ?_
            refine g_if_ne (tgt := 640) C dL_law_618 (by decide) rfl (fun c89 => ?_) (fun c89 => ?_)
            · replace hf := iff' c89 hf
              refine g_goto (pc' := 951) C dL_law_640 (by decide) ?_
              refine g_iinc (v := l4 + (4 : Int32)) (lv' := [(4, .int (l4 + (4 : Int32))), (6, .int q86.1), (5, .int q83.1), (0, .ref bs), (1, .ref x), (2, .ref (x + 71)), (3, .ref (x + 94))]) (q := 6) C dL_law_951 rfl rfl rfl (by rw [hKN]; decide) rfl ?_
              refine g_goto (pc' := 23) C dL_law_954 (by decide) ?_
              refine g_sub (lv' := [(0, .ref bs), (1, .ref x), (2, .ref (x + 71)), (3, .ref (x + 94)), (4, .int (l4 + (4 : Int32)))]) [3, 4, 5, 6, 0] rfl ?_
              exact ih _ _ _ _ _ _ _ _ _ _ _ _ _ _ _ _ _ _ _ _ _ _ _ _ _ _ _ _ _ _ _ _ _ _ _ _ _ _ _ _ _ _ _ _ _ _ _ _ _ _ _ _ _ _ _ _ _ _ _ _ _ _ _ _ _ _ _ _ _ _ _ _ _ _ _ (by omega) (by omega) hT9 hf _
            · replace hf := ift c89 hf
              refine g_aload_n C rfl (q := 5) rfl dL_law_621 rfl ?_
              refine g_iconst (v := 0) C (by decide) dL_law_622 rfl ?_
              obtain ⟨g90, hf⟩ := gd hf
              refine g_lald C ((wL_out (by show _ ∨ _ + 71 ≤ _; omega)).trans (wL_at0 rfl)) (inB_in g90) dL_law_623 rfl ?_
              refine g_iload C (q := 0) rfl dL_law_624 rfl ?_
              have j92 : G K (cells + 2) (slots + 12) 634 [(6, .int q86.1), (5, .int q83.1), (0, .ref bs), (1, .ref x), (2, .ref (x + 71)), (3, .ref (x + 94)), (4, .int l4)] [.long (if q86.1 = 0 then (0 : Int64) else (1 : Int64)), .long (q83.2.2.2.2.2.2.2.2.2.2.2.2.2.2.2.2.2.2.2 (0 : Int32).toNatClampNeg)] (wSh (wA (wMd σ (x + 71) q86.2.1 m_set m_mir m_tgt q86.2.2.1 q86.2.2.2.1 q86.2.2.2.2.1 q86.2.2.2.2.2.1 q86.2.2.2.2.2.2.1 q86.2.2.2.2.2.2.2.1 q86.2.2.2.2.2.2.2.2.1 q86.2.2.2.2.2.2.2.2.2.1 q86.2.2.2.2.2.2.2.2.2.2.1 q86.2.2.2.2.2.2.2.2.2.2.2.1 q86.2.2.2.2.2.2.2.2.2.2.2.2.1 q86.2.2.2.2.2.2.2.2.2.2.2.2.2 m_cbs m_cub m_sts m_stt m_frm m_by m_wrk m_oth m_mvs m_mov) (x + 94) 1 q83.2.2.2.2.2.2.2.2.2.2.2.2.2.2.2.2.2.2.2) x q83.2.1 q83.2.2.1 q83.2.2.2.1 q83.2.2.2.2.1 pcu pmm q83.2.2.2.2.2.1 q83.2.2.2.2.2.2.1 q83.2.2.2.2.2.2.2.1 q83.2.2.2.2.2.2.2.2.1 q83.2.2.2.2.2.2.2.2.2.1 q83.2.2.2.2.2.2.2.2.2.2.1 q83.2.2.2.2.2.2.2.2.2.2.2.1 q83.2.2.2.2.2.2.2.2.2.2.2.2.1 q83.2.2.2.2.2.2.2.2.2.2.2.2.2.1 q83.2.2.2.2.2.2.2.2.2.2.2.2.2.2.1 q83.2.2.2.2.2.2.2.2.2.2.2.2.2.2.2.1 q83.2.2.2.2.2.2.2.2.2.2.2.2.2.2.2.2.1 q83.2.2.2.2.2.2.2.2.2.2.2.2.2.2.2.2.2.1 q83.2.2.2.2.2.2.2.2.2.2.2.2.2.2.2.2.2.2.1 at' pa mo le hd nt ct sts6 blo bhi bem glo ghi gem rlo rhi rem rom fnd fc prt lim su op) n := by
                refine g_lif_eq (tgt := 640) C dL_law_634 rfl dL_law_635 (by decide) rfl (fun c91 => ?_) (fun c91 => ?_)
                · replace hf := ift c91 hf
                  refine g_goto (pc' := 951) C dL_law_640 (by decide) ?_
                  refine g_iinc (v := l4 + (4 : Int32)) (lv' := [(4, .int (l4 + (4 : Int32))), (6, .int q86.1), (5, .int q83.1), (0, .ref bs), (1, .ref x), (2, .ref (x + 71)), (3, .ref (x + 94))]) (q := 6) C dL_law_951 rfl rfl rfl (by rw [hKN]; decide) rfl ?_
                  refine g_goto (pc' := 23) C dL_law_954 (by decide) ?_
                  refine g_sub (lv' := [(0, .ref bs), (1, .ref x), (2, .ref (x + 71)), (3, .ref (x + 94)), (4, .int (l4 + (4 : Int32)))]) [3, 4, 5, 6, 0] rfl ?_
                  exact ih _ _ _ _ _ _ _ _ _ _ _ _ _ _ _ _ _ _ _ _ _ _ _ _ _ _ _ _ _ _ _ _ _ _ _ _ _ _ _ _ _ _ _ _ _ _ _ _ _ _ _ _ _ _ _ _ _ _ _ _ _ _ _ _ _ _ _ _ _ _ _ _ _ _ _ (by omega) (by omega) hT9 hf _
                · replace hf := iff' c91 hf
                  refine g_iconst (v := 0) C (by decide) dL_law_638 rfl ?_
                  exact absurd hf (by decide)
              refine g_if_eq (tgt := 633) C dL_law_626 (by decide) rfl (fun c93 => ?_) (fun c93 => ?_)
              · refine g_lconst (v := 0) C (by decide) dL_law_633 rfl ?_
                exact g_topL (by rw [if_pos c93]) j92
              · refine g_lconst (v := 1) C (by decide) dL_law_629 rfl ?_
                refine g_goto (pc' := 634) C dL_law_630 (by decide) ?_
                exact g_topL (by rw [if_neg c93]) j92
          · replace hf := iff' c88 hf
            refine g_iconst (v := 0) C (by decide) dL_law_614 rfl ?_
            exact absurd hf (by decide)
        | 9, _, ex9 =>
          replace hf := iff' (by rw [ex9]; decide) hf
          replace hf := iff' (by rw [ex9]; decide) hf
          replace hf := iff' (by rw [ex9]; decide) hf
          replace hf := iff' (by rw [ex9]; decide) hf
          replace hf := iff' (by rw [ex9]; decide) hf
          replace hf := iff' (by rw [ex9]; decide) hf
          replace hf := iff' (by rw [ex9]; decide) hf
          replace hf := iff' (by rw [ex9]; decide) hf
          replace hf := iff' (by rw [ex9]; decide) hf
          replace hf := ift (by rw [ex9]; decide) hf
          show G K (cells) (slots) 643 [(0, .ref bs), (1, .ref x), (2, .ref (x + 71)), (3, .ref (x + 94)), (4, .int l4)] [] (wSh (wA (wMd σ (x + 71) m_th m_set m_mir m_tgt m_shs m_shp m_pls m_pl m_tri m_asm m_tak m_pld m_cel m_pie m_nxt m_cho m_cbs m_cub m_sts m_stt m_frm m_by m_wrk m_oth m_mvs m_mov) (x + 94) 1 out) x pss pps phv poo pcu pmm psk ppk pkw psc ppn asm sur bud wan tri fou en eh cho at' pa mo le hd nt ct sts6 blo bhi bem glo ghi gem rlo rhi rem rom fnd fc prt lim su op) n
          refine g_aload_n C rfl (q := 1) rfl dL_law_643 rfl ?_
          refine g_aload_n C rfl (q := 0) rfl dL_law_644 rfl ?_
          refine g_iload C (q := 4) rfl dL_law_645 rfl ?_
          refine g_iconst (v := 1) C (by decide) dL_law_647 rfl ?_
          refine g_iadd C dL_law_648 rfl ?_
          obtain ⟨g94, hf⟩ := gd hf
          refine g_sld C hX hbl hbA (inB_in g94) dL_law_649 rfl ?_
          refine g_aload_n C rfl (q := 0) rfl dL_law_650 rfl ?_
          refine g_iload C (q := 4) rfl dL_law_651 rfl ?_
          refine g_iconst (v := 2) C (by decide) dL_law_653 rfl ?_
          refine g_iadd C dL_law_654 rfl ?_
          obtain ⟨g95, hf⟩ := gd hf
          refine g_sld C hX hbl hbA (inB_in g95) dL_law_655 rfl ?_
          refine g_i2l C dL_law_656 rfl ?_
          refine g_bipush (v := 32) C (by decide) dL_law_657 rfl ?_
          refine g_lshl C dL_law_659 rfl ?_
          refine g_aload_n C rfl (q := 0) rfl dL_law_660 rfl ?_
          refine g_iload C (q := 4) rfl dL_law_661 rfl ?_
          refine g_iconst (v := 3) C (by decide) dL_law_663 rfl ?_
          refine g_iadd C dL_law_664 rfl ?_
          obtain ⟨g96, hf⟩ := gd hf
          refine g_sld C hX hbl hbA (inB_in g96) dL_law_665 rfl ?_
          refine g_i2l C dL_law_666 rfl ?_
          refine g_ldc2 C wc_RL_107 dL_law_667 rfl ?_
          refine g_land C dL_law_670 rfl ?_
          refine g_lor C dL_law_671 rfl ?_
          obtain ⟨q97, hq97, hf⟩ := bd hf
          refine g_callSE (st' := []) (as := [.ref x, .int (xs (l4 + (1 : Int32)).toNatClampNeg), .long ((((xs (l4 + (2 : Int32)).toNatClampNeg).toInt64) <<< ((32 : Int32).toInt64 &&& 63)) ||| (((xs (l4 + (3 : Int32)).toNatClampNeg).toInt64) &&& (4294967295 : Int64)))]) (st2 := [.int q97.1]) (k := 3) (mc := 2) (ms := 12) C ⟨wm_RL_109, ws_L_put, wi_RL, wk_L_put, by decide +kernel⟩ (c_L_put (l := kL K) (E := kE K) (σ := wMd σ (x + 71) m_th m_set m_mir m_tgt m_shs m_shp m_pls m_pl m_tri m_asm m_tak m_pld m_cel m_pie m_nxt m_cho m_cbs m_cub m_sts m_stt m_frm m_by m_wrk m_oth m_mvs m_mov) (x := x) (b := x + 94) (by omega) hl0 q97 hq97) (by rw [hKR]; exact ⟨rfl, rfl, ⟨by decide, by decide⟩, by show _ ≤ 601024; omega, by show _ ≤ 7293034; omega⟩) rfl rfl (by simp) rfl dL_law_672 rfl (fun n => ?_)
          refine g_istore (i := 5) (lv' := [(5, .int q97.1), (0, .ref bs), (1, .ref x), (2, .ref (x + 71)), (3, .ref (x + 94)), (4, .int l4)]) C dL_law_675 rfl (by rw [hKN]; decide) rfl ?_
          refine g_aload_n C rfl (q := 3) rfl dL_law_677 rfl ?_
          refine g_aload_n C rfl (q := 1) rfl dL_law_678 rfl ?_
          refine g_iload C (q := 5) rfl dL_law_679 rfl ?_
          refine g_iconst (v := 1) C (by decide) dL_law_681 rfl ?_
          refine g_iadd C dL_law_682 rfl ?_
          obtain ⟨g98, hf⟩ := gd hf
          refine g_sld C hX hbl hbA (inB_in g98) dL_law_683 rfl ?_
          refine g_aload_n C rfl (q := 1) rfl dL_law_684 rfl ?_
          refine g_iload C (q := 5) rfl dL_law_685 rfl ?_
          refine g_iconst (v := 2) C (by decide) dL_law_687 rfl ?_
          refine g_iadd C dL_law_688 rfl ?_
          obtain ⟨g99, hf⟩ := gd hf
          refine g_sld C hX hbl hbA (inB_in g99) dL_law_689 rfl ?_
          refine g_i2l C dL_law_690 rfl ?_
          refine g_bipush (v := 32) C (by decide) dL_law_691 rfl ?_
          refine g_lshl C dL_law_693 rfl ?_
          refine g_aload_n C rfl (q := 1) rfl dL_law_694 rfl ?_
          refine g_iload C (q := 5) rfl dL_law_695 rfl ?_
          refine g_iconst (v := 3) C (by decide) dL_law_697 rfl ?_
          refine g_iadd C dL_law_698 rfl ?_
          obtain ⟨g100, hf⟩ := gd hf
          refine g_sld C hX hbl hbA (inB_in g100) dL_law_699 rfl ?_
          refine g_i2l C dL_law_700 rfl ?_
          refine g_ldc2 C wc_RL_107 dL_law_701 rfl ?_
          refine g_land C dL_law_704 rfl ?_
          refine g_lor C dL_law_705 rfl ?_
          obtain ⟨q101, hq101, hf⟩ := bd hf
          refine g_heap lw_md_s ?_
          refine g_callV0 (st' := []) (as := [.int (xs (l4 + (1 : Int32)).toNatClampNeg), .long ((((xs (l4 + (2 : Int32)).toNatClampNeg).toInt64) <<< ((32 : Int32).toInt64 &&& 63)) ||| (((xs (l4 + (3 : Int32)).toNatClampNeg).toInt64) &&& (4294967295 : Int64)))]) (st2 := []) (k := 2) C ⟨wm_RL_112, wn_X7_put, wv_X7_put, wi_RX7, wk_X7_put, by decide +kernel⟩ rfl (wL_at0 rfl) (c_X7_put (l := kL K) (E := kE K) (σ := (wSh (wA (wMd σ (x + 71) m_th m_set m_mir m_tgt m_shs m_shp m_pls m_pl m_tri m_asm m_tak m_pld m_cel m_pie m_nxt m_cho m_cbs m_cub m_sts m_stt m_frm m_by m_wrk m_oth m_mvs m_mov) (x + 94) 1 out) x q97.2.1 pps phv poo pcu pmm q97.2.2.1 ppk pkw q97.2.2.2.1 ppn q97.2.2.2.2 sur bud wan tri fou en eh cho at' pa mo le hd nt ct sts6 blo bhi bem glo ghi gem rlo rhi rem rom fnd fc prt lim su op)) (a := x + 71) _ hq101) (by rw [hKR]; exact ⟨rfl, rfl, ⟨by decide, by decide⟩, by show _ ≤ 601024; omega, by show _ ≤ 7293034; omega⟩) rfl rfl (by simp) rfl dL_law_706 rfl ?_
          refine g_heap (h' := (wSh (wA (wMd σ (x + 71) q101.1 m_set m_mir m_tgt q101.2.1 q101.2.2.1 m_pls m_pl m_tri q101.2.2.2 m_tak m_pld m_cel m_pie m_nxt m_cho m_cbs m_cub m_sts m_stt m_frm m_by m_wrk m_oth m_mvs m_mov) (x + 94) 1 out) x q97.2.1 pps phv poo pcu pmm q97.2.2.1 ppk pkw q97.2.2.2.1 ppn q97.2.2.2.2 sur bud wan tri fou en eh cho at' pa mo le hd nt ct sts6 blo bhi bem glo ghi gem rlo rhi rem rom fnd fc prt lim su op)) lw_md_r ?_
          refine g_aload_n C rfl (q := 3) rfl dL_law_709 rfl ?_
          obtain ⟨q102, hq102, hf⟩ := bd hf
          refine g_heap lw_md_s ?_
          refine g_callV0 (st' := []) (as := []) (st2 := [.int q102]) (k := 0) C ⟨wm_RL_74, wn_X7_thrown, wv_X7_thrown, wi_RX7, wk_X7_thrown, by decide +kernel⟩ rfl (wL_at0 rfl) (c_X7_thrown (l := kL K) (E := kE K) (σ := (wSh (wA (wMd σ (x + 71) q101.1 m_set m_mir m_tgt q101.2.1 q101.2.2.1 m_pls m_pl m_tri q101.2.2.2 m_tak m_pld m_cel m_pie m_nxt m_cho m_cbs m_cub m_sts m_stt m_frm m_by m_wrk m_oth m_mvs m_mov) (x + 94) 1 out) x q97.2.1 pps phv poo pcu pmm q97.2.2.1 ppk pkw q97.2.2.2.1 ppn q97.2.2.2.2 sur bud wan tri fou en eh cho at' pa mo le hd nt ct sts6 blo bhi bem glo ghi gem rlo rhi rem rom fnd fc prt lim su op)) (a := x + 71) _ hq102) (by rw [hKR]; exact ⟨rfl, rfl, ⟨by decide, by decide⟩, by show _ ≤ 601024; omega, by show _ ≤ 7293034; omega⟩) rfl rfl (by simp) rfl dL_law_710 rfl ?_
          refine g_heap (h' := (wSh (wA (wMd σ (x + 71) q101.1 m_set m_mir m_tgt q101.2.1 q101.2.2.1 m_pls m_pl m_tri q101.2.2.2 m_tak m_pld m_cel m_pie m_nxt m_cho m_cbs m_cub m_sts m_stt m_frm m_by m_wrk m_oth m_mvs m_mov) (x + 94) 1 out) x q97.2.1 pps phv poo pcu pmm q97.2.2.1 ppk pkw q97.2.2.2.1 ppn q97.2.2.2.2 sur bud wan tri fou en eh cho at' pa mo le hd nt ct sts6 blo bhi bem glo ghi gem rlo rhi rem rom fnd fc prt lim su op)) lw_md_r ?_
          refine g_iload C (q := 0) rfl dL_law_713 rfl ?_
          refine g_icmp_eq (tgt := 720) C dL_law_715 (by decide) rfl (fun c103 => ?_) (fun c103 => ?_)
          · replace hf := ift c103 hf
            refine g_goto (pc' := 951) C dL_law_720 (by decide) ?_
            refine g_iinc (v := l4 + (4 : Int32)) (lv' := [(4, .int (l4 + (4 : Int32))), (5, .int q97.1), (0, .ref bs), (1, .ref x), (2, .ref (x + 71)), (3, .ref (x + 94))]) (q := 5) C dL_law_951 rfl rfl rfl (by rw [hKN]; decide) rfl ?_
            refine g_goto (pc' := 23) C dL_law_954 (by decide) ?_
            refine g_sub (lv' := [(0, .ref bs), (1, .ref x), (2, .ref (x + 71)), (3, .ref (x + 94)), (4, .int (l4 + (4 : Int32)))]) [2, 3, 4, 5, 0] rfl ?_
            exact ih _ _ _ _ _ _ _ _ _ _ _ _ _ _ _ _ _ _ _ _ _ _ _ _ _ _ _ _ _ _ _ _ _ _ _ _ _ _ _ _ _ _ _ _ _ _ _ _ _ _ _ _ _ _ _ _ _ _ _ _ _ _ _ _ _ _ _ _ _ _ _ _ _ _ _ (by omega) (by omega) hT9 hf _
          · replace hf := iff' c103 hf
            refine g_iconst (v := 0) C (by decide) dL_law_718 rfl ?_
            exact absurd hf (by decide)
        | 10, _, ex9 =>
          replace hf := iff' (by rw [ex9]; decide) hf
          replace hf := iff' (by rw [ex9]; decide) hf
          replace hf := iff' (by rw [ex9]; decide) hf
          replace hf := iff' (by rw [ex9]; decide) hf
          replace hf := iff' (by rw [ex9]; decide) hf
          replace hf := iff' (by rw [ex9]; decide) hf
          replace hf := iff' (by rw [ex9]; decide) hf
          replace hf := iff' (by rw [ex9]; decide) hf
          replace hf := iff' (by rw [ex9]; decide) hf
          replace hf := iff' (by rw [ex9]; decide) hf
          replace hf := ift (by rw [ex9]; decide) hf
          show G K (cells) (slots) 723 [(0, .ref bs), (1, .ref x), (2, .ref (x + 71)), (3, .ref (x + 94)), (4, .int l4)] [] (wSh (wA (wMd σ (x + 71) m_th m_set m_mir m_tgt m_shs m_shp m_pls m_pl m_tri m_asm m_tak m_pld m_cel m_pie m_nxt m_cho m_cbs m_cub m_sts m_stt m_frm m_by m_wrk m_oth m_mvs m_mov) (x + 94) 1 out) x pss pps phv poo pcu pmm psk ppk pkw psc ppn asm sur bud wan tri fou en eh cho at' pa mo le hd nt ct sts6 blo bhi bem glo ghi gem rlo rhi rem rom fnd fc prt lim su op) n
          refine g_aload_n C rfl (q := 1) rfl dL_law_723 rfl ?_
          refine g_aload_n C rfl (q := 0) rfl dL_law_724 rfl ?_
          refine g_iload C (q := 4) rfl dL_law_725 rfl ?_
          refine g_iconst (v := 1) C (by decide) dL_law_727 rfl ?_
          refine g_iadd C dL_law_728 rfl ?_
          obtain ⟨g104, hf⟩ := gd hf
          refine g_sld C hX hbl hbA (inB_in g104) dL_law_729 rfl ?_
          obtain ⟨q105, hq105, hf⟩ := bd hf
          refine g_callSE (st' := []) (as := [.ref x, .int (xs (l4 + (1 : Int32)).toNatClampNeg)]) (st2 := [.int q105.1]) (k := 2) (mc := 2) (ms := 12) C ⟨wm_RL_113, ws_L_take, wi_RL, wk_L_take, by decide +kernel⟩ (c_L_take (l := kL K) (E := kE K) (σ := wMd σ (x + 71) m_th m_set m_mir m_tgt m_shs m_shp m_pls m_pl m_tri m_asm m_tak m_pld m_cel m_pie m_nxt m_cho m_cbs m_cub m_sts m_stt m_frm m_by m_wrk m_oth m_mvs m_mov) (x := x) (b := x + 94) (by omega) hl0 q105 hq105) (by rw [hKR]; exact ⟨rfl, rfl, ⟨by decide, by decide⟩, by show _ ≤ 601024; omega, by show _ ≤ 7293034; omega⟩) rfl rfl (by simp) rfl dL_law_730 rfl (fun n => ?_)
          refine g_istore (i := 5) (lv' := [(5, .int q105.1), (0, .ref bs), (1, .ref x), (2, .ref (x + 71)), (3, .ref (x + 94)), (4, .int l4)]) C dL_law_733 rfl (by rw [hKN]; decide) rfl ?_
          refine g_aload_n C rfl (q := 3) rfl dL_law_735 rfl ?_
          refine g_aload_n C rfl (q := 1) rfl dL_law_736 rfl ?_
          refine g_iload C (q := 5) rfl dL_law_737 rfl ?_
          refine g_iconst (v := 1) C (by decide) dL_law_739 rfl ?_
          refine g_iadd C dL_law_740 rfl ?_
          obtain ⟨g106, hf⟩ := gd hf
          refine g_sld C hX hbl hbA (inB_in g106) dL_law_741 rfl ?_
          obtain ⟨q107, hq107, hf⟩ := bd hf
          refine g_heap lw_md_s ?_
          refine g_callV0 (st' := []) (as := [.int (xs (l4 + (1 : Int32)).toNatClampNeg)]) (st2 := []) (k := 1) C ⟨wm_RL_116, wn_X7_take, wv_X7_take, wi_RX7, wk_X7_take, by decide +kernel⟩ rfl (wL_at0 rfl) (c_X7_take (l := kL K) (E := kE K) (σ := (wSh (wA (wMd σ (x + 71) m_th m_set m_mir m_tgt m_shs m_shp m_pls m_pl m_tri m_asm m_tak m_pld m_cel m_pie m_nxt m_cho m_cbs m_cub m_sts m_stt m_frm m_by m_wrk m_oth m_mvs m_mov) (x + 94) 1 out) x pss pps phv poo pcu pmm psk ppk pkw psc ppn q105.2 sur bud wan tri fou en eh cho at' pa mo le hd nt ct sts6 blo bhi bem glo ghi gem rlo rhi rem rom fnd fc prt lim su op)) (a := x + 71) _ hq107) (by rw [hKR]; exact ⟨rfl, rfl, ⟨by decide, by decide⟩, by show _ ≤ 601024; omega, by show _ ≤ 7293034; omega⟩) rfl rfl (by simp) rfl dL_law_742 rfl ?_
          refine g_heap (h' := (wSh (wA (wMd σ (x + 71) q107.1 m_set m_mir m_tgt m_shs m_shp m_pls m_pl m_tri q107.2 m_tak m_pld m_cel m_pie m_nxt m_cho m_cbs m_cub m_sts m_stt m_frm m_by m_wrk m_oth m_mvs m_mov) (x + 94) 1 out) x pss pps phv poo pcu pmm psk ppk pkw psc ppn q105.2 sur bud wan tri fou en eh cho at' pa mo le hd nt ct sts6 blo bhi bem glo ghi gem rlo rhi rem rom fnd fc prt lim su op)) lw_md_r ?_
          refine g_aload_n C rfl (q := 3) rfl dL_law_745 rfl ?_
          obtain ⟨q108, hq108, hf⟩ := bd hf
          refine g_heap lw_md_s ?_
          refine g_callV0 (st' := []) (as := []) (st2 := [.int q108]) (k := 0) C ⟨wm_RL_74, wn_X7_thrown, wv_X7_thrown, wi_RX7, wk_X7_thrown, by decide +kernel⟩ rfl (wL_at0 rfl) (c_X7_thrown (l := kL K) (E := kE K) (σ := (wSh (wA (wMd σ (x + 71) q107.1 m_set m_mir m_tgt m_shs m_shp m_pls m_pl m_tri q107.2 m_tak m_pld m_cel m_pie m_nxt m_cho m_cbs m_cub m_sts m_stt m_frm m_by m_wrk m_oth m_mvs m_mov) (x + 94) 1 out) x pss pps phv poo pcu pmm psk ppk pkw psc ppn q105.2 sur bud wan tri fou en eh cho at' pa mo le hd nt ct sts6 blo bhi bem glo ghi gem rlo rhi rem rom fnd fc prt lim su op)) (a := x + 71) _ hq108) (by rw [hKR]; exact ⟨rfl, rfl, ⟨by decide, by decide⟩, by show _ ≤ 601024; omega, by show _ ≤ 7293034; omega⟩) rfl rfl (by simp) rfl dL_law_746 rfl ?_
          refine g_heap (h' := (wSh (wA (wMd σ (x + 71) q107.1 m_set m_mir m_tgt m_shs m_shp m_pls m_pl m_tri q107.2 m_tak m_pld m_cel m_pie m_nxt m_cho m_cbs m_cub m_sts m_stt m_frm m_by m_wrk m_oth m_mvs m_mov) (x + 94) 1 out) x pss pps phv poo pcu pmm psk ppk pkw psc ppn q105.2 sur bud wan tri fou en eh cho at' pa mo le hd nt ct sts6 blo bhi bem glo ghi gem rlo rhi rem rom fnd fc prt lim su op)) lw_md_r ?_
          refine g_iload C (q := 0) rfl dL_law_749 rfl ?_
          refine g_icmp_eq (tgt := 756) C dL_law_751 (by decide) rfl (fun c109 => ?_) (fun c109 => ?_)
          · replace hf := ift c109 hf
            refine g_goto (pc' := 951) C dL_law_756 (by decide) ?_
            refine g_iinc (v := l4 + (4 : Int32)) (lv' := [(4, .int (l4 + (4 : Int32))), (5, .int q105.1), (0, .ref bs), (1, .ref x), (2, .ref (x + 71)), (3, .ref (x + 94))]) (q := 5) C dL_law_951 rfl rfl rfl (by rw [hKN]; decide) rfl ?_
            refine g_goto (pc' := 23) C dL_law_954 (by decide) ?_
            refine g_sub (lv' := [(0, .ref bs), (1, .ref x), (2, .ref (x + 71)), (3, .ref (x + 94)), (4, .int (l4 + (4 : Int32)))]) [2, 3, 4, 5, 0] rfl ?_
            exact ih _ _ _ _ _ _ _ _ _ _ _ _ _ _ _ _ _ _ _ _ _ _ _ _ _ _ _ _ _ _ _ _ _ _ _ _ _ _ _ _ _ _ _ _ _ _ _ _ _ _ _ _ _ _ _ _ _ _ _ _ _ _ _ _ _ _ _ _ _ _ _ _ _ _ _ (by omega) (by omega) hT9 hf _
          · replace hf := iff' c109 hf
            refine g_iconst (v := 0) C (by decide) dL_law_754 rfl ?_
            exact absurd hf (by decide)
        | 11, _, ex9 =>
          replace hf := iff' (by rw [ex9]; decide) hf
          replace hf := iff' (by rw [ex9]; decide) hf
          replace hf := iff' (by rw [ex9]; decide) hf
          replace hf := iff' (by rw [ex9]; decide) hf
          replace hf := iff' (by rw [ex9]; decide) hf
          replace hf := iff' (by rw [ex9]; decide) hf
          replace hf := iff' (by rw [ex9]; decide) hf
          replace hf := iff' (by rw [ex9]; decide) hf
          replace hf := iff' (by rw [ex9]; decide) hf
          replace hf := iff' (by rw [ex9]; decide) hf
          replace hf := iff' (by rw [ex9]; decide) hf
          replace hf := ift (by rw [ex9]; decide) hf
          show G K (cells) (slots) 759 [(0, .ref bs), (1, .ref x), (2, .ref (x + 71)), (3, .ref (x + 94)), (4, .int l4)] [] (wSh (wA (wMd σ (x + 71) m_th m_set m_mir m_tgt m_shs m_shp m_pls m_pl m_tri m_asm m_tak m_pld m_cel m_pie m_nxt m_cho m_cbs m_cub m_sts m_stt m_frm m_by m_wrk m_oth m_mvs m_mov) (x + 94) 1 out) x pss pps phv poo pcu pmm psk ppk pkw psc ppn asm sur bud wan tri fou en eh cho at' pa mo le hd nt ct sts6 blo bhi bem glo ghi gem rlo rhi rem rom fnd fc prt lim su op) n
          refine g_aload_n C rfl (q := 1) rfl dL_law_759 rfl ?_
          refine g_aload_n C rfl (q := 0) rfl dL_law_760 rfl ?_
          refine g_iload C (q := 4) rfl dL_law_761 rfl ?_
          refine g_iconst (v := 1) C (by decide) dL_law_763 rfl ?_
          refine g_iadd C dL_law_764 rfl ?_
          obtain ⟨g110, hf⟩ := gd hf
          refine g_sld C hX hbl hbA (inB_in g110) dL_law_765 rfl ?_
          refine g_aload_n C rfl (q := 3) rfl dL_law_766 rfl ?_
          obtain ⟨q111, hq111, hf⟩ := bd hf
          refine g_callSE (st' := []) (as := [.ref x, .int (xs (l4 + (1 : Int32)).toNatClampNeg), .ref (x + 94)]) (st2 := [.int q111.1]) (k := 3) (mc := 2) (ms := 12) C ⟨wm_RL_117, ws_L_cells, wi_RL, wk_L_cells, by decide +kernel⟩ (c_L_cells (l := kL K) (E := kE K) (σ := wMd σ (x + 71) m_th m_set m_mir m_tgt m_shs m_shp m_pls m_pl m_tri m_asm m_tak m_pld m_cel m_pie m_nxt m_cho m_cbs m_cub m_sts m_stt m_frm m_by m_wrk m_oth m_mvs m_mov) (x := x) (b := x + 94) (by omega) hl0 q111 hq111) (by rw [hKR]; exact ⟨rfl, rfl, ⟨by decide, by decide⟩, by show _ ≤ 601024; omega, by show _ ≤ 7293034; omega⟩) rfl rfl (by simp) rfl dL_law_767 rfl (fun n => ?_)
          refine g_istore (i := 5) (lv' := [(5, .int q111.1), (0, .ref bs), (1, .ref x), (2, .ref (x + 71)), (3, .ref (x + 94)), (4, .int l4)]) C dL_law_770 rfl (by rw [hKN]; decide) rfl ?_
          refine g_aload_n C rfl (q := 3) rfl dL_law_772 rfl ?_
          refine g_aload_n C rfl (q := 1) rfl dL_law_773 rfl ?_
          refine g_iload C (q := 5) rfl dL_law_774 rfl ?_
          refine g_iconst (v := 1) C (by decide) dL_law_776 rfl ?_
          refine g_iadd C dL_law_777 rfl ?_
          obtain ⟨g112, hf⟩ := gd hf
          refine g_sld C hX hbl hbA (inB_in g112) dL_law_778 rfl ?_
          obtain ⟨q113, hq113, hf⟩ := bd hf
          refine g_heap lw_md_s ?_
          refine g_callV0 (st' := []) (as := [.int (xs (l4 + (1 : Int32)).toNatClampNeg)]) (st2 := [.long q113.1]) (k := 1) C ⟨wm_RL_119, wn_X7_cells, wv_X7_cells, wi_RX7, wk_X7_cells, by decide +kernel⟩ rfl (wL_at0 rfl) (c_X7_cells (l := kL K) (E := kE K) (σ := (wSh (wA (wMd σ (x + 71) m_th m_set m_mir m_tgt m_shs m_shp m_pls m_pl m_tri m_asm m_tak m_pld m_cel m_pie m_nxt m_cho m_cbs m_cub m_sts m_stt m_frm m_by m_wrk m_oth m_mvs m_mov) (x + 94) 1 q111.2) x pss pps phv poo pcu pmm psk ppk pkw psc ppn asm sur bud wan tri fou en eh cho at' pa mo le hd nt ct sts6 blo bhi bem glo ghi gem rlo rhi rem rom fnd fc prt lim su op)) (a := x + 71) _ hq113) (by rw [hKR]; exact ⟨rfl, rfl, ⟨by decide, by decide⟩, by show _ ≤ 601024; omega, by show _ ≤ 7293034; omega⟩) rfl rfl (by simp) rfl dL_law_779 rfl ?_
          refine g_heap (h' := (wSh (wA (wMd σ (x + 71) q113.2 m_set m_mir m_tgt m_shs m_shp m_pls m_pl m_tri m_asm m_tak m_pld m_cel m_pie m_nxt m_cho m_cbs m_cub m_sts m_stt m_frm m_by m_wrk m_oth m_mvs m_mov) (x + 94) 1 q111.2) x pss pps phv poo pcu pmm psk ppk pkw psc ppn asm sur bud wan tri fou en eh cho at' pa mo le hd nt ct sts6 blo bhi bem glo ghi gem rlo rhi rem rom fnd fc prt lim su op)) lw_md_r ?_
          refine g_lstore (i := 6) (lv' := [(6, .long q113.1), (5, .int q111.1), (0, .ref bs), (1, .ref x), (2, .ref (x + 71)), (3, .ref (x + 94)), (4, .int l4)]) C dL_law_782 rfl (by rw [hKN]; decide) rfl ?_
          refine g_aload_n C rfl (q := 4) rfl dL_law_784 rfl ?_
          obtain ⟨q114, hq114, hf⟩ := bd hf
          refine g_heap lw_md_s ?_
          refine g_callV0 (st' := []) (as := []) (st2 := [.int q114]) (k := 0) C ⟨wm_RL_74, wn_X7_thrown, wv_X7_thrown, wi_RX7, wk_X7_thrown, by decide +kernel⟩ rfl (wL_at0 rfl) (c_X7_thrown (l := kL K) (E := kE K) (σ := (wSh (wA (wMd σ (x + 71) q113.2 m_set m_mir m_tgt m_shs m_shp m_pls m_pl m_tri m_asm m_tak m_pld m_cel m_pie m_nxt m_cho m_cbs m_cub m_sts m_stt m_frm m_by m_wrk m_oth m_mvs m_mov) (x + 94) 1 q111.2) x pss pps phv poo pcu pmm psk ppk pkw psc ppn asm sur bud wan tri fou en eh cho at' pa mo le hd nt ct sts6 blo bhi bem glo ghi gem rlo rhi rem rom fnd fc prt lim su op)) (a := x + 71) _ hq114) (by rw [hKR]; exact ⟨rfl, rfl, ⟨by decide, by decide⟩, by show _ ≤ 601024; omega, by show _ ≤ 7293034; omega⟩) rfl rfl (by simp) rfl dL_law_785 rfl ?_
          refine g_heap (h' := (wSh (wA (wMd σ (x + 71) q113.2 m_set m_mir m_tgt m_shs m_shp m_pls m_pl m_tri m_asm m_tak m_pld m_cel m_pie m_nxt m_cho m_cbs m_cub m_sts m_stt m_frm m_by m_wrk m_oth m_mvs m_mov) (x + 94) 1 q111.2) x pss pps phv poo pcu pmm psk ppk pkw psc ppn asm sur bud wan tri fou en eh cho at' pa mo le hd nt ct sts6 blo bhi bem glo ghi gem rlo rhi rem rom fnd fc prt lim su op)) lw_md_r ?_
          refine g_iload C (q := 1) rfl dL_law_788 rfl ?_
          refine g_icmp_eq (tgt := 795) C dL_law_790 (by decide) rfl (fun c115 => ?_) (fun c115 => ?_)
          · replace hf := ift c115 hf
            refine g_iload C (q := 1) rfl dL_law_795 rfl ?_
            refine g_if_ne (tgt := 811) C dL_law_797 (by decide) rfl (fun c116 => ?_) (fun c116 => ?_)
            · replace hf := iff' c116 hf
              refine g_goto (pc' := 951) C dL_law_811 (by decide) ?_
              refine g_iinc (v := l4 + (4 : Int32)) (lv' := [(4, .int (l4 + (4 : Int32))), (6, .long q113.1), (5, .int q111.1), (0, .ref bs), (1, .ref x), (2, .ref (x + 71)), (3, .ref (x + 94))]) (q := 6) C dL_law_951 rfl rfl rfl (by rw [hKN]; decide) rfl ?_
              refine g_goto (pc' := 23) C dL_law_954 (by decide) ?_
              refine g_sub (lv' := [(0, .ref bs), (1, .ref x), (2, .ref (x + 71)), (3, .ref (x + 94)), (4, .int (l4 + (4 : Int32)))]) [3, 4, 5, 6, 0] rfl ?_
              exact ih _ _ _ _ _ _ _ _ _ _ _ _ _ _ _ _ _ _ _ _ _ _ _ _ _ _ _ _ _ _ _ _ _ _ _ _ _ _ _ _ _ _ _ _ _ _ _ _ _ _ _ _ _ _ _ _ _ _ _ _ _ _ _ _ _ _ _ _ _ _ _ _ _ _ _ (by omega) (by omega) hT9 hf _
            · replace hf := ift c116 hf
              refine g_aload_n C rfl (q := 5) rfl dL_law_800 rfl ?_
              refine g_iconst (v := 0) C (by decide) dL_law_801 rfl ?_
              obtain ⟨g117, hf⟩ := gd hf
              refine g_lald C ((wL_out (by show _ ∨ _ + 71 ≤ _; omega)).trans (wL_at0 rfl)) (inB_in g117) dL_law_802 rfl ?_
              refine g_lload C (q := 0) rfl dL_law_803 rfl ?_
              refine g_lif_eq (tgt := 811) C dL_law_805 rfl dL_law_806 (by decide) rfl (fun c118 => ?_) (fun c118 => ?_)
              · replace hf := ift c118 hf
                refine g_goto (pc' := 951) C dL_law_811 (by decide) ?_
                refine g_iinc (v := l4 + (4 : Int32)) (lv' := [(4, .int (l4 + (4 : Int32))), (6, .long q113.1), (5, .int q111.1), (0, .ref bs), (1, .ref x), (2, .ref (x + 71)), (3, .ref (x + 94))]) (q := 6) C dL_law_951 rfl rfl rfl (by rw [hKN]; decide) rfl ?_
                refine g_goto (pc' := 23) C dL_law_954 (by decide) ?_
                refine g_sub (lv' := [(0, .ref bs), (1, .ref x), (2, .ref (x + 71)), (3, .ref (x + 94)), (4, .int (l4 + (4 : Int32)))]) [3, 4, 5, 6, 0] rfl ?_
                exact ih _ _ _ _ _ _ _ _ _ _ _ _ _ _ _ _ _ _ _ _ _ _ _ _ _ _ _ _ _ _ _ _ _ _ _ _ _ _ _ _ _ _ _ _ _ _ _ _ _ _ _ _ _ _ _ _ _ _ _ _ _ _ _ _ _ _ _ _ _ _ _ _ _ _ _ (by omega) (by omega) hT9 hf _
              · replace hf := iff' c118 hf
                refine g_iconst (v := 0) C (by decide) dL_law_809 rfl ?_
                exact absurd hf (by decide)
          · replace hf := iff' c115 hf
            refine g_iconst (v := 0) C (by decide) dL_law_793 rfl ?_
            exact absurd hf (by decide)
        | 12, _, ex9 =>
          replace hf := iff' (by rw [ex9]; decide) hf
          replace hf := iff' (by rw [ex9]; decide) hf
          replace hf := iff' (by rw [ex9]; decide) hf
          replace hf := iff' (by rw [ex9]; decide) hf
          replace hf := iff' (by rw [ex9]; decide) hf
          replace hf := iff' (by rw [ex9]; decide) hf
          replace hf := iff' (by rw [ex9]; decide) hf
          replace hf := iff' (by rw [ex9]; decide) hf
          replace hf := iff' (by rw [ex9]; decide) hf
          replace hf := iff' (by rw [ex9]; decide) hf
          replace hf := iff' (by rw [ex9]; decide) hf
          replace hf := iff' (by rw [ex9]; decide) hf
          replace hf := ift (by rw [ex9]; decide) hf
          show G K (cells) (slots) 814 [(0, .ref bs), (1, .ref x), (2, .ref (x + 71)), (3, .ref (x + 94)), (4, .int l4)] [] (wSh (wA (wMd σ (x + 71) m_th m_set m_mir m_tgt m_shs m_shp m_pls m_pl m_tri m_asm m_tak m_pld m_cel m_pie m_nxt m_cho m_cbs m_cub m_sts m_stt m_frm m_by m_wrk m_oth m_mvs m_mov) (x + 94) 1 out) x pss pps phv poo pcu pmm psk ppk pkw psc ppn asm sur bud wan tri fou en eh cho at' pa mo le hd nt ct sts6 blo bhi bem glo ghi gem rlo rhi rem rom fnd fc prt lim su op) n
          refine g_aload_n C rfl (q := 1) rfl dL_law_814 rfl ?_
          refine g_aload_n C rfl (q := 0) rfl dL_law_815 rfl ?_
          refine g_iload C (q := 4) rfl dL_law_816 rfl ?_
          refine g_iconst (v := 1) C (by decide) dL_law_818 rfl ?_
          refine g_iadd C dL_law_819 rfl ?_
          obtain ⟨g119, hf⟩ := gd hf
          refine g_sld C hX hbl hbA (inB_in g119) dL_law_820 rfl ?_
          refine g_aload_n C rfl (q := 0) rfl dL_law_821 rfl ?_
          refine g_iload C (q := 4) rfl dL_law_822 rfl ?_
          refine g_iconst (v := 2) C (by decide) dL_law_824 rfl ?_
          refine g_iadd C dL_law_825 rfl ?_
          obtain ⟨g120, hf⟩ := gd hf
          refine g_sld C hX hbl hbA (inB_in g120) dL_law_826 rfl ?_
          refine g_aload_n C rfl (q := 3) rfl dL_law_827 rfl ?_
          obtain ⟨q121, hq121, hf⟩ := bd hf
          refine g_callSE (st' := []) (as := [.ref x, .int (xs (l4 + (1 : Int32)).toNatClampNeg), .int (xs (l4 + (2 : Int32)).toNatClampNeg), .ref (x + 94)]) (st2 := [.int q121.1]) (k := 4) (mc := 1) (ms := 6) C ⟨wm_RL_120, ws_L_plan, wi_RL, wk_L_plan, by decide +kernel⟩ (c_L_plan (l := kL K) (E := kE K) (σ := wMd σ (x + 71) m_th m_set m_mir m_tgt m_shs m_shp m_pls m_pl m_tri m_asm m_tak m_pld m_cel m_pie m_nxt m_cho m_cbs m_cub m_sts m_stt m_frm m_by m_wrk m_oth m_mvs m_mov) (x := x) (b := x + 94) (by omega) hl0 q121 hq121) (by rw [hKR]; exact ⟨rfl, rfl, ⟨by decide, by decide⟩, by show _ ≤ 601024; omega, by show _ ≤ 7293034; omega⟩) rfl rfl (by simp) rfl dL_law_828 rfl (fun n => ?_)
          refine g_istore (i := 5) (lv' := [(5, .int q121.1), (0, .ref bs), (1, .ref x), (2, .ref (x + 71)), (3, .ref (x + 94)), (4, .int l4)]) C dL_law_831 rfl (by rw [hKN]; decide) rfl ?_
          refine g_aload_n C rfl (q := 3) rfl dL_law_833 rfl ?_
          refine g_aload_n C rfl (q := 1) rfl dL_law_834 rfl ?_
          refine g_iload C (q := 5) rfl dL_law_835 rfl ?_
          refine g_iconst (v := 1) C (by decide) dL_law_837 rfl ?_
          refine g_iadd C dL_law_838 rfl ?_
          obtain ⟨g122, hf⟩ := gd hf
          refine g_sld C hX hbl hbA (inB_in g122) dL_law_839 rfl ?_
          refine g_aload_n C rfl (q := 1) rfl dL_law_840 rfl ?_
          refine g_iload C (q := 5) rfl dL_law_841 rfl ?_
          refine g_iconst (v := 2) C (by decide) dL_law_843 rfl ?_
          refine g_iadd C dL_law_844 rfl ?_
          obtain ⟨g123, hf⟩ := gd hf
          refine g_sld C hX hbl hbA (inB_in g123) dL_law_845 rfl ?_
          obtain ⟨q124, hq124, hf⟩ := bd hf
          refine g_heap lw_md_s ?_
          refine g_callV0 (st' := []) (as := [.int (xs (l4 + (1 : Int32)).toNatClampNeg), .int (xs (l4 + (2 : Int32)).toNatClampNeg)]) (st2 := [.int q124.1]) (k := 2) C ⟨wm_RL_122, wn_X7_plan, wv_X7_plan, wi_RX7, wk_X7_plan, by decide +kernel⟩ rfl (wL_at0 rfl) (c_X7_plan (l := kL K) (E := kE K) (σ := (wSh (wA (wMd σ (x + 71) m_th m_set m_mir m_tgt m_shs m_shp m_pls m_pl m_tri m_asm m_tak m_pld m_cel m_pie m_nxt m_cho m_cbs m_cub m_sts m_stt m_frm m_by m_wrk m_oth m_mvs m_mov) (x + 94) 1 q121.2.2.2.2.2.2.2.2.2.2.2.2.2.2.2.2.2.2.2.2.2.2.2) x pss pps phv poo pcu pmm psk ppk pkw psc ppn asm sur bud wan tri fou en eh cho q121.2.1 q121.2.2.1 q121.2.2.2.1 q121.2.2.2.2.1 q121.2.2.2.2.2.1 q121.2.2.2.2.2.2.1 q121.2.2.2.2.2.2.2.1 q121.2.2.2.2.2.2.2.2.1 q121.2.2.2.2.2.2.2.2.2.1 q121.2.2.2.2.2.2.2.2.2.2.1 q121.2.2.2.2.2.2.2.2.2.2.2.1 q121.2.2.2.2.2.2.2.2.2.2.2.2.1 q121.2.2.2.2.2.2.2.2.2.2.2.2.2.1 q121.2.2.2.2.2.2.2.2.2.2.2.2.2.2.1 q121.2.2.2.2.2.2.2.2.2.2.2.2.2.2.2.1 q121.2.2.2.2.2.2.2.2.2.2.2.2.2.2.2.2.1 q121.2.2.2.2.2.2.2.2.2.2.2.2.2.2.2.2.2.1 q121.2.2.2.2.2.2.2.2.2.2.2.2.2.2.2.2.2.2.1 q121.2.2.2.2.2.2.2.2.2.2.2.2.2.2.2.2.2.2.2.1 q121.2.2.2.2.2.2.2.2.2.2.2.2.2.2.2.2.2.2.2.2.1 q121.2.2.2.2.2.2.2.2.2.2.2.2.2.2.2.2.2.2.2.2.2.1 q121.2.2.2.2.2.2.2.2.2.2.2.2.2.2.2.2.2.2.2.2.2.2.1 su op)) (a := x + 71) _ hq124) (by rw [hKR]; exact ⟨rfl, rfl, ⟨by decide, by decide⟩, by show _ ≤ 601024; omega, by show _ ≤ 7293034; omega⟩) rfl rfl (by simp) rfl dL_law_846 rfl ?_
          refine g_heap (h' := (wSh (wA (wMd σ (x + 71) q124.2.1 m_set m_mir m_tgt m_shs m_shp m_pls m_pl m_tri m_asm m_tak m_pld m_cel m_pie m_nxt m_cho q124.2.2.1 q124.2.2.2.1 q124.2.2.2.2.1 q124.2.2.2.2.2.1 q124.2.2.2.2.2.2.1 q124.2.2.2.2.2.2.2.1 q124.2.2.2.2.2.2.2.2.1 q124.2.2.2.2.2.2.2.2.2.1 q124.2.2.2.2.2.2.2.2.2.2.1 q124.2.2.2.2.2.2.2.2.2.2.2) (x + 94) 1 q121.2.2.2.2.2.2.2.2.2.2.2.2.2.2.2.2.2.2.2.2.2.2.2) x pss pps phv poo pcu pmm psk ppk pkw psc ppn asm sur bud wan tri fou en eh cho q121.2.1 q121.2.2.1 q121.2.2.2.1 q121.2.2.2.2.1 q121.2.2.2.2.2.1 q121.2.2.2.2.2.2.1 q121.2.2.2.2.2.2.2.1 q121.2.2.2.2.2.2.2.2.1 q121.2.2.2.2.2.2.2.2.2.1 q121.2.2.2.2.2.2.2.2.2.2.1 q121.2.2.2.2.2.2.2.2.2.2.2.1 q121.2.2.2.2.2.2.2.2.2.2.2.2.1 q121.2.2.2.2.2.2.2.2.2.2.2.2.2.1 q121.2.2.2.2.2.2.2.2.2.2.2.2.2.2.1 q121.2.2.2.2.2.2.2.2.2.2.2.2.2.2.2.1 q121.2.2.2.2.2.2.2.2.2.2.2.2.2.2.2.2.1 q121.2.2.2.2.2.2.2.2.2.2.2.2.2.2.2.2.2.1 q121.2.2.2.2.2.2.2.2.2.2.2.2.2.2.2.2.2.2.1 q121.2.2.2.2.2.2.2.2.2.2.2.2.2.2.2.2.2.2.2.1 q121.2.2.2.2.2.2.2.2.2.2.2.2.2.2.2.2.2.2.2.2.1 q121.2.2.2.2.2.2.2.2.2.2.2.2.2.2.2.2.2.2.2.2.2.1 q121.2.2.2.2.2.2.2.2.2.2.2.2.2.2.2.2.2.2.2.2.2.2.1 su op)) lw_md_r ?_
          refine g_istore (i := 6) (lv' := [(6, .int q124.1), (5, .int q121.1), (0, .ref bs), (1, .ref x), (2, .ref (x + 71)), (3, .ref (x + 94)), (4, .int l4)]) C dL_law_849 rfl (by rw [hKN]; decide) rfl ?_
          refine g_aload_n C rfl (q := 4) rfl dL_law_851 rfl ?_
          obtain ⟨q125, hq125, hf⟩ := bd hf
          refine g_heap lw_md_s ?_
          refine g_callV0 (st' := []) (as := []) (st2 := [.int q125]) (k := 0) C ⟨wm_RL_74, wn_X7_thrown, wv_X7_thrown, wi_RX7, wk_X7_thrown, by decide +kernel⟩ rfl (wL_at0 rfl) (c_X7_thrown (l := kL K) (E := kE K) (σ := (wSh (wA (wMd σ (x + 71) q124.2.1 m_set m_mir m_tgt m_shs m_shp m_pls m_pl m_tri m_asm m_tak m_pld m_cel m_pie m_nxt m_cho q124.2.2.1 q124.2.2.2.1 q124.2.2.2.2.1 q124.2.2.2.2.2.1 q124.2.2.2.2.2.2.1 q124.2.2.2.2.2.2.2.1 q124.2.2.2.2.2.2.2.2.1 q124.2.2.2.2.2.2.2.2.2.1 q124.2.2.2.2.2.2.2.2.2.2.1 q124.2.2.2.2.2.2.2.2.2.2.2) (x + 94) 1 q121.2.2.2.2.2.2.2.2.2.2.2.2.2.2.2.2.2.2.2.2.2.2.2) x pss pps phv poo pcu pmm psk ppk pkw psc ppn asm sur bud wan tri fou en eh cho q121.2.1 q121.2.2.1 q121.2.2.2.1 q121.2.2.2.2.1 q121.2.2.2.2.2.1 q121.2.2.2.2.2.2.1 q121.2.2.2.2.2.2.2.1 q121.2.2.2.2.2.2.2.2.1 q121.2.2.2.2.2.2.2.2.2.1 q121.2.2.2.2.2.2.2.2.2.2.1 q121.2.2.2.2.2.2.2.2.2.2.2.1 q121.2.2.2.2.2.2.2.2.2.2.2.2.1 q121.2.2.2.2.2.2.2.2.2.2.2.2.2.1 q121.2.2.2.2.2.2.2.2.2.2.2.2.2.2.1 q121.2.2.2.2.2.2.2.2.2.2.2.2.2.2.2.1 q121.2.2.2.2.2.2.2.2.2.2.2.2.2.2.2.2.1 q121.2.2.2.2.2.2.2.2.2.2.2.2.2.2.2.2.2.1 q121.2.2.2.2.2.2.2.2.2.2.2.2.2.2.2.2.2.2.1 q121.2.2.2.2.2.2.2.2.2.2.2.2.2.2.2.2.2.2.2.1 q121.2.2.2.2.2.2.2.2.2.2.2.2.2.2.2.2.2.2.2.2.1 q121.2.2.2.2.2.2.2.2.2.2.2.2.2.2.2.2.2.2.2.2.2.1 q121.2.2.2.2.2.2.2.2.2.2.2.2.2.2.2.2.2.2.2.2.2.2.1 su op)) (a := x + 71) _ hq125) (by rw [hKR]; exact ⟨rfl, rfl, ⟨by decide, by decide⟩, by show _ ≤ 601024; omega, by show _ ≤ 7293034; omega⟩) rfl rfl (by simp) rfl dL_law_852 rfl ?_
          refine g_heap (h' := (wSh (wA (wMd σ (x + 71) q124.2.1 m_set m_mir m_tgt m_shs m_shp m_pls m_pl m_tri m_asm m_tak m_pld m_cel m_pie m_nxt m_cho q124.2.2.1 q124.2.2.2.1 q124.2.2.2.2.1 q124.2.2.2.2.2.1 q124.2.2.2.2.2.2.1 q124.2.2.2.2.2.2.2.1 q124.2.2.2.2.2.2.2.2.1 q124.2.2.2.2.2.2.2.2.2.1 q124.2.2.2.2.2.2.2.2.2.2.1 q124.2.2.2.2.2.2.2.2.2.2.2) (x + 94) 1 q121.2.2.2.2.2.2.2.2.2.2.2.2.2.2.2.2.2.2.2.2.2.2.2) x pss pps phv poo pcu pmm psk ppk pkw psc ppn asm sur bud wan tri fou en eh cho q121.2.1 q121.2.2.1 q121.2.2.2.1 q121.2.2.2.2.1 q121.2.2.2.2.2.1 q121.2.2.2.2.2.2.1 q121.2.2.2.2.2.2.2.1 q121.2.2.2.2.2.2.2.2.1 q121.2.2.2.2.2.2.2.2.2.1 q121.2.2.2.2.2.2.2.2.2.2.1 q121.2.2.2.2.2.2.2.2.2.2.2.1 q121.2.2.2.2.2.2.2.2.2.2.2.2.1 q121.2.2.2.2.2.2.2.2.2.2.2.2.2.1 q121.2.2.2.2.2.2.2.2.2.2.2.2.2.2.1 q121.2.2.2.2.2.2.2.2.2.2.2.2.2.2.2.1 q121.2.2.2.2.2.2.2.2.2.2.2.2.2.2.2.2.1 q121.2.2.2.2.2.2.2.2.2.2.2.2.2.2.2.2.2.1 q121.2.2.2.2.2.2.2.2.2.2.2.2.2.2.2.2.2.2.1 q121.2.2.2.2.2.2.2.2.2.2.2.2.2.2.2.2.2.2.2.1 q121.2.2.2.2.2.2.2.2.2.2.2.2.2.2.2.2.2.2.2.2.1 q121.2.2.2.2.2.2.2.2.2.2.2.2.2.2.2.2.2.2.2.2.2.1 q121.2.2.2.2.2.2.2.2.2.2.2.2.2.2.2.2.2.2.2.2.2.2.1 su op)) lw_md_r ?_
          refine g_iload C (q := 1) rfl dL_law_855 rfl ?_
          refine g_icmp_eq (tgt := 862) C dL_law_857 (by decide) rfl (fun c126 => ?_) (fun c126 => ?_)
          · replace hf := ift c126 hf
            refine g_iload C (q := 1) rfl dL_law_862 rfl ?_
            refine g_if_ne (tgt := 879) C dL_law_864 (by decide) rfl (fun c127 => ?_) (fun c127 => ?_)
            · replace hf := iff' c127 hf
              refine g_goto (pc' := 951) C dL_law_879 (by decide) ?_
              refine g_iinc (v := l4 + (4 : Int32)) (lv' := [(4, .int (l4 + (4 : Int32))), (6, .int q124.1), (5, .int q121.1), (0, .ref bs), (1, .ref x), (2, .ref (x + 71)), (3, .ref (x + 94))]) (q := 6) C dL_law_951 rfl rfl rfl (by rw [hKN]; decide) rfl ?_
              refine g_goto (pc' := 23) C dL_law_954 (by decide) ?_
              refine g_sub (lv' := [(0, .ref bs), (1, .ref x), (2, .ref (x + 71)), (3, .ref (x + 94)), (4, .int (l4 + (4 : Int32)))]) [3, 4, 5, 6, 0] rfl ?_
              exact ih _ _ _ _ _ _ _ _ _ _ _ _ _ _ _ _ _ _ _ _ _ _ _ _ _ _ _ _ _ _ _ _ _ _ _ _ _ _ _ _ _ _ _ _ _ _ _ _ _ _ _ _ _ _ _ _ _ _ _ _ _ _ _ _ _ _ _ _ _ _ _ _ _ _ _ (by omega) (by omega) hT9 hf _
            · replace hf := ift c127 hf
              refine g_aload_n C rfl (q := 5) rfl dL_law_867 rfl ?_
              refine g_iconst (v := 0) C (by decide) dL_law_868 rfl ?_
              obtain ⟨g128, hf⟩ := gd hf
              refine g_lald C ((wL_out (by show _ ∨ _ + 71 ≤ _; omega)).trans (wL_at0 rfl)) (inB_in g128) dL_law_869 rfl ?_
              refine g_iload C (q := 0) rfl dL_law_870 rfl ?_
              refine g_i2l C dL_law_872 rfl ?_
              refine g_lif_eq (tgt := 879) C dL_law_873 rfl dL_law_874 (by decide) rfl (fun c129 => ?_) (fun c129 => ?_)
              · replace hf := ift c129 hf
                refine g_goto (pc' := 951) C dL_law_879 (by decide) ?_
                refine g_iinc (v := l4 + (4 : Int32)) (lv' := [(4, .int (l4 + (4 : Int32))), (6, .int q124.1), (5, .int q121.1), (0, .ref bs), (1, .ref x), (2, .ref (x + 71)), (3, .ref (x + 94))]) (q := 6) C dL_law_951 rfl rfl rfl (by rw [hKN]; decide) rfl ?_
                refine g_goto (pc' := 23) C dL_law_954 (by decide) ?_
                refine g_sub (lv' := [(0, .ref bs), (1, .ref x), (2, .ref (x + 71)), (3, .ref (x + 94)), (4, .int (l4 + (4 : Int32)))]) [3, 4, 5, 6, 0] rfl ?_
                exact ih _ _ _ _ _ _ _ _ _ _ _ _ _ _ _ _ _ _ _ _ _ _ _ _ _ _ _ _ _ _ _ _ _ _ _ _ _ _ _ _ _ _ _ _ _ _ _ _ _ _ _ _ _ _ _ _ _ _ _ _ _ _ _ _ _ _ _ _ _ _ _ _ _ _ _ (by omega) (by omega) hT9 hf _
              · replace hf := iff' c129 hf
                refine g_iconst (v := 0) C (by decide) dL_law_877 rfl ?_
                exact absurd hf (by decide)
          · replace hf := iff' c126 hf
            refine g_iconst (v := 0) C (by decide) dL_law_860 rfl ?_
            exact absurd hf (by decide)
        | 13, _, ex9 =>
          replace hf := iff' (by rw [ex9]; decide) hf
          replace hf := iff' (by rw [ex9]; decide) hf
          replace hf := iff' (by rw [ex9]; decide) hf
          replace hf := iff' (by rw [ex9]; decide) hf
          replace hf := iff' (by rw [ex9]; decide) hf
          replace hf := iff' (by rw [ex9]; decide) hf
          replace hf := iff' (by rw [ex9]; decide) hf
          replace hf := iff' (by rw [ex9]; decide) hf
          replace hf := iff' (by rw [ex9]; decide) hf
          replace hf := iff' (by rw [ex9]; decide) hf
          replace hf := iff' (by rw [ex9]; decide) hf
          replace hf := iff' (by rw [ex9]; decide) hf
          replace hf := iff' (by rw [ex9]; decide) hf
          replace hf := ift (by rw [ex9]; decide) hf
          show G K (cells) (slots) 882 [(0, .ref bs), (1, .ref x), (2, .ref (x + 71)), (3, .ref (x + 94)), (4, .int l4)] [] (wSh (wA (wMd σ (x + 71) m_th m_set m_mir m_tgt m_shs m_shp m_pls m_pl m_tri m_asm m_tak m_pld m_cel m_pie m_nxt m_cho m_cbs m_cub m_sts m_stt m_frm m_by m_wrk m_oth m_mvs m_mov) (x + 94) 1 out) x pss pps phv poo pcu pmm psk ppk pkw psc ppn asm sur bud wan tri fou en eh cho at' pa mo le hd nt ct sts6 blo bhi bem glo ghi gem rlo rhi rem rom fnd fc prt lim su op) n
          refine g_aload_n C rfl (q := 1) rfl dL_law_882 rfl ?_
          obtain ⟨q130, hq130, hf⟩ := bd hf
          refine g_heap rfl ?_
          refine g_callV0 (st' := []) (as := []) (st2 := [.int q130]) (k := 0) C ⟨wm_RL_123, wn_X6_states, wv_X6_states, wi_RX6, wk_X6_states, by decide +kernel⟩ rfl (wL_at0 rfl) (c_X6_states (l := kL K) (E := kE K) (σ := wA (wMd σ (x + 71) m_th m_set m_mir m_tgt m_shs m_shp m_pls m_pl m_tri m_asm m_tak m_pld m_cel m_pie m_nxt m_cho m_cbs m_cub m_sts m_stt m_frm m_by m_wrk m_oth m_mvs m_mov) (x + 94) 1 out) (x := x) _ hq130) (by rw [hKR]; exact ⟨rfl, rfl, ⟨by decide, by decide⟩, by show _ ≤ 601024; omega, by show _ ≤ 7293034; omega⟩) rfl rfl (by simp) rfl dL_law_883 rfl ?_
          refine g_heap (h' := (wSh (wA (wMd σ (x + 71) m_th m_set m_mir m_tgt m_shs m_shp m_pls m_pl m_tri m_asm m_tak m_pld m_cel m_pie m_nxt m_cho m_cbs m_cub m_sts m_stt m_frm m_by m_wrk m_oth m_mvs m_mov) (x + 94) 1 out) x pss pps phv poo pcu pmm psk ppk pkw psc ppn asm sur bud wan tri fou en eh cho at' pa mo le hd nt ct sts6 blo bhi bem glo ghi gem rlo rhi rem rom fnd fc prt lim su op)) rfl ?_
          refine g_aload_n C rfl (q := 2) rfl dL_law_886 rfl ?_
          obtain ⟨q131, hq131, hf⟩ := bd hf
          refine g_heap lw_md_s ?_
          refine g_callV0 (st' := [.int q130]) (as := []) (st2 := [.int q131.1, .int q130]) (k := 0) C ⟨wm_RL_126, wn_X7_states, wv_X7_states, wi_RX7, wk_X7_states, by decide +kernel⟩ rfl (wL_at0 rfl) (c_X7_states (l := kL K) (E := kE K) (σ := (wSh (wA (wMd σ (x + 71) m_th m_set m_mir m_tgt m_shs m_shp m_pls m_pl m_tri m_asm m_tak m_pld m_cel m_pie m_nxt m_cho m_cbs m_cub m_sts m_stt m_frm m_by m_wrk m_oth m_mvs m_mov) (x + 94) 1 out) x pss pps phv poo pcu pmm psk ppk pkw psc ppn asm sur bud wan tri fou en eh cho at' pa mo le hd nt ct sts6 blo bhi bem glo ghi gem rlo rhi rem rom fnd fc prt lim su op)) (a := x + 71) _ hq131) (by rw [hKR]; exact ⟨rfl, rfl, ⟨by decide, by decide⟩, by show _ ≤ 601024; omega, by show _ ≤ 7293034; omega⟩) rfl rfl (by simp [Value.category]) rfl dL_law_887 rfl ?_
          refine g_heap (h' := (wSh (wA (wMd σ (x + 71) q131.2 m_set m_mir m_tgt m_shs m_shp m_pls m_pl m_tri m_asm m_tak m_pld m_cel m_pie m_nxt m_cho m_cbs m_cub m_sts m_stt m_frm m_by m_wrk m_oth m_mvs m_mov) (x + 94) 1 out) x pss pps phv poo pcu pmm psk ppk pkw psc ppn asm sur bud wan tri fou en eh cho at' pa mo le hd nt ct sts6 blo bhi bem glo ghi gem rlo rhi rem rom fnd fc prt lim su op)) lw_md_r ?_
          refine g_icmp_eq (tgt := 951) C dL_law_890 (by decide) rfl (fun c132 => ?_) (fun c132 => ?_)
          · replace hf := ift c132 hf
            refine g_iinc (v := l4 + (4 : Int32)) (lv' := [(4, .int (l4 + (4 : Int32))), (0, .ref bs), (1, .ref x), (2, .ref (x + 71)), (3, .ref (x + 94))]) (q := 4) C dL_law_951 rfl rfl rfl (by rw [hKN]; decide) rfl ?_
            refine g_goto (pc' := 23) C dL_law_954 (by decide) ?_
            refine g_sub (lv' := [(0, .ref bs), (1, .ref x), (2, .ref (x + 71)), (3, .ref (x + 94)), (4, .int (l4 + (4 : Int32)))]) [1, 2, 3, 4, 0] rfl ?_
            exact ih _ _ _ _ _ _ _ _ _ _ _ _ _ _ _ _ _ _ _ _ _ _ _ _ _ _ _ _ _ _ _ _ _ _ _ _ _ _ _ _ _ _ _ _ _ _ _ _ _ _ _ _ _ _ _ _ _ _ _ _ _ _ _ _ _ _ _ _ _ _ _ _ _ _ _ (by omega) (by omega) hT9 hf _
          · replace hf := iff' c132 hf
            refine g_iconst (v := 0) C (by decide) dL_law_893 rfl ?_
            exact absurd hf (by decide)
        | 14, _, ex9 =>
          replace hf := iff' (by rw [ex9]; decide) hf
          replace hf := iff' (by rw [ex9]; decide) hf
          replace hf := iff' (by rw [ex9]; decide) hf
          replace hf := iff' (by rw [ex9]; decide) hf
          replace hf := iff' (by rw [ex9]; decide) hf
          replace hf := iff' (by rw [ex9]; decide) hf
          replace hf := iff' (by rw [ex9]; decide) hf
          replace hf := iff' (by rw [ex9]; decide) hf
          replace hf := iff' (by rw [ex9]; decide) hf
          replace hf := iff' (by rw [ex9]; decide) hf
          replace hf := iff' (by rw [ex9]; decide) hf
          replace hf := iff' (by rw [ex9]; decide) hf
          replace hf := iff' (by rw [ex9]; decide) hf
          replace hf := iff' (by rw [ex9]; decide) hf
          replace hf := ift (by rw [ex9]; decide) hf
          show G K (cells) (slots) 895 [(0, .ref bs), (1, .ref x), (2, .ref (x + 71)), (3, .ref (x + 94)), (4, .int l4)] [] (wSh (wA (wMd σ (x + 71) m_th m_set m_mir m_tgt m_shs m_shp m_pls m_pl m_tri m_asm m_tak m_pld m_cel m_pie m_nxt m_cho m_cbs m_cub m_sts m_stt m_frm m_by m_wrk m_oth m_mvs m_mov) (x + 94) 1 out) x pss pps phv poo pcu pmm psk ppk pkw psc ppn asm sur bud wan tri fou en eh cho at' pa mo le hd nt ct sts6 blo bhi bem glo ghi gem rlo rhi rem rom fnd fc prt lim su op) n
          refine g_aload_n C rfl (q := 1) rfl dL_law_895 rfl ?_
          refine g_aload_n C rfl (q := 0) rfl dL_law_896 rfl ?_
          refine g_iload C (q := 4) rfl dL_law_897 rfl ?_
          refine g_iconst (v := 1) C (by decide) dL_law_899 rfl ?_
          refine g_iadd C dL_law_900 rfl ?_
          obtain ⟨g133, hf⟩ := gd hf
          refine g_sld C hX hbl hbA (inB_in g133) dL_law_901 rfl ?_
          refine g_aload_n C rfl (q := 3) rfl dL_law_902 rfl ?_
          obtain ⟨q134, hq134, hf⟩ := bd hf
          refine g_callSE (st' := []) (as := [.ref x, .int (xs (l4 + (1 : Int32)).toNatClampNeg), .ref (x + 94)]) (st2 := [.int q134.1]) (k := 3) (mc := 1) (ms := 6) C ⟨wm_RL_127, ws_L_move, wi_RL, wk_L_move, by decide +kernel⟩ (c_L_move (l := kL K) (E := kE K) (σ := wMd σ (x + 71) m_th m_set m_mir m_tgt m_shs m_shp m_pls m_pl m_tri m_asm m_tak m_pld m_cel m_pie m_nxt m_cho m_cbs m_cub m_sts m_stt m_frm m_by m_wrk m_oth m_mvs m_mov) (x := x) (b := x + 94) (by omega) hl0 q134 hq134) (by rw [hKR]; exact ⟨rfl, rfl, ⟨by decide, by decide⟩, by show _ ≤ 601024; omega, by show _ ≤ 7293034; omega⟩) rfl rfl (by simp) rfl dL_law_903 rfl (fun n => ?_)
          refine g_istore (i := 5) (lv' := [(5, .int q134.1), (0, .ref bs), (1, .ref x), (2, .ref (x + 71)), (3, .ref (x + 94)), (4, .int l4)]) C dL_law_906 rfl (by rw [hKN]; decide) rfl ?_
          refine g_aload_n C rfl (q := 3) rfl dL_law_908 rfl ?_
          refine g_aload_n C rfl (q := 1) rfl dL_law_909 rfl ?_
          refine g_iload C (q := 5) rfl dL_law_910 rfl ?_
          refine g_iconst (v := 1) C (by decide) dL_law_912 rfl ?_
          refine g_iadd C dL_law_913 rfl ?_
          obtain ⟨g135, hf⟩ := gd hf
          refine g_sld C hX hbl hbA (inB_in g135) dL_law_914 rfl ?_
          obtain ⟨q136, hq136, hf⟩ := bd hf
          refine g_heap lw_md_s ?_
          refine g_callV0 (st' := []) (as := [.int (xs (l4 + (1 : Int32)).toNatClampNeg)]) (st2 := [.int q136.1]) (k := 1) C ⟨wm_RL_129, wn_X7_move, wv_X7_move, wi_RX7, wk_X7_move, by decide +kernel⟩ rfl (wL_at0 rfl) (c_X7_move (l := kL K) (E := kE K) (σ := (wSh (wA (wMd σ (x + 71) m_th m_set m_mir m_tgt m_shs m_shp m_pls m_pl m_tri m_asm m_tak m_pld m_cel m_pie m_nxt m_cho m_cbs m_cub m_sts m_stt m_frm m_by m_wrk m_oth m_mvs m_mov) (x + 94) 1 q134.2) x pss pps phv poo pcu pmm psk ppk pkw psc ppn asm sur bud wan tri fou en eh cho at' pa mo le hd nt ct sts6 blo bhi bem glo ghi gem rlo rhi rem rom fnd fc prt lim su op)) (a := x + 71) _ hq136) (by rw [hKR]; exact ⟨rfl, rfl, ⟨by decide, by decide⟩, by show _ ≤ 601024; omega, by show _ ≤ 7293034; omega⟩) rfl rfl (by simp) rfl dL_law_915 rfl ?_
          refine g_heap (h' := (wSh (wA (wMd σ (x + 71) q136.2 m_set m_mir m_tgt m_shs m_shp m_pls m_pl m_tri m_asm m_tak m_pld m_cel m_pie m_nxt m_cho m_cbs m_cub m_sts m_stt m_frm m_by m_wrk m_oth m_mvs m_mov) (x + 94) 1 q134.2) x pss pps phv poo pcu pmm psk ppk pkw psc ppn asm sur bud wan tri fou en eh cho at' pa mo le hd nt ct sts6 blo bhi bem glo ghi gem rlo rhi rem rom fnd fc prt lim su op)) lw_md_r ?_
          refine g_istore (i := 6) (lv' := [(6, .int q136.1), (5, .int q134.1), (0, .ref bs), (1, .ref x), (2, .ref (x + 71)), (3, .ref (x + 94)), (4, .int l4)]) C dL_law_918 rfl (by rw [hKN]; decide) rfl ?_
          refine g_aload_n C rfl (q := 4) rfl dL_law_920 rfl ?_
          obtain ⟨q137, hq137, hf⟩ := bd hf
          refine g_heap lw_md_s ?_
          refine g_callV0 (st' := []) (as := []) (st2 := [.int q137]) (k := 0) C ⟨wm_RL_74, wn_X7_thrown, wv_X7_thrown, wi_RX7, wk_X7_thrown, by decide +kernel⟩ rfl (wL_at0 rfl) (c_X7_thrown (l := kL K) (E := kE K) (σ := (wSh (wA (wMd σ (x + 71) q136.2 m_set m_mir m_tgt m_shs m_shp m_pls m_pl m_tri m_asm m_tak m_pld m_cel m_pie m_nxt m_cho m_cbs m_cub m_sts m_stt m_frm m_by m_wrk m_oth m_mvs m_mov) (x + 94) 1 q134.2) x pss pps phv poo pcu pmm psk ppk pkw psc ppn asm sur bud wan tri fou en eh cho at' pa mo le hd nt ct sts6 blo bhi bem glo ghi gem rlo rhi rem rom fnd fc prt lim su op)) (a := x + 71) _ hq137) (by rw [hKR]; exact ⟨rfl, rfl, ⟨by decide, by decide⟩, by show _ ≤ 601024; omega, by show _ ≤ 7293034; omega⟩) rfl rfl (by simp) rfl dL_law_921 rfl ?_
          refine g_heap (h' := (wSh (wA (wMd σ (x + 71) q136.2 m_set m_mir m_tgt m_shs m_shp m_pls m_pl m_tri m_asm m_tak m_pld m_cel m_pie m_nxt m_cho m_cbs m_cub m_sts m_stt m_frm m_by m_wrk m_oth m_mvs m_mov) (x + 94) 1 q134.2) x pss pps phv poo pcu pmm psk ppk pkw psc ppn asm sur bud wan tri fou en eh cho at' pa mo le hd nt ct sts6 blo bhi bem glo ghi gem rlo rhi rem rom fnd fc prt lim su op)) lw_md_r ?_
          refine g_iload C (q := 1) rfl dL_law_924 rfl ?_
          refine g_icmp_eq (tgt := 931) C dL_law_926 (by decide) rfl (fun c138 => ?_) (fun c138 => ?_)
          · replace hf := ift c138 hf
            refine g_iload C (q := 1) rfl dL_law_931 rfl ?_
            refine g_if_ne (tgt := 948) C dL_law_933 (by decide) rfl (fun c139 => ?_) (fun c139 => ?_)
            · replace hf := iff' c139 hf
              refine g_goto (pc' := 951) C dL_law_948 (by decide) ?_
              refine g_iinc (v := l4 + (4 : Int32)) (lv' := [(4, .int (l4 + (4 : Int32))), (6, .int q136.1), (5, .int q134.1), (0, .ref bs), (1, .ref x), (2, .ref (x + 71)), (3, .ref (x + 94))]) (q := 6) C dL_law_951 rfl rfl rfl (by rw [hKN]; decide) rfl ?_
              refine g_goto (pc' := 23) C dL_law_954 (by decide) ?_
              refine g_sub (lv' := [(0, .ref bs), (1, .ref x), (2, .ref (x + 71)), (3, .ref (x + 94)), (4, .int (l4 + (4 : Int32)))]) [3, 4, 5, 6, 0] rfl ?_
              exact ih _ _ _ _ _ _ _ _ _ _ _ _ _ _ _ _ _ _ _ _ _ _ _ _ _ _ _ _ _ _ _ _ _ _ _ _ _ _ _ _ _ _ _ _ _ _ _ _ _ _ _ _ _ _ _ _ _ _ _ _ _ _ _ _ _ _ _ _ _ _ _ _ _ _ _ (by omega) (by omega) hT9 hf _
            · replace hf := ift c139 hf
              refine g_aload_n C rfl (q := 5) rfl dL_law_936 rfl ?_
              refine g_iconst (v := 0) C (by decide) dL_law_937 rfl ?_
              obtain ⟨g140, hf⟩ := gd hf
              refine g_lald C ((wL_out (by show _ ∨ _ + 71 ≤ _; omega)).trans (wL_at0 rfl)) (inB_in g140) dL_law_938 rfl ?_
              refine g_iload C (q := 0) rfl dL_law_939 rfl ?_
              refine g_i2l C dL_law_941 rfl ?_
              refine g_lif_eq (tgt := 948) C dL_law_942 rfl dL_law_943 (by decide) rfl (fun c141 => ?_) (fun c141 => ?_)
              · replace hf := ift c141 hf
                refine g_goto (pc' := 951) C dL_law_948 (by decide) ?_
                refine g_iinc (v := l4 + (4 : Int32)) (lv' := [(4, .int (l4 + (4 : Int32))), (6, .int q136.1), (5, .int q134.1), (0, .ref bs), (1, .ref x), (2, .ref (x + 71)), (3, .ref (x + 94))]) (q := 6) C dL_law_951 rfl rfl rfl (by rw [hKN]; decide) rfl ?_
                refine g_goto (pc' := 23) C dL_law_954 (by decide) ?_
                refine g_sub (lv' := [(0, .ref bs), (1, .ref x), (2, .ref (x + 71)), (3, .ref (x + 94)), (4, .int (l4 + (4 : Int32)))]) [3, 4, 5, 6, 0] rfl ?_
                exact ih _ _ _ _ _ _ _ _ _ _ _ _ _ _ _ _ _ _ _ _ _ _ _ _ _ _ _ _ _ _ _ _ _ _ _ _ _ _ _ _ _ _ _ _ _ _ _ _ _ _ _ _ _ _ _ _ _ _ _ _ _ _ _ _ _ _ _ _ _ _ _ _ _ _ _ (by omega) (by omega) hT9 hf _
              · replace hf := iff' c141 hf
                refine g_iconst (v := 0) C (by decide) dL_law_946 rfl ?_
                exact absurd hf (by decide)
          · replace hf := iff' c138 hf
            refine g_iconst (v := 0) C (by decide) dL_law_929 rfl ?_
            exact absurd hf (by decide)
        | k + 15, h, _ => exact absurd h (by omega)
      · replace hf := iff' (no9 0 (by decide)) hf
        replace hf := iff' (no9 1 (by decide)) hf
        replace hf := iff' (no9 2 (by decide)) hf
        replace hf := iff' (no9 3 (by decide)) hf
        replace hf := iff' (no9 4 (by decide)) hf
        replace hf := iff' (no9 5 (by decide)) hf
        replace hf := iff' (no9 6 (by decide)) hf
        replace hf := iff' (no9 7 (by decide)) hf
        replace hf := iff' (no9 8 (by decide)) hf
        replace hf := iff' (no9 9 (by decide)) hf
        replace hf := iff' (no9 10 (by decide)) hf
        replace hf := iff' (no9 11 (by decide)) hf
        replace hf := iff' (no9 12 (by decide)) hf
        replace hf := iff' (no9 13 (by decide)) hf
        replace hf := iff' (no9 14 (by decide)) hf
        refine g_iinc (v := l4 + (4 : Int32)) (lv' := [(4, .int (l4 + (4 : Int32))), (0, .ref bs), (1, .ref x), (2, .ref (x + 71)), (3, .ref (x + 94))]) (q := 4) C dL_law_951 rfl rfl rfl (by rw [hKN]; decide) rfl ?_
        refine g_goto (pc' := 23) C dL_law_954 (by decide) ?_
        refine g_sub (lv' := [(0, .ref bs), (1, .ref x), (2, .ref (x + 71)), (3, .ref (x + 94)), (4, .int (l4 + (4 : Int32)))]) [1, 2, 3, 4, 0] rfl ?_
        exact ih _ _ _ _ _ _ _ _ _ _ _ _ _ _ _ _ _ _ _ _ _ _ _ _ _ _ _ _ _ _ _ _ _ _ _ _ _ _ _ _ _ _ _ _ _ _ _ _ _ _ _ _ _ _ _ _ _ _ _ _ _ _ _ _ _ _ _ _ _ _ _ _ _ _ _ (by omega) (by omega) hT9 hf _
