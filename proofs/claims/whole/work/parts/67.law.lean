/-! the law's loop -/
def INV (pcu : Nat → Int64) (pmm : Nat → Int32) (pss : Nat → Nat → Int64) (pps : Nat → Nat → Int64) (phv : Nat → Nat → Int64) (psk : Nat → Int32) (ppk : Nat → Int32) (pkw : Nat → Int64) (psc : Nat → Int32) (ppn : Nat → Int32) (asm : Nat → Int64) (tri : Int32) (ct : Int32) (fnd : Nat → Int32) (fc : Int32) (su : Int64) (op : Int64) (m_set : Nat → Int64) (m_mir : Nat → Int32) (m_tgt : Nat → Int32) (m_tri : Int32) (m_asm : Nat → Int64) (m_sts : Int32) (m_mvs : Int32) (m_mov : Nat → Int32) : Prop := m_set = pcu ∧ (∃ mb, PI pcu mb pmm m_mir pss pps phv psk ppk pkw psc ppn) ∧ TW m_tgt (su ||| op) ∧ TS m_tgt su ∧ (∀ p, p < 6 → asm p = m_asm p) ∧ (∀ p, p < 6 → cnt (asm p) ≤ 10) ∧ tri = m_tri ∧ ct = m_sts ∧ Fin fnd fc m_mov m_mvs
theorem ifb (x : Int32) : ∃ b, (if x = 0 then (0 : Int32) else (1 : Int32)) = bI b := by
  by_cases h : x = 0
  · exact ⟨false, if_pos h⟩
  · exact ⟨true, if_neg h⟩
theorem law_ok {xs : Nat → Int32} {L : Nat} (hL : L ≤ 2048) : ∀ k fu i l4 pss pps phv poo pcu pmm psk ppk pkw psc ppn asm sur bud wan tri fou en eh cho at' pa mo le hd nt ct sts6 blo bhi bem glo ghi gem rlo rhi rem rom fnd fc prt lim su op m_th m_set m_mir m_tgt m_shs m_shp m_pls m_pl m_tri m_asm m_tak m_pld m_cel m_pie m_nxt m_cho m_cbs m_cub m_sts m_stt m_frm m_by m_wrk m_oth m_mvs m_mov out, 1000000 + k < fu → L ≤ 4 * k + i → i ≤ 4096 → l4 = nI i → INV pcu pmm pss pps phv psk ppk pkw psc ppn asm tri ct fnd fc su op m_set m_mir m_tgt m_tri m_asm m_sts m_mvs m_mov → Ok (f_L_law_23 xs L fu l4 pss pps phv poo pcu pmm psk ppk pkw psc ppn asm sur bud wan tri fou en eh cho at' pa mo le hd nt ct sts6 blo bhi bem glo ghi gem rlo rhi rem rom fnd fc prt lim su op m_th m_set m_mir m_tgt m_shs m_shp m_pls m_pl m_tri m_asm m_tak m_pld m_cel m_pie m_nxt m_cho m_cbs m_cub m_sts m_stt m_frm m_by m_wrk m_oth m_mvs m_mov out) (fun r => r = 1) := by
  intro k
  induction k with
  | zero =>
    intro fu i l4 pss pps phv poo pcu pmm psk ppk pkw psc ppn asm sur bud wan tri fou en eh cho at' pa mo le hd nt ct sts6 blo bhi bem glo ghi gem rlo rhi rem rom fnd fc prt lim su op m_th m_set m_mir m_tgt m_shs m_shp m_pls m_pl m_tri m_asm m_tak m_pld m_cel m_pie m_nxt m_cho m_cbs m_cub m_sts m_stt m_frm m_by m_wrk m_oth m_mvs m_mov out hf hi hi2 hl4 hI
    obtain ⟨w, rfl⟩ : ∃ w, fu = w + 1 := ⟨fu - 1, by omega⟩
    subst hl4
    rw [f_L_law_23]
    refine Ok.pos ?_ (Ok.some rfl)
    rw [iI_n, iI_n, show (4 : Int32) = iI 4 from rfl, iI_sub, iI_lt (by omega) (by omega) (by omega) (by omega)]
    omega
  | succ k ih =>
    intro fu i l4 pss pps phv poo pcu pmm psk ppk pkw psc ppn asm sur bud wan tri fou en eh cho at' pa mo le hd nt ct sts6 blo bhi bem glo ghi gem rlo rhi rem rom fnd fc prt lim su op m_th m_set m_mir m_tgt m_shs m_shp m_pls m_pl m_tri m_asm m_tak m_pld m_cel m_pie m_nxt m_cho m_cbs m_cub m_sts m_stt m_frm m_by m_wrk m_oth m_mvs m_mov out hf hi hi2 hl4 hI
    obtain ⟨w, rfl⟩ : ∃ w, fu = w + 1 := ⟨fu - 1, by omega⟩
    have hcmp : (nI L - (4 : Int32) < l4) = ((L : Int) - 4 < i) := by
      rw [hl4, iI_n, iI_n, show (4 : Int32) = iI 4 from rfl, iI_sub, iI_lt (by omega) (by omega) (by omega) (by omega)]
    rw [f_L_law_23]
    by_cases hend : (L : Int) - 4 < i
    · exact Ok.pos (by rw [hcmp]; exact hend) (Ok.some rfl)
    have b0 : inB l4 L = true := by rw [hl4]; exact inB_n (by omega) (by omega)
    have b1 : inB (l4 + (1 : Int32)) L = true := by rw [hl4, show nI i + 1 = nI (i + 1) from nI_1 i]; exact inB_n (by omega) (by omega)
    have b2 : inB (l4 + (2 : Int32)) L = true := by rw [hl4, show (2 : Int32) = nI 2 from rfl, nI_add]; exact inB_n (by omega) (by omega)
    have b3 : inB (l4 + (3 : Int32)) L = true := by rw [hl4, show (3 : Int32) = nI 3 from rfl, nI_add]; exact inB_n (by omega) (by omega)
    have e4 : l4 + (4 : Int32) = nI (i + 4) := by rw [hl4, show (4 : Int32) = nI 4 from rfl, nI_add]
    obtain ⟨rfl, ⟨mb, hPI⟩, hT, hS, ha, hac, rfl, rfl, hfin⟩ := hI
    obtain ⟨i1, i2, i3, i4⟩ := id hPI
    have hPk : PkI m_set mb pmm m_mir m_tgt su op := ⟨i1, i2, i3, hT, hS⟩
    have go : ∀ l4' pss pps phv poo pcu pmm psk ppk pkw psc ppn asm sur bud wan tri fou en eh cho at' pa mo le hd nt ct sts6 blo bhi bem glo ghi gem rlo rhi rem rom fnd fc prt lim su op m_th m_set m_mir m_tgt m_shs m_shp m_pls m_pl m_tri m_asm m_tak m_pld m_cel m_pie m_nxt m_cho m_cbs m_cub m_sts m_stt m_frm m_by m_wrk m_oth m_mvs m_mov out, l4' = nI (i + 4) → INV pcu pmm pss pps phv psk ppk pkw psc ppn asm tri ct fnd fc su op m_set m_mir m_tgt m_tri m_asm m_sts m_mvs m_mov → Ok (f_L_law_23 xs L w l4' pss pps phv poo pcu pmm psk ppk pkw psc ppn asm sur bud wan tri fou en eh cho at' pa mo le hd nt ct sts6 blo bhi bem glo ghi gem rlo rhi rem rom fnd fc prt lim su op m_th m_set m_mir m_tgt m_shs m_shp m_pls m_pl m_tri m_asm m_tak m_pld m_cel m_pie m_nxt m_cho m_cbs m_cub m_sts m_stt m_frm m_by m_wrk m_oth m_mvs m_mov out) (fun r => r = 1) := by
      intro l4' pss pps phv poo pcu pmm psk ppk pkw psc ppn asm sur bud wan tri fou en eh cho at' pa mo le hd nt ct sts6 blo bhi bem glo ghi gem rlo rhi rem rom fnd fc prt lim su op m_th m_set m_mir m_tgt m_shs m_shp m_pls m_pl m_tri m_asm m_tak m_pld m_cel m_pie m_nxt m_cho m_cbs m_cub m_sts m_stt m_frm m_by m_wrk m_oth m_mvs m_mov out h1 h2
      exact ih w (i + 4) l4' pss pps phv poo pcu pmm psk ppk pkw psc ppn asm sur bud wan tri fou en eh cho at' pa mo le hd nt ct sts6 blo bhi bem glo ghi gem rlo rhi rem rom fnd fc prt lim su op m_th m_set m_mir m_tgt m_shs m_shp m_pls m_pl m_tri m_asm m_tak m_pld m_cel m_pie m_nxt m_cho m_cbs m_cub m_sts m_stt m_frm m_by m_wrk m_oth m_mvs m_mov out (by omega) (by omega) (by omega) h1 h2
    refine Ok.neg (by rw [hcmp]; exact hend) (Ok.pos b0 ?_)
    refine Ok.ite (fun _ => ?_) (fun _ => ?_)
    · obtain ⟨b0, hb0⟩ := ifb (xs (l4 + (3 : Int32)).toNatClampNeg)
      have h := cube_ok (fu := w) (by omega) hPI ha hac out (xs (l4 + (1 : Int32)).toNatClampNeg) (xs (l4 + (2 : Int32)).toNatClampNeg) b0
      rw [← hb0] at h
      obtain ⟨a, ea, b, eb, r1, r2, r3, r4, r5, r6⟩ := h
      refine Ok.pos b1 (Ok.pos b2 (Ok.pos b3 (Ok.bindE ea (Ok.pos b1 (Ok.pos b2 (Ok.pos b3 (Ok.bindE eb (Ok.bindE rfl (Ok.pos r1 ?_)))))))))
      refine Ok.ite (fun z => Ok.pos (by decide) (Ok.pos (r2 z) ?_)) (fun z => ?_)
      · exact go _ _ _ _ _ _ _ _ _ _ _ _ _ _ _ _ _ _ _ _ _ _ _ _ _ _ _ _ _ _ _ _ _ _ _ _ _ _ _ _ _ _ _ _ _ _ _ _ _ _ _ _ _ _ _ _ _ _ _ _ _ _ _ _ _ _ _ _ _ _ _ _ e4 ⟨r3, ⟨mb, r4⟩, hT, hS, r5, r6, rfl, rfl, hfin⟩
      · exact go _ _ _ _ _ _ _ _ _ _ _ _ _ _ _ _ _ _ _ _ _ _ _ _ _ _ _ _ _ _ _ _ _ _ _ _ _ _ _ _ _ _ _ _ _ _ _ _ _ _ _ _ _ _ _ _ _ _ _ _ _ _ _ _ _ _ _ _ _ _ _ _ e4 ⟨r3, ⟨mb, r4⟩, hT, hS, r5, r6, rfl, rfl, hfin⟩
    refine Ok.ite (fun _ => ?_) (fun _ => ?_)
    · obtain ⟨b0, hb0⟩ := ifb (xs (l4 + (2 : Int32)).toNatClampNeg)
      have h := mirror_ok hPI (xs (l4 + (1 : Int32)).toNatClampNeg) b0
      rw [← hb0] at h
      obtain ⟨a, ea, b, eb, r1, mb2, r2⟩ := h
      refine Ok.pos b1 (Ok.pos b2 (Ok.bindE ea (Ok.pos b1 (Ok.pos b2 (Ok.bindE eb (Ok.bindE rfl (Ok.pos r1 ?_)))))))
      exact go _ _ _ _ _ _ _ _ _ _ _ _ _ _ _ _ _ _ _ _ _ _ _ _ _ _ _ _ _ _ _ _ _ _ _ _ _ _ _ _ _ _ _ _ _ _ _ _ _ _ _ _ _ _ _ _ _ _ _ _ _ _ _ _ _ _ _ _ _ _ _ _ e4 ⟨rfl, ⟨mb2, r2⟩, hT, hS, ha, hac, rfl, rfl, hfin⟩
    refine Ok.ite (fun _ => ?_) (fun _ => ?_)
    · obtain ⟨a, ea, b, eb, r1, r2, r3⟩ := shapes_ok (fu := w) (by omega) hPI out m_shs m_shp (xs (l4 + (1 : Int32)).toNatClampNeg)
      refine Ok.pos b1 (Ok.bindE ea (Ok.pos b1 (Ok.bindE eb (Ok.bindE rfl (Ok.pos r1 ?_)))))
      refine Ok.ite (fun z => Ok.pos (by decide) (Ok.pos (r2 z) ?_)) (fun z => ?_)
      · exact go _ _ _ _ _ _ _ _ _ _ _ _ _ _ _ _ _ _ _ _ _ _ _ _ _ _ _ _ _ _ _ _ _ _ _ _ _ _ _ _ _ _ _ _ _ _ _ _ _ _ _ _ _ _ _ _ _ _ _ _ _ _ _ _ _ _ _ _ _ _ _ _ e4 ⟨rfl, ⟨mb, i1, i2, i3, r3⟩, hT, hS, ha, hac, rfl, rfl, hfin⟩
      · exact go _ _ _ _ _ _ _ _ _ _ _ _ _ _ _ _ _ _ _ _ _ _ _ _ _ _ _ _ _ _ _ _ _ _ _ _ _ _ _ _ _ _ _ _ _ _ _ _ _ _ _ _ _ _ _ _ _ _ _ _ _ _ _ _ _ _ _ _ _ _ _ _ e4 ⟨rfl, ⟨mb, i1, i2, i3, r3⟩, hT, hS, ha, hac, rfl, rfl, hfin⟩
    refine Ok.ite (fun _ => ?_) (fun _ => ?_)
    · obtain ⟨a, ea, b, eb, r1, r2, r3⟩ := shape_ok (fu := w) (by omega) hPI out m_shs m_shp (xs (l4 + (1 : Int32)).toNatClampNeg) (xs (l4 + (2 : Int32)).toNatClampNeg)
      refine Ok.pos b1 (Ok.pos b2 (Ok.bindE ea (Ok.pos b1 (Ok.pos b2 (Ok.bindE eb (Ok.bindE rfl (Ok.pos r1 ?_)))))))
      refine Ok.ite (fun z => Ok.pos (by decide) (Ok.pos (r2 z) ?_)) (fun z => ?_)
      · exact go _ _ _ _ _ _ _ _ _ _ _ _ _ _ _ _ _ _ _ _ _ _ _ _ _ _ _ _ _ _ _ _ _ _ _ _ _ _ _ _ _ _ _ _ _ _ _ _ _ _ _ _ _ _ _ _ _ _ _ _ _ _ _ _ _ _ _ _ _ _ _ _ e4 ⟨rfl, ⟨mb, i1, i2, i3, r3⟩, hT, hS, ha, hac, rfl, rfl, hfin⟩
      · exact go _ _ _ _ _ _ _ _ _ _ _ _ _ _ _ _ _ _ _ _ _ _ _ _ _ _ _ _ _ _ _ _ _ _ _ _ _ _ _ _ _ _ _ _ _ _ _ _ _ _ _ _ _ _ _ _ _ _ _ _ _ _ _ _ _ _ _ _ _ _ _ _ e4 ⟨rfl, ⟨mb, i1, i2, i3, r3⟩, hT, hS, ha, hac, rfl, rfl, hfin⟩
    refine Ok.ite (fun _ => ?_) (fun _ => ?_)
    · obtain ⟨a, ea, b, eb, r1, r2, r3⟩ := tgt_ok hT hS (xs (l4 + (1 : Int32)).toNatClampNeg) (xs (l4 + (2 : Int32)).toNatClampNeg)
      refine Ok.pos b1 (Ok.pos b2 (Ok.bindE ea (Ok.pos b1 (Ok.pos b2 (Ok.bindE eb (Ok.bindE rfl (Ok.pos r1 ?_)))))))
      exact go _ _ _ _ _ _ _ _ _ _ _ _ _ _ _ _ _ _ _ _ _ _ _ _ _ _ _ _ _ _ _ _ _ _ _ _ _ _ _ _ _ _ _ _ _ _ _ _ _ _ _ _ _ _ _ _ _ _ _ _ _ _ _ _ _ _ _ _ _ _ _ _ e4 ⟨rfl, ⟨mb, hPI⟩, r2, r3, ha, hac, rfl, rfl, hfin⟩
    refine Ok.ite (fun _ => ?_) (fun _ => ?_)
    · obtain ⟨a, ea, b, eb, r1, r2, r3⟩ := places_ok (fu := w) (by omega) hPI hT poo out m_shs m_shp m_pls m_pl (xs (l4 + (1 : Int32)).toNatClampNeg)
      refine Ok.pos b1 (Ok.bindE ea (Ok.pos b1 (Ok.bindE eb (Ok.bindE rfl (Ok.pos r1 ?_)))))
      refine Ok.ite (fun z => Ok.pos (by decide) (Ok.pos (r2 z) ?_)) (fun z => ?_)
      · exact go _ _ _ _ _ _ _ _ _ _ _ _ _ _ _ _ _ _ _ _ _ _ _ _ _ _ _ _ _ _ _ _ _ _ _ _ _ _ _ _ _ _ _ _ _ _ _ _ _ _ _ _ _ _ _ _ _ _ _ _ _ _ _ _ _ _ _ _ _ _ _ _ e4 ⟨rfl, ⟨mb, i1, i2, i3, r3⟩, hT, hS, ha, hac, rfl, rfl, hfin⟩
      · exact go _ _ _ _ _ _ _ _ _ _ _ _ _ _ _ _ _ _ _ _ _ _ _ _ _ _ _ _ _ _ _ _ _ _ _ _ _ _ _ _ _ _ _ _ _ _ _ _ _ _ _ _ _ _ _ _ _ _ _ _ _ _ _ _ _ _ _ _ _ _ _ _ e4 ⟨rfl, ⟨mb, i1, i2, i3, r3⟩, hT, hS, ha, hac, rfl, rfl, hfin⟩
    refine Ok.ite (fun _ => ?_) (fun _ => ?_)
    · obtain ⟨a, ea, b, eb, r1, r2, r3, r4⟩ := pack_ok (fu := w) (by omega) hPk (poo := poo) i4 sur bud wan tri fou en eh cho out m_shs m_shp m_pls m_pl m_tak m_pld m_cel m_pie m_nxt m_cho (xs (l4 + (1 : Int32)).toNatClampNeg)
      refine Ok.pos b1 (Ok.bindE ea (Ok.pos b1 (Ok.bindE eb (Ok.bindE rfl (Ok.pos r1 ?_)))))
      refine Ok.ite (fun z => Ok.pos (by decide) (Ok.pos (r2 z) ?_)) (fun z => ?_)
      · exact go _ _ _ _ _ _ _ _ _ _ _ _ _ _ _ _ _ _ _ _ _ _ _ _ _ _ _ _ _ _ _ _ _ _ _ _ _ _ _ _ _ _ _ _ _ _ _ _ _ _ _ _ _ _ _ _ _ _ _ _ _ _ _ _ _ _ _ _ _ _ _ _ e4 ⟨rfl, ⟨mb, i1, i2, i3, r4⟩, hT, hS, ha, hac, r3, rfl, hfin⟩
      · exact go _ _ _ _ _ _ _ _ _ _ _ _ _ _ _ _ _ _ _ _ _ _ _ _ _ _ _ _ _ _ _ _ _ _ _ _ _ _ _ _ _ _ _ _ _ _ _ _ _ _ _ _ _ _ _ _ _ _ _ _ _ _ _ _ _ _ _ _ _ _ _ _ e4 ⟨rfl, ⟨mb, i1, i2, i3, r4⟩, hT, hS, ha, hac, r3, rfl, hfin⟩
    refine Ok.ite (fun _ => ?_) (fun _ => ?_)
    · refine Ok.bindE rfl (Ok.bindE rfl (Ok.pos rfl ?_))
      exact go _ _ _ _ _ _ _ _ _ _ _ _ _ _ _ _ _ _ _ _ _ _ _ _ _ _ _ _ _ _ _ _ _ _ _ _ _ _ _ _ _ _ _ _ _ _ _ _ _ _ _ _ _ _ _ _ _ _ _ _ _ _ _ _ _ _ _ _ _ _ _ _ e4 ⟨rfl, ⟨mb, hPI⟩, hT, hS, ha, hac, rfl, rfl, hfin⟩
    refine Ok.ite (fun _ => ?_) (fun _ => ?_)
    · obtain ⟨a, ea, b, eb, r1, r2, r3, r4, r5, r6⟩ := assemble_ok (fu := w) (by omega) hPk (poo := poo) i4 sur bud wan tri fou en eh cho out m_shs m_shp m_pls m_pl m_tak m_pld m_cel m_pie m_nxt m_cho ha hac (xs (l4 + (1 : Int32)).toNatClampNeg) (xs (l4 + (2 : Int32)).toNatClampNeg)
      refine Ok.pos b1 (Ok.pos b2 (Ok.bindE ea (Ok.pos b1 (Ok.pos b2 (Ok.bindE eb (Ok.bindE rfl (Ok.pos r1 ?_)))))))
      refine Ok.ite (fun z => Ok.pos (by decide) (Ok.pos (r2 z) ?_)) (fun z => ?_)
      · exact go _ _ _ _ _ _ _ _ _ _ _ _ _ _ _ _ _ _ _ _ _ _ _ _ _ _ _ _ _ _ _ _ _ _ _ _ _ _ _ _ _ _ _ _ _ _ _ _ _ _ _ _ _ _ _ _ _ _ _ _ _ _ _ _ _ _ _ _ _ _ _ _ e4 ⟨rfl, ⟨mb, i1, i2, i3, r6⟩, hT, hS, r4, r5, r3, rfl, hfin⟩
      · exact go _ _ _ _ _ _ _ _ _ _ _ _ _ _ _ _ _ _ _ _ _ _ _ _ _ _ _ _ _ _ _ _ _ _ _ _ _ _ _ _ _ _ _ _ _ _ _ _ _ _ _ _ _ _ _ _ _ _ _ _ _ _ _ _ _ _ _ _ _ _ _ _ e4 ⟨rfl, ⟨mb, i1, i2, i3, r6⟩, hT, hS, r4, r5, r3, rfl, hfin⟩
    refine Ok.ite (fun _ => ?_) (fun _ => ?_)
    · obtain ⟨a, ea, b, eb, r1, r2, r3, r4⟩ := put_ok (fu := w) (by omega) hPI ha hac m_shs m_shp (xs (l4 + (1 : Int32)).toNatClampNeg) (((xs (l4 + (2 : Int32)).toNatClampNeg).toInt64 <<< ((32 : Int32).toInt64 &&& 63)) ||| ((xs (l4 + (3 : Int32)).toNatClampNeg).toInt64 &&& (4294967295 : Int64)))
      refine Ok.pos b1 (Ok.pos b2 (Ok.pos b3 (Ok.bindE ea (Ok.pos b1 (Ok.pos b2 (Ok.pos b3 (Ok.bindE eb (Ok.bindE rfl (Ok.pos r1 ?_)))))))))
      exact go _ _ _ _ _ _ _ _ _ _ _ _ _ _ _ _ _ _ _ _ _ _ _ _ _ _ _ _ _ _ _ _ _ _ _ _ _ _ _ _ _ _ _ _ _ _ _ _ _ _ _ _ _ _ _ _ _ _ _ _ _ _ _ _ _ _ _ _ _ _ _ _ e4 ⟨rfl, ⟨mb, i1, i2, i3, r2⟩, hT, hS, r3, r4, rfl, rfl, hfin⟩
    refine Ok.ite (fun _ => ?_) (fun _ => ?_)
    · obtain ⟨a, ea, b, eb, r1, r2, r3⟩ := take_ok ha hac (xs (l4 + (1 : Int32)).toNatClampNeg)
      refine Ok.pos b1 (Ok.bindE ea (Ok.pos b1 (Ok.bindE eb (Ok.bindE rfl (Ok.pos r1 ?_)))))
      exact go _ _ _ _ _ _ _ _ _ _ _ _ _ _ _ _ _ _ _ _ _ _ _ _ _ _ _ _ _ _ _ _ _ _ _ _ _ _ _ _ _ _ _ _ _ _ _ _ _ _ _ _ _ _ _ _ _ _ _ _ _ _ _ _ _ _ _ _ _ _ _ _ e4 ⟨rfl, ⟨mb, hPI⟩, hT, hS, r2, r3, rfl, rfl, hfin⟩
    refine Ok.ite (fun _ => ?_) (fun _ => ?_)
    · obtain ⟨a, ea, b, eb, r1, r2⟩ := cells_ok ha out (xs (l4 + (1 : Int32)).toNatClampNeg)
      refine Ok.pos b1 (Ok.bindE ea (Ok.pos b1 (Ok.bindE eb (Ok.bindE rfl (Ok.pos r1 ?_)))))
      refine Ok.ite (fun z => Ok.pos (by decide) (Ok.pos (r2 z) ?_)) (fun z => ?_)
      · exact go _ _ _ _ _ _ _ _ _ _ _ _ _ _ _ _ _ _ _ _ _ _ _ _ _ _ _ _ _ _ _ _ _ _ _ _ _ _ _ _ _ _ _ _ _ _ _ _ _ _ _ _ _ _ _ _ _ _ _ _ _ _ _ _ _ _ _ _ _ _ _ _ e4 ⟨rfl, ⟨mb, hPI⟩, hT, hS, ha, hac, rfl, rfl, hfin⟩
      · exact go _ _ _ _ _ _ _ _ _ _ _ _ _ _ _ _ _ _ _ _ _ _ _ _ _ _ _ _ _ _ _ _ _ _ _ _ _ _ _ _ _ _ _ _ _ _ _ _ _ _ _ _ _ _ _ _ _ _ _ _ _ _ _ _ _ _ _ _ _ _ _ _ e4 ⟨rfl, ⟨mb, hPI⟩, hT, hS, ha, hac, rfl, rfl, hfin⟩
    refine Ok.ite (fun _ => ?_) (fun _ => ?_)
    · obtain ⟨a, ea, b, eb, r1, r2, r3, r4⟩ := lplan_ok (fu := w) (by omega) ha hac at' pa mo le hd nt ct sts6 blo bhi bem glo ghi gem rlo rhi rem rom fnd fc prt lim out m_cbs m_cub ct m_stt m_frm m_by m_wrk m_oth m_mvs m_mov rfl hfin (xs (l4 + (1 : Int32)).toNatClampNeg) (xs (l4 + (2 : Int32)).toNatClampNeg)
      refine Ok.pos b1 (Ok.pos b2 (Ok.bindE ea (Ok.pos b1 (Ok.pos b2 (Ok.bindE eb (Ok.bindE rfl (Ok.pos r1 ?_)))))))
      refine Ok.ite (fun z => Ok.pos (by decide) (Ok.pos (r2 z) ?_)) (fun z => ?_)
      · exact go _ _ _ _ _ _ _ _ _ _ _ _ _ _ _ _ _ _ _ _ _ _ _ _ _ _ _ _ _ _ _ _ _ _ _ _ _ _ _ _ _ _ _ _ _ _ _ _ _ _ _ _ _ _ _ _ _ _ _ _ _ _ _ _ _ _ _ _ _ _ _ _ e4 ⟨rfl, ⟨mb, hPI⟩, hT, hS, ha, hac, rfl, r3, r4⟩
      · exact go _ _ _ _ _ _ _ _ _ _ _ _ _ _ _ _ _ _ _ _ _ _ _ _ _ _ _ _ _ _ _ _ _ _ _ _ _ _ _ _ _ _ _ _ _ _ _ _ _ _ _ _ _ _ _ _ _ _ _ _ _ _ _ _ _ _ _ _ _ _ _ _ e4 ⟨rfl, ⟨mb, hPI⟩, hT, hS, ha, hac, rfl, r3, r4⟩
    refine Ok.ite (fun _ => ?_) (fun _ => ?_)
    · refine Ok.bindE rfl (Ok.bindE rfl (Ok.pos rfl ?_))
      exact go _ _ _ _ _ _ _ _ _ _ _ _ _ _ _ _ _ _ _ _ _ _ _ _ _ _ _ _ _ _ _ _ _ _ _ _ _ _ _ _ _ _ _ _ _ _ _ _ _ _ _ _ _ _ _ _ _ _ _ _ _ _ _ _ _ _ _ _ _ _ _ _ e4 ⟨rfl, ⟨mb, hPI⟩, hT, hS, ha, hac, rfl, rfl, hfin⟩
    refine Ok.ite (fun _ => ?_) (fun _ => ?_)
    · obtain ⟨a, ea, b, eb, r1, r2⟩ := move_ok hfin out (xs (l4 + (1 : Int32)).toNatClampNeg)
      refine Ok.pos b1 (Ok.bindE ea (Ok.pos b1 (Ok.bindE eb (Ok.bindE rfl (Ok.pos r1 ?_)))))
      refine Ok.ite (fun z => Ok.pos (by decide) (Ok.pos (r2 z) ?_)) (fun z => ?_)
      · exact go _ _ _ _ _ _ _ _ _ _ _ _ _ _ _ _ _ _ _ _ _ _ _ _ _ _ _ _ _ _ _ _ _ _ _ _ _ _ _ _ _ _ _ _ _ _ _ _ _ _ _ _ _ _ _ _ _ _ _ _ _ _ _ _ _ _ _ _ _ _ _ _ e4 ⟨rfl, ⟨mb, hPI⟩, hT, hS, ha, hac, rfl, rfl, hfin⟩
      · exact go _ _ _ _ _ _ _ _ _ _ _ _ _ _ _ _ _ _ _ _ _ _ _ _ _ _ _ _ _ _ _ _ _ _ _ _ _ _ _ _ _ _ _ _ _ _ _ _ _ _ _ _ _ _ _ _ _ _ _ _ _ _ _ _ _ _ _ _ _ _ _ _ e4 ⟨rfl, ⟨mb, hPI⟩, hT, hS, ha, hac, rfl, rfl, hfin⟩
    exact go _ _ _ _ _ _ _ _ _ _ _ _ _ _ _ _ _ _ _ _ _ _ _ _ _ _ _ _ _ _ _ _ _ _ _ _ _ _ _ _ _ _ _ _ _ _ _ _ _ _ _ _ _ _ _ _ _ _ _ _ _ _ _ _ _ _ _ _ _ _ _ _ e4 ⟨rfl, ⟨mb, hPI⟩, hT, hS, ha, hac, rfl, rfl, hfin⟩
